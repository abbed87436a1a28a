/-! CLEAR, JUDGE, ROW, FEED, COUNT -/
def nwC (nm : St → Int32) (nw : St → St) (S : St) : St := if nm S = 0 then nw S else rfS S (nm S)
def XP (h : HP) (an : Int32) (nS : St) (v : Int32) (h1 : HP) : Prop := v = an ∧ XS h1 nS ∧ ∀ a, 110 ≤ a → h1.1 a = h.1 a
def YP (h : HP) (an : Int32) (nS : St) (v : Int32) (h1 : HP) : Prop := v = an ∧ YS h1 nS ∧ (∀ a, a < 110 → h1.1 a = h.1 a) ∧ h1.2 = h.2
theorem Ok.c {X Y : M Int32} (nm am : St → Int32) (nw : St → St) (hx : ∀ h S, XS h S → GoodS S → wp X h (XP h (anQ nm am S) (nwC nm nw S))) (hy : ∀ h S, RefOk h.2 → YS h S → GoodS S → wp Y h (YP h (anQ nm am S) (nwC nm nw S))) (hg : ∀ S, GoodS S → nm S = 0 → GoodS (nw S)) : Ok X Y := Ok.of hx hy fun S G => by
  unfold nwC
  by_cases c : nm S = 0
  · rw [if_pos c]
    exact hg S G c
  · rw [if_neg c]
    exact rfS_good G
theorem cXr {h : HP} {S : St} {nm am : St → Int32} {nw : St → St} {c : Int32} (xs : XS h S) (e : c = nm S) (hc : IsNo c) : wp (bnd (cv 5 0 (f_X6_refuse 0 c)) fun t => rt t) h (XP h (anQ nm am S) (nwC nm nw S)) := by
  subst e
  refine wp_call (show cv 5 0 (f_X6_refuse 0 (nm S)) h = _ from X6_refuse xs.1 hc) (wp_rt ?_)
  unfold XP anQ nwC
  rw [if_neg (isno0 hc), if_neg (isno0 hc)]
  exact ⟨rfl, xs.rf hc, fun a ha => Rf_ne (by omega)⟩
theorem cXg {h : HP} {S : St} {nm am : St → Int32} {nw : St → St} {c : Int32} {B : M Int32} (xs : XS h S) (e : c = nm S) (hc : c = 0 ∨ IsNo c) (H : nm S = 0 → wp B h (XP h (am S) (nw S))) : wp (if c = 0 then B else bnd (cv 5 0 (f_X6_refuse 0 c)) fun t => rt t) h (XP h (anQ nm am S) (nwC nm nw S)) := by
  rcases hc with c0 | c1
  · have e0 : nm S = 0 := by rw [← e]; exact c0
    rw [if_pos c0]
    refine wp_mono (H e0) fun v h1 q => ?_
    unfold anQ nwC
    rw [if_pos e0, if_pos e0]
    exact q
  · rw [if_neg (isno0 c1)]
    exact cXr xs e c1
theorem cYr {h : HP} {S : St} {nm am : St → Int32} {nw : St → St} {c : Int32} (R : RefOk h.2) (ys : YS h S) (e : c = nm S) (hc : IsNo c) : wp (bnd (cv 6 110 (f_X7_no 110 c)) fun t => rt t) h (YP h (anQ nm am S) (nwC nm nw S)) := by
  subst e
  refine wp_call (show cv 6 110 (f_X7_no 110 (nm S)) h = _ from X7_no R hc) (wp_rt ?_)
  unfold YP anQ nwC
  rw [if_neg (isno0 hc), if_neg (isno0 hc)]
  exact ⟨rfl, ys.rf hc, fun a ha => Rf_ne (by omega), rfl⟩
theorem cYz {h : HP} {S : St} {nm am : St → Int32} {nw : St → St} {B : M Int32} (e0 : nm S = 0) (H : wp B h (YP h (am S) (nw S))) : wp B h (YP h (anQ nm am S) (nwC nm nw S)) := by
  unfold anQ nwC
  rw [if_pos e0, if_pos e0]
  exact H
theorem cXz {h : HP} {S : St} {nm am : St → Int32} {nw : St → St} {B : M Int32} (e0 : nm S = 0) (H : wp B h (XP h (am S) (nw S))) : wp B h (XP h (anQ nm am S) (nwC nm nw S)) := by
  unfold anQ nwC
  rw [if_pos e0, if_pos e0]
  exact H
theorem cYg {h : HP} {S : St} {nm am : St → Int32} {nw : St → St} {c : Int32} {B : M Int32} (R : RefOk h.2) (ys : YS h S) (e : c = nm S) (hc : c = 0 ∨ IsNo c) (H : nm S = 0 → wp B h (YP h (am S) (nw S))) : wp (if c = 0 then B else bnd (cv 6 110 (f_X7_no 110 c)) fun t => rt t) h (YP h (anQ nm am S) (nwC nm nw S)) := by
  rcases hc with c0 | c1
  · have e0 : nm S = 0 := by rw [← e]; exact c0
    rw [if_pos c0]
    exact cYz e0 (H e0)
  · rw [if_neg (isno0 c1)]
    exact cYr R ys e c1
/-- one row otherwise: the told row -/
def rowS (S : St) (L : LV) : St := (S.1, S.2.1, L, S.2.2.2)
theorem XS.row {h h1 : HP} {S : St} {L : LV} (X : XS h S) (e : h1.2 = h.2) (e0 : h1.1 0 3 = h.1 0 3) (eo : ∀ a, a < 110 → ¬ a = 0 → ¬ a = 104 → h1.1 a = h.1 a) (T : RowX h1 L) : XS h1 (rowS S L) := by
  obtain ⟨x0, x1, x2, x3, x4, x5, x6, x7⟩ := X
  exact ⟨by rw [e]; exact x0, x1.fr fun a h1 h2 => eo a (by omega) (by omega) (by omega), x2.fr (eo 10 (by omega) (by omega) (by omega)) (eo 11 (by omega) (by omega) (by omega)), T, x4.fr (eo 102 (by omega) (by omega) (by omega)) (eo 103 (by omega) (by omega) (by omega)), x5.fr e0 (fun a h1 h2 => eo a (by omega) (by omega) (by omega)), x6.fr e (fun a h1 h2 => eo a (by omega) (by omega) (by omega)), fun k hk => by rw [eo 105 (by omega) (by omega) (by omega)]; exact x7 k hk⟩
theorem YS.row {h h1 : HP} {S : St} {L : LV} (Y : YS h S) (e0 : ∀ k, ¬ k = 25 → h1.1 110 k = h.1 110 k) (eo : ∀ a, 111 ≤ a → ¬ a = 126 → h1.1 a = h.1 a) (T : RowY h1 L) : YS h1 (rowS S L) := by
  obtain ⟨y1, y2, y3, y4, y5, y6, y7⟩ := Y
  exact ⟨y1.fr (e0 _ (by omega)) (e0 _ (by omega)) fun a h1 h2 => eo a (by omega) (by omega), y2.fr (eo 117 (by omega) (by omega)) (eo 118 (by omega) (by omega)), T, y4.fr (e0 _ (by omega)) (eo 119 (by omega) (by omega)), y5.fr (e0 _ (by omega)) (fun j _ => by rw [eo 123 (by omega) (by omega)]), y6.fr (e0 _ (by omega)) (fun j _ => by rw [eo 123 (by omega) (by omega)]), fun k hk => by rw [eo 111 (by omega) (by omega)]; exact y7 k hk⟩
theorem XS.row8 {h : HP} {S : St} {n : Nat} (X : XS h S) : XS (setR h.1 0 (upd (h.1 0) 8 (nI n)), h.2) (rowS S (n, S.2.2.1.2)) := by
  refine X.row rfl ?_ (fun a h1 h2 h3 => by dsimp only; rw [set_ne _ _ h2]) ⟨?_, fun k hk => ?_⟩
  · dsimp only
    rw [set_eq, upd_ne _ _ (by decide)]
  · dsimp only
    rw [set_eq, upd_eq]
  · dsimp only
    rw [set_ne _ _ (by decide)]
    exact X.2.2.2.1.2 k hk
theorem YS.row25 {h : HP} {S : St} {n : Nat} (Y : YS h S) : YS (setR h.1 110 (upd (h.1 110) 25 (nI n)), h.2) (rowS S (n, S.2.2.1.2)) := by
  refine Y.row (fun k hk => ?_) (fun a h1 h2 => by dsimp only; rw [set_ne _ _ (by omega)]) ⟨?_, fun k hk => ?_⟩
  · dsimp only
    rw [set_eq, upd_ne _ _ hk]
  · dsimp only
    rw [set_eq, upd_eq]
  · dsimp only
    rw [set_ne _ _ (by decide)]
    exact Y.2.2.1.2 k hk
theorem one_hi {h : HP} {b : Nat} {r : Nat → Int32} (hb : b < 110) : ∀ a, 110 ≤ a → (setR h.1 b r, h.2).1 a = h.1 a := fun a ha => by
  dsimp only
  rw [set_ne _ _ (by omega)]
theorem one_lo {h : HP} {b : Nat} {r : Nat → Int32} (hb : 110 ≤ b) : ∀ a, a < 110 → (setR h.1 b r, h.2).1 a = h.1 a := fun a ha => by
  dsimp only
  rw [set_ne _ _ (by omega)]
theorem ok_clear : Ok (f_X6_clear 0) (f_X7_clear 110) := by
  refine Ok.of (an := fun S => nI S.2.2.1.1) (nw := fun S => rowS S (0, S.2.2.1.2)) (fun h S xs gs => ?_) (fun h S R ys gs => ?_) fun S G => ?_
  · unfold f_X6_clear
    refine wp_eq g0_8 (wp_eq p0_8 (wp_rt ⟨xs.2.2.2.1.1, xs.row8 (n := 0), one_hi (by omega)⟩))
  · unfold f_X7_clear
    refine wp_eq g110_25 (wp_eq p110_25 (wp_rt ⟨ys.2.2.1.1, ys.row25 (n := 0), one_lo (by omega), rfl⟩))
  · exact ⟨G.1, G.2.1, ⟨Nat.zero_le _, G.2.2.1.2⟩, G.2.2.2⟩
/-! judge -/
def jdP (S : St) (k : Nat) : Bool := decide (S.1.2.1 ≤ k) || !decide (S.1.1 3 k = S.2.2.1.2 k)
def jdS (S : St) : Int32 := match fnd (fun k => jdP S k = true) S.2.2.1.1 0 with
  | none => -9
  | some k => nI k
theorem X0_hasN {h : HP} {b n k : Nat} (H : FB h.2 b) (e : h.1 b 0 = nI n) (hn : n ≤ 7) (hk : k < 100) : cv 0 b (f_X0_has b (nI k)) h = some (if n ≤ k then 0 else 1, h) := by
  rw [e_cv H.1.1, X0_has H e]
  by_cases c : n ≤ k
  · rw [if_pos c, if_neg]
    intro q
    obtain ⟨j, hj, ej⟩ := pn_ix q (by omega)
    have := (nI_eq (by omega) (by omega)).mp ej
    omega
  · rw [if_neg c, pn_nI (by omega) (by omega)]
    rfl
theorem ok_judge : Ok (f_X6_judge 0) (f_X7_judge 110) := by
  refine Ok.of (an := jdS) (nw := fun S => rowS S (0, S.2.2.1.2)) (fun h S xs gs => ?_) (fun h S R ys gs => ?_) fun S G => ?_
  · have hn := gs.1.1.1.1
    have hl := gs.2.2.1
    unfold f_X6_judge
    refine wp_eq g0_8 (wp_eq p0_8 ?_)
    rw [xs.2.2.2.1.1]
    have X1 := xs.row8 (n := 0)
    refine ⟨_, _, ?_, rfl, X1, one_hi (by omega)⟩
    generalize hh : (setR h.1 0 (upd (h.1 0) 8 (nI 0)), h.2) = h1 at X1
    rw [show (setR h.1 0 (upd (h.1 0) 8 0), h.2) = h1 from hh]
    have R := X1.1
    have F : FolkIs h1 2 S.1 := X1.2.1
    have T : ∀ k, k < 12 → h1.1 104 k = nI (S.2.2.1.2 k) := X1.2.2.2.1.2
    have B := FB.of R (b := 2) (by decide)
    refine lp_first (fun k => jdP S k = true) 0 S.2.2.1.1 (by have := hl.1; omega) (fun i _ hi c k => ?_) (fun i _ hi c e k => ?_) (fun e k => ?_)
    · have hi2 : i < 12 := by have := hl.1; omega
      have l2 := hl.2 i hi2
      unfold jdP at c
      rw [Bool.or_eq_true, decide_eq_true_eq] at c
      have c1 : ¬ S.1.2.1 ≤ i := fun q => c (Or.inl q)
      have c2 : S.1.1 3 i = S.2.2.1.2 i := Classical.byContradiction fun q => c (Or.inr (by simp [q]))
      rw [ifa, if_neg (nI_ge (show i < S.2.2.1.1 by omega) (by have := hl.1; omega)), x_gr0 R, e_bnd (X0_hasN B F.1.1 hn (by omega)), if_neg c1, ifa, if_neg (show ¬ (1 : Int32) = 0 by decide), x_gr0 R, bR6 B, bA4 B (show i < 7 by omega), F.2.2.2.2.1 i (by omega), g0_7 R, a104 hi2, T i hi2, ifa, if_pos (show nI (S.1.1 3 i) = nI (S.2.2.1.2 i) by rw [c2]), nI_1]
    · have hi2 : i < 12 := by have := hl.1; omega
      have l2 := hl.2 i hi2
      unfold jdP at c
      rw [Bool.or_eq_true, decide_eq_true_eq] at c
      rw [ifa, if_neg (nI_ge (show i < S.2.2.1.1 by omega) (by have := hl.1; omega)), x_gr0 R, e_bnd (X0_hasN B F.1.1 hn (by omega))]
      unfold jdS
      rw [e]
      by_cases c1 : S.1.2.1 ≤ i
      · rw [if_pos c1, ifa, if_pos rfl]
        rfl
      · have c2 : ¬ S.1.1 3 i = S.2.2.1.2 i := by
          rcases c with q | q
          · exact absurd q c1
          · simpa using q
        have l3 := (gs.1.1.2 i (by omega)).2.2.2.1
        rw [if_neg c1, ifa, if_neg (show ¬ (1 : Int32) = 0 by decide), x_gr0 R, bR6 B, bA4 B (show i < 7 by omega), F.2.2.2.2.1 i (by omega), g0_7 R, a104 hi2, T i hi2, ifa, if_neg (fun q => c2 ((nI_eq (by omega) (by omega)).mp q))]
        rfl
    · rw [Nat.zero_add, ifa, if_pos (nI_le (Nat.le_refl _) (by have := hl.1; omega))]
      unfold jdS
      rw [e]
      rfl
  · have hn := gs.1.1.1.1
    have hl := gs.2.2.1
    unfold f_X7_judge
    refine wp_eq g110_25 (wp_eq p110_25 ?_)
    rw [ys.2.2.1.1]
    have Y1 := ys.row25 (n := 0)
    refine ⟨_, _, ?_, rfl, Y1, one_lo (by omega), rfl⟩
    have R1 : RefOk (setR h.1 110 (upd (h.1 110) 25 (nI 0)), h.2).2 := R
    generalize hh : (setR h.1 110 (upd (h.1 110) 25 (nI 0)), h.2) = h1 at Y1 R1
    rw [show (setR h.1 110 (upd (h.1 110) 25 0), h.2) = h1 from hh]
    have F : ModIs h1 S.1 := Y1.1
    have T : ∀ k, k < 12 → h1.1 126 k = nI (S.2.2.1.2 k) := Y1.2.2.1.2
    refine lp_first (fun k => jdP S k = true) 0 S.2.2.1.1 (by have := hl.1; omega) (fun i _ hi c k => ?_) (fun i _ hi c e k => ?_) (fun e k => ?_)
    · have hi2 : i < 12 := by have := hl.1; omega
      have l2 := hl.2 i hi2
      unfold jdP at c
      rw [Bool.or_eq_true, decide_eq_true_eq] at c
      have c1 : ¬ S.1.2.1 ≤ i := fun q => c (Or.inl q)
      have c2 : S.1.1 3 i = S.2.2.1.2 i := Classical.byContradiction fun q => c (Or.inr (by simp [q]))
      rw [ifa, if_neg (nI_ge (show i < S.2.2.1.1 by omega) (by have := hl.1; omega)), g110_8, F.1.1, ifa, if_neg (nI_ge (b := S.1.2.1) (by omega) (by omega)), g110_4 R1, a115 (show i < 7 by omega), F.2.2.2.2.1 i (by omega), g110_24 R1, a126 hi2, T i hi2, ifa, if_pos (show nI (S.1.1 3 i) = nI (S.2.2.1.2 i) by rw [c2]), nI_1]
    · have hi2 : i < 12 := by have := hl.1; omega
      have l2 := hl.2 i hi2
      unfold jdP at c
      rw [Bool.or_eq_true, decide_eq_true_eq] at c
      rw [ifa, if_neg (nI_ge (show i < S.2.2.1.1 by omega) (by have := hl.1; omega)), g110_8, F.1.1, ifa]
      unfold jdS
      rw [e]
      by_cases c1 : S.1.2.1 ≤ i
      · rw [if_pos (show nI S.1.2.1 ≤ nI i from nI_le c1 (by omega))]
        rfl
      · have c2 : ¬ S.1.1 3 i = S.2.2.1.2 i := by
          rcases c with q | q
          · exact absurd q c1
          · simpa using q
        have l3 := (gs.1.1.2 i (by omega)).2.2.2.1
        rw [if_neg (show ¬ nI S.1.2.1 ≤ nI i from nI_ge (by omega) (by omega)), g110_4 R1, a115 (show i < 7 by omega), F.2.2.2.2.1 i (by omega), g110_24 R1, a126 hi2, T i hi2, ifa, if_neg (fun q => c2 ((nI_eq (by omega) (by omega)).mp q))]
        rfl
    · rw [Nat.zero_add, ifa, if_pos (nI_le (Nat.le_refl _) (by have := hl.1; omega))]
      unfold jdS
      rw [e]
      rfl
  · exact ⟨G.1, G.2.1, ⟨Nat.zero_le _, G.2.2.1.2⟩, G.2.2.2⟩
/-! row, feed -/
def rwN (x : Int32) (S : St) : Int32 := fs (ob x 0 99) (if S.2.2.1.1 < 12 then 0 else -6)
def rwS (x : Int32) (S : St) : St := rowS S (S.2.2.1.1 + 1, fun k => if k = S.2.2.1.1 then ix x else S.2.2.1.2 k)
theorem six_no {P : Prop} [Decidable P] : (if P then (0 : Int32) else -6) = 0 ∨ IsNo (if P then (0 : Int32) else -6) := by
  split
  · exact Or.inl rfl
  · exact Or.inr (Or.inr (Or.inr (Or.inr (Or.inr rfl))))
theorem six_z {P : Prop} [Decidable P] (h : (if P then (0 : Int32) else -6) = 0) : P := by
  by_cases c : P
  · exact c
  · rw [if_neg c] at h
    exact absurd h (by decide)
theorem ok_row (x : Int32) : Ok (f_X6_row 0 x) (f_X7_row 110 x) := by
  refine Ok.c (rwN x) (fun S => nI (S.2.2.1.1 + 1)) (rwS x) (fun h S xs gs => ?_) (fun h S R ys gs => ?_) fun S G e => ?_
  · have hl := gs.2.2.1
    unfold f_X6_row
    refine wp_call X6_outside ?_
    have H2 : ∀ K : Int32 → M Int32, wp (K (rwN x S)) h (XP h (anQ (rwN x) (fun S => nI (S.2.2.1.1 + 1)) S) (nwC (rwN x) (rwS x) S)) → wp (jn (fun k4 => if ¬ ob x 0 99 = (0 : Int32) then k4 (ob x 0 99) else bnd (gI 5 8 0) fun t11 => if t11 < (12 : Int32) then k4 (ob x 0 99) else k4 (-6 : Int32)) K) h (XP h (anQ (rwN x) (fun S => nI (S.2.2.1.1 + 1)) S) (nwC (rwN x) (rwS x) S)) := fun K H => by
      unfold jn
      dsimp only
      by_cases c : ob x 0 99 = 0
      · rw [if_neg (fun q => q c), c]
        refine wp_eq g0_8 ?_
        rw [xs.2.2.2.1.1]
        have e : rwN x S = (if S.2.2.1.1 < 12 then 0 else -6) := by
          unfold rwN
          rw [c]
          rfl
        rw [e] at H
        by_cases d : S.2.2.1.1 < 12
        · rw [if_pos (show nI S.2.2.1.1 < (12 : Int32) from (nI_ltI (b := 12) (by omega) (by omega)).mpr d)]
          rw [if_pos d] at H
          exact H
        · rw [if_neg (show ¬ nI S.2.2.1.1 < (12 : Int32) from fun q => d ((nI_ltI (b := 12) (by have := hl.1; omega) (by omega)).mp q))]
          rw [if_neg d] at H
          exact H
      · rw [if_pos c]
        have e : rwN x S = ob x 0 99 := if_neg c
        rw [e] at H
        exact H
    refine H2 _ (cXg xs rfl (fs_no ob_no six_no) fun e => ?_)
    have d := six_z (fs_z e).2
    obtain ⟨v, -, hv, rfl⟩ := ob_ix (lo := 0) (hi := 99) (fs_z e).1 (by omega) (by omega)
    have R := xs.1
    have T := xs.2.2.2.1
    refine wp_eq (g0_7 R) (wp_eq g0_8 ?_)
    rw [T.1]
    refine wp_eq (s104 d) (wp_eq g0_8 (wp_eq p0_8 (wp_eq g0_8 (wp_rt ⟨?_, ?_, fun a ha => ?_⟩))))
    · dsimp only
      rw [set_eq, upd_eq, set_ne _ _ (by decide), T.1, nI_1]
    · unfold rwS
      refine xs.row rfl ?_ (fun a h1 h2 h3 => by dsimp only; rw [set_ne _ _ h2, set_ne _ _ h3]) ⟨?_, fun k hk => ?_⟩
      · dsimp only
        rw [set_eq, upd_ne _ _ (by decide), set_ne _ _ (by decide)]
      · dsimp only
        rw [set_eq, upd_eq, set_ne _ _ (by decide), T.1, nI_1]
      · dsimp only
        rw [set_ne _ _ (by decide), set_eq, ix_nI (by omega)]
        by_cases q : k = S.2.2.1.1
        · rw [if_pos q, q, upd_eq]
        · rw [if_neg q, upd_ne _ _ q]
          exact T.2 k hk
    · dsimp only
      rw [set_ne _ _ (by omega), set_ne _ _ (by omega)]
  · have hl := gs.2.2.1
    unfold f_X7_row
    refine wp_call X7_bound ?_
    have H2 : ∀ K : Int32 → M Int32, wp (K (rwN x S)) h (YP h (anQ (rwN x) (fun S => nI (S.2.2.1.1 + 1)) S) (nwC (rwN x) (rwS x) S)) → wp (jn (fun k4 => if ¬ ob x 0 99 = (0 : Int32) then k4 (ob x 0 99) else bnd (gI 6 25 110) fun t11 => if ¬ t11 = (12 : Int32) then k4 (ob x 0 99) else k4 (-6 : Int32)) K) h (YP h (anQ (rwN x) (fun S => nI (S.2.2.1.1 + 1)) S) (nwC (rwN x) (rwS x) S)) := fun K H => by
      unfold jn
      dsimp only
      by_cases c : ob x 0 99 = 0
      · rw [if_neg (fun q => q c), c]
        refine wp_eq g110_25 ?_
        rw [ys.2.2.1.1]
        have e : rwN x S = (if S.2.2.1.1 < 12 then 0 else -6) := by
          unfold rwN
          rw [c]
          rfl
        rw [e] at H
        by_cases d : S.2.2.1.1 < 12
        · rw [if_pos (show ¬ nI S.2.2.1.1 = (12 : Int32) from fun q => by have := (nI_eq (b := 12) (by omega) (by omega)).mp q; omega)]
          rw [if_pos d] at H
          exact H
        · rw [if_neg (show ¬ ¬ nI S.2.2.1.1 = (12 : Int32) from fun q => q (by rw [show S.2.2.1.1 = 12 by have := hl.1; omega]; rfl))]
          rw [if_neg d] at H
          exact H
      · rw [if_pos c]
        have e : rwN x S = ob x 0 99 := if_neg c
        rw [e] at H
        exact H
    refine H2 _ (cYg R ys rfl (fs_no ob_no six_no) fun e => ?_)
    have d := six_z (fs_z e).2
    obtain ⟨v, -, hv, rfl⟩ := ob_ix (lo := 0) (hi := 99) (fs_z e).1 (by omega) (by omega)
    have T := ys.2.2.1
    refine wp_eq (g110_24 R) (wp_eq g110_25 ?_)
    rw [T.1]
    refine wp_eq (s126 d) (wp_eq g110_25 (wp_eq p110_25 (wp_eq g110_25 (wp_rt ⟨?_, ?_, fun a ha => ?_, rfl⟩))))
    · dsimp only
      rw [set_eq, upd_eq, set_ne _ _ (by decide), T.1, nI_1]
    · unfold rwS
      refine ys.row (fun k hk => ?_) (fun a h1 h2 => by dsimp only; rw [set_ne _ _ (by omega), set_ne _ _ h2]) ⟨?_, fun k hk => ?_⟩
      · dsimp only
        rw [set_eq, upd_ne _ _ hk, set_ne _ _ (by decide)]
      · dsimp only
        rw [set_eq, upd_eq, set_ne _ _ (by decide), T.1, nI_1]
      · dsimp only
        rw [set_ne _ _ (by decide), set_eq, ix_nI (by omega)]
        by_cases q : k = S.2.2.1.1
        · rw [if_pos q, q, upd_eq]
        · rw [if_neg q, upd_ne _ _ q]
          exact T.2 k hk
    · dsimp only
      rw [set_ne _ _ (by omega), set_ne _ _ (by omega)]
  · have d := six_z (fs_z e).2
    obtain ⟨v, -, hv, rfl⟩ := ob_ix (lo := 0) (hi := 99) (fs_z e).1 (by omega) (by omega)
    refine ⟨G.1, G.2.1, ⟨d, fun k hk => ?_⟩, G.2.2.2⟩
    show (if k = S.2.2.1.1 then ix (nI v) else S.2.2.1.2 k) ≤ 99
    rw [ix_nI (by omega)]
    split
    · exact hv
    · exact G.2.2.1.2 k hk
def letS (S : St) (T : LV) : St := (S.1, S.2.1, S.2.2.1, T, S.2.2.2.2)
theorem XS.let {h h1 : HP} {S : St} {T : LV} (X : XS h S) (e : h1.2 = h.2) (eo : ∀ a, a < 110 → ¬ a = 102 → ¬ a = 103 → h1.1 a = h.1 a) (H : LetX h1 T) : XS h1 (letS S T) := by
  obtain ⟨x0, x1, x2, x3, x4, x5, x6, x7⟩ := X
  exact ⟨by rw [e]; exact x0, x1.fr fun a h1 h2 => eo a (by omega) (by omega) (by omega), x2.fr (eo 10 (by omega) (by omega) (by omega)) (eo 11 (by omega) (by omega) (by omega)), x3.fr (by rw [eo 0 (by omega) (by omega) (by omega)]) (eo 104 (by omega) (by omega) (by omega)), H, x5.fr (by rw [eo 0 (by omega) (by omega) (by omega)]) (fun a h1 h2 => eo a (by omega) (by omega) (by omega)), x6.fr e (fun a h1 h2 => eo a (by omega) (by omega) (by omega)), fun k hk => by rw [eo 105 (by omega) (by omega) (by omega)]; exact x7 k hk⟩
theorem YS.let {h h1 : HP} {S : St} {T : LV} (Y : YS h S) (e0 : ∀ k, ¬ k = 14 → h1.1 110 k = h.1 110 k) (eo : ∀ a, 111 ≤ a → ¬ a = 119 → h1.1 a = h.1 a) (H : LetY h1 T) : YS h1 (letS S T) := by
  obtain ⟨y1, y2, y3, y4, y5, y6, y7⟩ := Y
  exact ⟨y1.fr (e0 _ (by omega)) (e0 _ (by omega)) fun a h1 h2 => eo a (by omega) (by omega), y2.fr (eo 117 (by omega) (by omega)) (eo 118 (by omega) (by omega)), y3.fr (e0 _ (by omega)) (eo 126 (by omega) (by omega)), H, y5.fr (e0 _ (by omega)) (fun j _ => by rw [eo 123 (by omega) (by omega)]), y6.fr (e0 _ (by omega)) (fun j _ => by rw [eo 123 (by omega) (by omega)]), fun k hk => by rw [eo 111 (by omega) (by omega)]; exact y7 k hk⟩
def feN (x : Int32) (S : St) : Int32 := fs (ob x 0 255) (if S.2.2.2.1.1 < 96 then 0 else -6)
def feS (x : Int32) (S : St) : St := letS S (S.2.2.2.1.1 + 1, fun k => if k = S.2.2.2.1.1 then ix x else S.2.2.2.1.2 k)
theorem ok_feed (x : Int32) : Ok (f_X6_feed 0 x) (f_X7_feed 110 x) := by
  refine Ok.c (feN x) (fun S => nI (S.2.2.2.1.1 + 1)) (feS x) (fun h S xs gs => ?_) (fun h S R ys gs => ?_) fun S G e => ?_
  · have hl := gs.2.2.2.1
    have R := xs.1
    have T := xs.2.2.2.2.1
    unfold f_X6_feed
    refine wp_call X6_outside ?_
    have H2 : ∀ K : Int32 → M Int32, wp (K (feN x S)) h (XP h (anQ (feN x) (fun S => nI (S.2.2.2.1.1 + 1)) S) (nwC (feN x) (feS x) S)) → wp (jn (fun k4 => if ¬ ob x 0 255 = (0 : Int32) then k4 (ob x 0 255) else bnd (gR 5 6 0) fun r10 => bnd (gI 1 0 r10) fun t11 => if t11 < (96 : Int32) then k4 (ob x 0 255) else k4 (-6 : Int32)) K) h (XP h (anQ (feN x) (fun S => nI (S.2.2.2.1.1 + 1)) S) (nwC (feN x) (feS x) S)) := fun K H => by
      unfold jn
      dsimp only
      by_cases c : ob x 0 255 = 0
      · rw [if_neg (fun q => q c), c]
        refine wp_eq (g0_6 R) (wp_eq g102_0 ?_)
        rw [T.1]
        have e : feN x S = (if S.2.2.2.1.1 < 96 then 0 else -6) := by
          unfold feN
          rw [c]
          rfl
        rw [e] at H
        by_cases d : S.2.2.2.1.1 < 96
        · rw [if_pos (show nI S.2.2.2.1.1 < (96 : Int32) from (nI_ltI (b := 96) (by omega) (by omega)).mpr d)]
          rw [if_pos d] at H
          exact H
        · rw [if_neg (show ¬ nI S.2.2.2.1.1 < (96 : Int32) from fun q => d ((nI_ltI (b := 96) (by have := hl.1; omega) (by omega)).mp q))]
          rw [if_neg d] at H
          exact H
      · rw [if_pos c]
        have e : feN x S = ob x 0 255 := if_neg c
        rw [e] at H
        exact H
    refine H2 _ (cXg xs rfl (fs_no ob_no six_no) fun e => ?_)
    have d := six_z (fs_z e).2
    obtain ⟨v, -, hv, rfl⟩ := ob_ix (lo := 0) (hi := 255) (fs_z e).1 (by omega) (by omega)
    refine wp_eq (g0_6 R) ?_
    refine wp_bnd (Q := _) ?_
    refine wp_eq (e_cv sh102) ?_
    unfold f_X1_add
    refine wp_eq g102_0 ?_
    rw [T.1, if_neg (show ¬ (96 : Int32) ≤ nI S.2.2.2.1.1 from nI_ge (b := 96) d (by omega))]
    refine wp_eq (g102_1 R) (wp_eq g102_0 ?_)
    rw [T.1]
    refine wp_eq (s103 d) (wp_eq g102_0 (wp_eq p102_0 (wp_eq g102_0 (wp_rt (wp_rt ⟨?_, ?_, fun a ha => ?_⟩)))))
    · dsimp only
      rw [set_eq, upd_eq, set_ne _ _ (by decide), T.1, nI_1]
    · unfold feS
      refine xs.let rfl (fun a h1 h2 h3 => by dsimp only; rw [set_ne _ _ h2, set_ne _ _ h3]) ⟨?_, fun k hk => ?_⟩
      · dsimp only
        rw [set_eq, upd_eq, set_ne _ _ (by decide), T.1, nI_1]
      · dsimp only at hk ⊢
        rw [set_ne _ _ (by decide), set_eq, ix_nI (by omega)]
        by_cases q : k = S.2.2.2.1.1
        · rw [if_pos q, q, upd_eq]
        · rw [if_neg q, upd_ne _ _ q]
          exact T.2 k (by omega)
    · dsimp only
      rw [set_ne _ _ (by omega), set_ne _ _ (by omega)]
  · have hl := gs.2.2.2.1
    have T := ys.2.2.2.1
    unfold f_X7_feed
    refine wp_call X7_bound ?_
    have H2 : ∀ K : Int32 → M Int32, wp (K (feN x S)) h (YP h (anQ (feN x) (fun S => nI (S.2.2.2.1.1 + 1)) S) (nwC (feN x) (feS x) S)) → wp (jn (fun k4 => if ¬ ob x 0 255 = (0 : Int32) then k4 (ob x 0 255) else bnd (gI 6 14 110) fun t11 => if ¬ t11 = (96 : Int32) then k4 (ob x 0 255) else k4 (-6 : Int32)) K) h (YP h (anQ (feN x) (fun S => nI (S.2.2.2.1.1 + 1)) S) (nwC (feN x) (feS x) S)) := fun K H => by
      unfold jn
      dsimp only
      by_cases c : ob x 0 255 = 0
      · rw [if_neg (fun q => q c), c]
        refine wp_eq g110_14 ?_
        rw [T.1]
        have e : feN x S = (if S.2.2.2.1.1 < 96 then 0 else -6) := by
          unfold feN
          rw [c]
          rfl
        rw [e] at H
        by_cases d : S.2.2.2.1.1 < 96
        · rw [if_pos (show ¬ nI S.2.2.2.1.1 = (96 : Int32) from fun q => by have := (nI_eq (b := 96) (by omega) (by omega)).mp q; omega)]
          rw [if_pos d] at H
          exact H
        · rw [if_neg (show ¬ ¬ nI S.2.2.2.1.1 = (96 : Int32) from fun q => q (by rw [show S.2.2.2.1.1 = 96 by have := hl.1; omega]; rfl))]
          rw [if_neg d] at H
          exact H
      · rw [if_pos c]
        have e : feN x S = ob x 0 255 := if_neg c
        rw [e] at H
        exact H
    refine H2 _ (cYg R ys rfl (fs_no ob_no six_no) fun e => ?_)
    have d := six_z (fs_z e).2
    obtain ⟨v, -, hv, rfl⟩ := ob_ix (lo := 0) (hi := 255) (fs_z e).1 (by omega) (by omega)
    refine wp_eq (g110_10 R) (wp_eq g110_14 ?_)
    rw [T.1]
    refine wp_eq (s119 d) (wp_eq g110_14 (wp_eq p110_14 (wp_eq g110_14 (wp_rt ⟨?_, ?_, fun a ha => ?_, rfl⟩))))
    · dsimp only
      rw [set_eq, upd_eq, set_ne _ _ (by decide), T.1, nI_1]
    · unfold feS
      refine ys.let (fun k hk => ?_) (fun a h1 h2 => by dsimp only; rw [set_ne _ _ (by omega), set_ne _ _ h2]) ⟨?_, fun k hk => ?_⟩
      · dsimp only
        rw [set_eq, upd_ne _ _ hk, set_ne _ _ (by decide)]
      · dsimp only
        rw [set_eq, upd_eq, set_ne _ _ (by decide), T.1, nI_1]
      · dsimp only at hk ⊢
        rw [set_ne _ _ (by decide), set_eq, ix_nI (by omega)]
        by_cases q : k = S.2.2.2.1.1
        · rw [if_pos q, q, upd_eq]
        · rw [if_neg q, upd_ne _ _ q]
          exact T.2 k (by omega)
    · dsimp only
      rw [set_ne _ _ (by omega), set_ne _ _ (by omega)]
  · have d := six_z (fs_z e).2
    obtain ⟨v, -, hv, rfl⟩ := ob_ix (lo := 0) (hi := 255) (fs_z e).1 (by omega) (by omega)
    refine ⟨G.1, G.2.1, G.2.2.1, ⟨d, fun k hk => ?_⟩, G.2.2.2.2⟩
    show (if k = S.2.2.2.1.1 then ix (nI v) else S.2.2.2.1.2 k) ≤ 255
    have hk : k < S.2.2.2.1.1 + 1 := hk
    rw [ix_nI (by omega)]
    split
    · exact hv
    · exact G.2.2.2.1.2 k (by omega)
