/-! TOWN: the class does a statement -/
theorem fst_fr {h h' : HP} {s : AV × PV} (F : FolkIs h 14 s.1) (T : PlB h 21 s.2) : TrX h none s 0 h := ⟨Or.inl ⟨rfl, rfl, F, T⟩, Same.rfl'⟩
theorem trz {h : HP} {s : AV × PV} {o : Option (AV × PV)} (e : o = none) (F : FolkIs h 14 s.1) (T : PlB h 21 s.2) : wp (retZ (0 : Int32)) h (TrX h o s) := wp_retZ (Or.inl rfl) ⟨Or.inl ⟨e, rfl, F, T⟩, Same.rfl'⟩
theorem X1_oneAsks {h : HP} {x y : Nat} {s : AV × PV} (R : RefOk h.2) (F : FolkIs h 14 s.1) (T : PlB h 21 s.2) (ga : GA s.1) (hx : x ≤ 9) (hy : y ≤ 9) : wp (f_X1_oneAsks 14 (nI x) (nI y)) h (TrX h (if x < s.1.2.1 ∧ y < s.1.2.1 ∧ ¬ x = y then some (upA s.1 4 x (s.1.1 4 x ^^^ 2 ^ y), s.2) else none) s) := by
  have hn := ga.1.1.1
  have B := FB.of R (b := 14) (by decide)
  have h7 := pow_le7 hn
  unfold f_X1_oneAsks
  refine wp_call (X0_hasN B F.1.1 hn (by omega)) ?_
  by_cases c1 : s.1.2.1 ≤ x
  · rw [if_pos c1, if_pos rfl]
    exact trz (if_neg fun q => by omega) F T
  rw [if_neg c1, if_neg (show ¬ (1 : Int32) = 0 by decide)]
  refine wp_call (X0_hasN B F.1.1 hn (by omega)) ?_
  by_cases c2 : s.1.2.1 ≤ y
  · rw [if_pos c2, if_pos rfl]
    exact trz (if_neg fun q => by omega) F T
  rw [if_neg c2, if_neg (show ¬ (1 : Int32) = 0 by decide)]
  by_cases c3 : x = y
  · rw [if_neg (fun q => q (by rw [c3]))]
    exact trz (if_neg fun q => q.2.2 c3) F T
  rw [if_pos (fun q => c3 ((nI_eq (by omega) (by omega)).mp q))]
  have x7 : x < 7 := by omega
  have g4 := (ga.1.2 x x7).2.2.2.2
  refine wp_eq (bR7 B) (wp_eq (bA5 B x7) ?_)
  rw [F.2.2.2.2.2 x x7, nI_xorb (by omega) (by omega)]
  have F2 := F.set (r := 4) (p := x) (v := s.1.1 4 x ^^^ 2 ^ y) (by omega)
  refine wp_eq (bS5 B x7) (wp_retZ (Or.inr rfl) ⟨Or.inr ⟨_, if_pos ⟨by omega, by omega, c3⟩, rfl, F2, T.fr ?_ ?_⟩, rfl, fun a ha => ?_⟩)
  · dsimp only
    rw [set_ne _ _ (by decide)]
  · dsimp only
    rw [set_ne _ _ (by decide)]
  · dsimp only
    unfold inT at ha
    rw [set_ne _ _ (by omega)]
theorem X1_oneBelieves {h : HP} {x y : Nat} {s : AV × PV} (R : RefOk h.2) (F : FolkIs h 14 s.1) (T : PlB h 21 s.2) (ga : GA s.1) (hx : x ≤ 9) : wp (f_X1_oneBelieves 14 (nI x) (nI y)) h (TrX h (if x < s.1.2.1 then some (upA s.1 3 x y, s.2) else none) s) := by
  have hn := ga.1.1.1
  have B := FB.of R (b := 14) (by decide)
  unfold f_X1_oneBelieves
  refine wp_call (X0_hasN B F.1.1 hn (by omega)) ?_
  by_cases c1 : s.1.2.1 ≤ x
  · rw [if_pos c1, if_neg (show ¬ ¬ (0 : Int32) = 0 from fun q => q rfl)]
    exact trz (if_neg fun q => by omega) F T
  rw [if_neg c1, if_pos (show ¬ (1 : Int32) = 0 by decide)]
  have x7 : x < 7 := by omega
  have F2 := F.set (r := 3) (p := x) (v := y) (by omega)
  refine wp_eq (bR6 B) (wp_eq (bS4 B x7) (wp_retZ (Or.inr rfl) ⟨Or.inr ⟨_, if_pos (by omega), rfl, F2, T.fr ?_ ?_⟩, rfl, fun a ha => ?_⟩))
  · dsimp only
    rw [set_ne _ _ (by decide)]
  · dsimp only
    rw [set_ne _ _ (by decide)]
  · dsimp only
    unfold inT at ha
    rw [set_ne _ _ (by omega)]
theorem pn8 {x : Nat} (hx : x ≤ 9) : pn 8 (nI x) = decide (x < 8) := by
  by_cases c : x < 8
  · rw [pn_nI c (by omega)]
    simp [c]
  · cases z : pn 8 (nI x)
    · simp [c]
    · obtain ⟨k, hk, e⟩ := pn_ix z (by omega)
      have := (nI_eq (by omega) (by omega)).mp e
      omega
theorem X1_thingHangs {h : HP} {x y : Nat} {s : AV × PV} (R : RefOk h.2) (F : FolkIs h 14 s.1) (T : PlB h 21 s.2) (hx : x ≤ 9) (hy : y ≤ 9) : wp (f_X1_thingHangs 21 (nI x) (nI y)) h (TrX h (if x < 8 ∧ y < 4 then some (s.1, hgP s.2 x y) else none) s) := by
  unfold f_X1_thingHangs
  refine wp_call X6_isPlace ?_
  rw [pn8 hx]
  by_cases c1 : x < 8
  · rw [if_neg (show ¬ (if decide (x < 8) = true then (1 : Int32) else 0) = 0 by rw [if_pos (decide_eq_true c1)]; decide)]
    by_cases c2 : y < 4
    · rw [if_pos (show nI y < (4 : Int32) from (nI_ltI (b := 4) (by omega) (by omega)).mpr c2)]
      have P := PB.of21 R
      refine wp_eq (e_bnd (e_gR P.1 P.2.2.2.2)) (wp_eq (e_bnd (e_sI P.2.2.1 c1 (by omega))) (wp_retZ (Or.inr rfl) ⟨Or.inr ⟨_, if_pos ⟨c1, c2⟩, rfl, F.fr fun a h1 h2 => ?_, fun k hk => ?_, fun k hk => ?_⟩, rfl, fun a ha => ?_⟩))
      · dsimp only
        rw [set_ne _ _ (by omega)]
      · dsimp only [hgP]
        rw [set_ne _ _ (by decide)]
        exact T.1 k hk
      · dsimp only [hgP]
        rw [set_eq]
        by_cases c : k = x
        · rw [if_pos c, c, upd_eq]
        · rw [if_neg c, upd_ne _ _ c]
          exact T.2 k hk
      · dsimp only
        unfold inT at ha
        rw [set_ne _ _ (by omega)]
    · rw [if_neg (show ¬ nI y < (4 : Int32) from fun q => c2 ((nI_ltI (b := 4) (by omega) (by omega)).mp q))]
      exact trz (if_neg fun q => c2 q.2) F T
  · rw [if_pos (show (if decide (x < 8) = true then (1 : Int32) else 0) = 0 by rw [if_neg (by simp [c1])])]
    exact trz (if_neg fun q => c1 q.1) F T
theorem X1_wayGoes {h : HP} {x y : Nat} {s : AV × PV} (R : RefOk h.2) (F : FolkIs h 14 s.1) (T : PlB h 21 s.2) (gp : GP' s.2) (hx : x ≤ 9) (hy : y ≤ 9) : wp (f_X1_wayGoes 21 (nI x) (nI y)) h (TrX h (if x < 8 ∧ y < 8 ∧ ¬ x = y then some (s.1, jnP s.2 x y) else none) s) := by
  unfold f_X1_wayGoes
  refine wp_call X6_isPlace ?_
  rw [pn8 hx]
  by_cases c1 : x < 8
  · rw [if_neg (show ¬ (if decide (x < 8) = true then (1 : Int32) else 0) = 0 by rw [if_pos (decide_eq_true c1)]; decide)]
    refine wp_call X6_isPlace ?_
    rw [pn8 hy]
    by_cases c2 : y < 8
    · rw [if_neg (show ¬ (if decide (y < 8) = true then (1 : Int32) else 0) = 0 by rw [if_pos (decide_eq_true c2)]; decide)]
      by_cases c3 : x = y
      · rw [if_neg (fun q => q (by rw [c3]))]
        exact trz (if_neg fun q => q.2.2 c3) F T
      · rw [if_pos (fun q => c3 ((nI_eq (by omega) (by omega)).mp q))]
        refine wp_bnd (wp_mono (X4_join (PB.of21 R) T gp.1 c1 c2 c3) fun v h1 q => ?_)
        obtain ⟨-, T1, S1⟩ := q
        exact wp_retZ (Or.inr rfl) ⟨Or.inr ⟨_, if_pos ⟨c1, c2, c3⟩, rfl, F.fr fun a h1 h2 => S1.2 a (by omega), T1⟩, inT13 (by omega) S1⟩
    · rw [if_pos (show (if decide (y < 8) = true then (1 : Int32) else 0) = 0 by rw [if_neg (by simp [c2])])]
      exact trz (if_neg fun q => c2 q.2.1) F T
  · rw [if_pos (show (if decide (x < 8) = true then (1 : Int32) else 0) = 0 by rw [if_neg (by simp [c1])])]
    exact trz (if_neg fun q => c1 q.1) F T
theorem X1_weeksPass {h : HP} {x : Nat} {s : AV × PV} (R : RefOk h.2) (F : FolkIs h 14 s.1) (T : PlB h 21 s.2) (ga : GA s.1) (hx : x ≤ 9) : wp (f_X1_weeksPass 14 (nI x)) h (TrX h (if s.1.2.2 + x ≤ 999 then some (wks s.1 x, s.2) else none) s) := by
  have hw := ga.2
  have B := FB.of R (b := 14) (by decide)
  unfold f_X1_weeksPass
  refine wp_eq (bI B) ?_
  rw [F.1.2, nI_add]
  by_cases c : s.1.2.2 + x ≤ 999
  · rw [if_pos (show nI (s.1.2.2 + x) ≤ (999 : Int32) from (nI_leI (b := 999) (by omega) (by omega)).mpr c), if_pos c]
    refine wp_loop (fun i z h' => z = nI i ∧ FolkIs h' 14 (wks s.1 i) ∧ Same (inF 14) h h') x (nf_lt (by omega)) (fun i hi z h' q k K => ?_) (fun z h' k q => ?_) ⟨rfl, F, Same.rfl'⟩
    · obtain ⟨rfl, F1, S1⟩ := q
      have B1 : FB h'.2 14 := by rw [S1.1]; exact B
      rw [if_neg (nI_ge hi (by omega)), nI_1]
      have G1 := wks_good ga.1 i (by omega)
      refine wp_eq (bC B1) (wp_bnd (wp_mono (X0_passWeek B1 F1 G1) fun v h2 q => ?_))
      obtain ⟨-, F2, -, S2⟩ := q
      exact K _ _ ⟨rfl, F2, S1.trans S2 (fun _ q => q) (fun a q => by unfold inF; omega)⟩
    · obtain ⟨rfl, F1, S1⟩ := q
      rw [if_pos (nI_le (Nat.le_refl _) (by omega))]
      refine wp_retZ (Or.inr rfl) ⟨Or.inr ⟨_, rfl, rfl, F1, T.fr (S1.2 22 (by unfold inF; omega)) (S1.2 23 (by unfold inF; omega))⟩, S1.wide fun a q => by unfold inF at q; unfold inT; omega⟩
  · rw [if_neg (show ¬ nI (s.1.2.2 + x) ≤ (999 : Int32) from fun q => c ((nI_leI (b := 999) (by omega) (by omega)).mp q)), if_neg c]
    exact trz rfl F T
theorem X1_more {h : HP} {T : LV} {i : Nat} {s : AV × PV} (R : RefOk h.2) (H : LetX h T) (hn : T.1 ≤ 96) (W : Wf T i) (c : T.2 i = 112) (F : FolkIs h 14 s.1) (P : PlB h 21 s.2) (ga : GA s.1) : wp (cv 1 102 (f_X1_onePersonMore 102 (nI i) 14)) h (TrX h (if ax T.2 i < 6 ∧ s.1.2.1 < 7 then some (adA s.1 (ax T.2 i) (T.2 (i + 2) - 48) (az T.2 i), s.2) else none) s) := by
  have hn7 := ga.1.1.1
  obtain ⟨w1, -, w3⟩ := W
  have d4 : dg (T.2 i) = 4 := by rw [c]; rfl
  rw [d4] at w3
  have e0 := w3 0 (by omega)
  have e1 := w3 1 (by omega)
  have e2 := w3 2 (by omega)
  have e3 := w3 3 (by omega)
  rw [show i + 1 + 0 = i + 1 by omega] at e0
  rw [show i + 1 + 1 = i + 2 by omega] at e1
  rw [show i + 1 + 2 = i + 3 by omega] at e2
  rw [show i + 1 + 3 = i + 3 + 1 by omega] at e3
  have B := FB.of R (b := 14) (by decide)
  refine wp_eq (e_cv sh102) ?_
  unfold f_X1_onePersonMore
  rw [nI_1]
  refine wp_call (X1_digit R H hn e0.1 e0.2.1 e0.2.2) ?_
  rw [show T.2 (i + 1) - 48 = ax T.2 i from rfl]
  have hx : ax T.2 i ≤ 9 := by unfold ax; omega
  by_cases c1 : ax T.2 i < 6
  · rw [if_neg (show ¬ (6 : Int32) ≤ nI (ax T.2 i) from nI_ge (b := 6) c1 (by omega))]
    refine wp_eq (bI B) ?_
    rw [F.1.1]
    by_cases c2 : s.1.2.1 < 7
    · rw [if_pos (show nI s.1.2.1 < (7 : Int32) from (nI_ltI (b := 7) (by omega) (by omega)).mpr c2), show nI i + 2 = nI (i + 2) from nI_add i 2, show nI i + 3 = nI (i + 3) from nI_add i 3]
      refine wp_call (X1_digit R H hn e1.1 e1.2.1 e1.2.2) (wp_call (X1_two R H hn e3.1 e2.2 e3.2) ?_)
      refine wp_bnd (wp_mono (X0_add B F c2) fun v h1 q => ?_)
      obtain ⟨-, F1, S1⟩ := q
      exact wp_retZ (Or.inr rfl) ⟨Or.inr ⟨_, if_pos ⟨c1, c2⟩, rfl, F1, P.fr (S1.2 22 (by unfold inF; omega)) (S1.2 23 (by unfold inF; omega))⟩, S1.wide fun a q => by unfold inF at q; unfold inT; omega⟩
    · rw [if_neg (show ¬ nI s.1.2.1 < (7 : Int32) from fun q => c2 ((nI_ltI (b := 7) (by omega) (by omega)).mp q))]
      exact trz (if_neg fun q => c2 q.2) F P
  · rw [if_pos (show (6 : Int32) ≤ nI (ax T.2 i) from (nI_leI (a := 6) (by omega) (by omega)).mpr (by omega))]
    exact trz (if_neg fun q => c1 q.1) F P
def opS (f : Nat → Nat) (i : Nat) (s : AV × PV) : Option (AV × PV) := opV (f i) (ax f i) (ay f i) (az f i) s
theorem wrapZ {h : HP} {m : M Int32} {o : Option (AV × PV)} {s : AV × PV} (H : wp m h (TrX h o s)) : wp (bnd m fun t => retZ t) h (TrX h o s) := wp_bnd (wp_mono H fun v h' q => wp_retZ (by
  rcases q.1 with ⟨-, e, -⟩ | ⟨s', -, e, -⟩
  · exact Or.inl e
  · exact Or.inr e) q)
theorem X1_comesTrue {h : HP} {T : LV} {i : Nat} {s : AV × PV} (R : RefOk h.2) (H : LetX h T) (G : GoodT T) (W : Wf T i) (F : FolkIs h 14 s.1) (P : PlB h 21 s.2) (ga : GA s.1) (gp : GP' s.2) : wp (cv 1 102 (f_X1_comesTrue 102 (nI i) 13)) h (TrX h (opS T.2 i s) s) := by
  have hn := G.1
  obtain ⟨w1, w2, w3⟩ := id W
  have g := G.2 i w1
  have E : ∀ k, k ≤ 255 → (nI (T.2 i) = nI k) = (T.2 i = k) := fun k hk => eq_nI (by omega) (by omega)
  have e13 : ∀ {β : Type} {f : Nat → M β}, bnd (gR 4 0 13) f h = f 14 h := fun {β} {f} => e_bnd (e_gR rfl (R 13 0 (by decide) (by decide) (by decide)))
  have p13 : ∀ {β : Type} {f : Nat → M β}, bnd (gR 4 1 13) f h = f 21 h := fun {β} {f} => e_bnd (e_gR rfl (R 13 1 (by decide) (by decide) (by decide)))
  have d0 : 0 < dg (T.2 i) := by omega
  have e0 := w3 0 d0
  rw [show i + 1 + 0 = i + 1 by omega] at e0
  have D1 : cv 1 102 (f_X1_digit 102 (nI i + 1)) h = some (nI (ax T.2 i), h) := by
    rw [nI_1]
    exact X1_digit R H hn e0.1 e0.2.1 e0.2.2
  have hx : ax T.2 i ≤ 9 := by unfold ax; omega
  have D2 : 1 < dg (T.2 i) → cv 1 102 (f_X1_digit 102 (nI i + 2)) h = some (nI (T.2 (i + 2) - 48), h) ∧ T.2 (i + 2) - 48 ≤ 9 := fun q => by
    have e1 := w3 1 q
    rw [show i + 1 + 1 = i + 2 by omega] at e1
    refine ⟨?_, by omega⟩
    rw [show nI i + 2 = nI (i + 2) from nI_add i 2]
    exact X1_digit R H hn e1.1 e1.2.1 e1.2.2
  refine wp_eq (e_cv sh102) ?_
  unfold f_X1_comesTrue
  refine wp_eq (g102_1 R) (wp_eq (a103 (by omega)) ?_)
  rw [H.2 i w1]
  unfold opS opV
  by_cases c1 : T.2 i = 97
  · rw [if_pos (show nI (T.2 i) = 97 by rw [c1]; rfl), if_pos c1]
    have d2 := D2 (by rw [c1]; decide)
    have ey : ay T.2 i = T.2 (i + 2) - 48 := if_neg (by omega)
    rw [ey]
    exact wp_eq e13 (wp_call D1 (wp_call d2.1 (wrapZ (X1_oneAsks R F P ga hx d2.2))))
  rw [if_neg (show ¬ nI (T.2 i) = 97 from fun q => c1 (Eq.mp (E 97 (by omega)) q)), if_neg c1]
  by_cases c2 : T.2 i = 98
  · rw [if_pos (show nI (T.2 i) = 98 by rw [c2]; rfl), if_pos c2]
    have dd : dg (T.2 i) = 3 := by rw [c2]; rfl
    rw [dd] at w3
    have e1 := w3 1 (by omega)
    have e2 := w3 2 (by omega)
    rw [show i + 1 + 1 = i + 2 by omega] at e1
    rw [show i + 1 + 2 = i + 2 + 1 by omega] at e2
    have ey : ay T.2 i = 10 * (T.2 (i + 2) - 48) + (T.2 (i + 2 + 1) - 48) := if_pos c2
    rw [ey]
    refine wp_eq e13 (wp_call D1 ?_)
    rw [show nI i + 2 = nI (i + 2) from nI_add i 2]
    exact wp_call (X1_two R H hn e2.1 e1.2 e2.2) (wrapZ (X1_oneBelieves R F P ga hx))
  rw [if_neg (show ¬ nI (T.2 i) = 98 from fun q => c2 (Eq.mp (E 98 (by omega)) q)), if_neg c2]
  have ey : ay T.2 i = T.2 (i + 2) - 48 := if_neg c2
  rw [ey]
  by_cases c3 : T.2 i = 103
  · rw [if_pos (show nI (T.2 i) = 103 by rw [c3]; rfl), if_pos c3]
    have d2 := D2 (by rw [c3]; decide)
    exact wp_eq p13 (wp_call D1 (wp_call d2.1 (wrapZ (X1_thingHangs R F P hx d2.2))))
  rw [if_neg (show ¬ nI (T.2 i) = 103 from fun q => c3 (Eq.mp (E 103 (by omega)) q)), if_neg c3]
  by_cases c4 : T.2 i = 112
  · rw [if_pos (show nI (T.2 i) = 112 by rw [c4]; rfl), if_pos c4]
    exact wp_eq e13 (wrapZ (X1_more R H hn W c4 F P ga))
  rw [if_neg (show ¬ nI (T.2 i) = 112 from fun q => c4 (Eq.mp (E 112 (by omega)) q)), if_neg c4]
  by_cases c5 : T.2 i = 119
  · rw [if_pos (show nI (T.2 i) = 119 by rw [c5]; rfl), if_pos c5]
    have d2 := D2 (by rw [c5]; decide)
    exact wp_eq p13 (wp_call D1 (wp_call d2.1 (wrapZ (X1_wayGoes R F P gp hx d2.2))))
  rw [if_neg (show ¬ nI (T.2 i) = 119 from fun q => c5 (Eq.mp (E 119 (by omega)) q)), if_neg c5]
  exact wp_eq e13 (wp_call D1 (wrapZ (X1_weeksPass R F P ga hx)))
