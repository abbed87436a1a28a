/-! TOWN: both -/
def pz (f : Nat → Nat) : Nat → Nat
  | 0 => 0
  | m + 1 => pz f m + 1 + dg (f (pz f m)) + 1
theorem pz_s (f : Nat → Nat) (m : Nat) : pz f (m + 1) = pz f m + 1 + dg (f (pz f m)) + 1 := rfl
theorem sc_pz (f : Nat → Nat) (m : Nat) : (sc f (pz f m)).2 = false := by
  induction m with
  | zero => rfl
  | succ m ih =>
    rw [pz_s, sc_end ih]
theorem cn_run {f : Nat → Nat} {i : Nat} (h : (sc f i).2 = false) (j : Nat) (hj : j ≤ dg (f i) + 1) : cn f (i + 1 + j) = cn f i + 1 := by
  induction j with
  | zero =>
    show cn f (i + 1) = _
    rw [cn_s, h, if_neg (by decide)]
  | succ j ih =>
    rw [show i + 1 + (j + 1) = (i + 1 + j) + 1 by omega, cn_s, ih (by omega), sc_run h j (by omega), if_pos rfl]
theorem cn_pz (f : Nat → Nat) (m : Nat) : cn f (pz f m) = m := by
  induction m with
  | zero => rfl
  | succ m ih =>
    have := cn_run (sc_pz f m) (dg (f (pz f m)) + 1) (Nat.le_refl _)
    rw [pz_s, show pz f m + 1 + dg (f (pz f m)) + 1 = pz f m + 1 + (dg (f (pz f m)) + 1) by omega, this, ih]
theorem xp_run {f : Nat → Nat} {s : AV × PV} {i : Nat} (h : (sc f i).2 = false) (j : Nat) (hj : j ≤ dg (f i) + 1) : xpF f s (i + 1 + j) = xpF f s (i + 1) := by
  induction j with
  | zero => rfl
  | succ j ih =>
    rw [show i + 1 + (j + 1) = (i + 1 + j) + 1 by omega, xpF_s, if_neg, ih (by omega)]
    intro q
    rw [sc_run h j (by omega)] at q
    cases q.2
theorem xp_pz (f : Nat → Nat) (s : AV × PV) (m : Nat) : xpF f s (pz f (m + 1)) = xpF f s (pz f m + 1) := by
  have := xp_run (s := s) (sc_pz f m) (dg (f (pz f m)) + 1) (Nat.le_refl _)
  rw [pz_s, show pz f m + 1 + dg (f (pz f m)) + 1 = pz f m + 1 + (dg (f (pz f m)) + 1) by omega, this]
theorem pz_ge (f : Nat → Nat) (m : Nat) : 2 * m ≤ pz f m := by
  induction m with
  | zero => exact Nat.le_refl 0
  | succ m ih =>
    rw [pz_s]
    omega
theorem pz_mono (f : Nat → Nat) (m d : Nat) : pz f m ≤ pz f (m + d) := by
  induction d with
  | zero => exact Nat.le_refl _
  | succ d ih =>
    rw [show m + (d + 1) = (m + d) + 1 by omega, pz_s]
    omega
/-- what the reading leaves alone -/
def FrM (h h' : HP) : Prop := h'.2 = h.2 ∧ (∀ a, ¬ a = 110 → ¬ (120 ≤ a ∧ a ≤ 122) → h'.1 a = h.1 a) ∧ ∀ j, ¬ j = 15 → ¬ j = 16 → h'.1 110 j = h.1 110 j
def GSt (h h' : HP) (T : LV) (k : Nat) : Prop := (h'.1 110 15 = nI (pz T.2 k) ∧ h'.1 110 16 = nI k) ∧ (pz T.2 k ≤ T.1 ∧ 3 * k ≤ pz T.2 k) ∧ (∀ i, i < pz T.2 k → ft T.2 i = false) ∧ (∀ m, m < k → Wf T (pz T.2 m) ∧ h'.1 120 m = nI (T.2 (pz T.2 m)) ∧ h'.1 121 m = nI (pz T.2 m) ∧ Told h' T.2 m (pz T.2 m)) ∧ FrM h h'
def TwP (h : HP) (S : St) (v : Int32) (h1 : HP) : Prop := v = twA S.2.2.2.1 (S.1, S.2.1) ∧ YS h1 (twS S) ∧ (∀ a, a < 110 → h1.1 a = h.1 a) ∧ h1.2 = h.2
theorem ys_let0 {h h1 : HP} {S : St} (Y : YS h S) (F : ModIs h1 S.1) (P : PlY h1 S.2.1) (e14 : h1.1 110 14 = 0) (e18 : h1.1 110 18 = h.1 110 18) (e21 : h1.1 110 21 = h.1 110 21) (e25 : h1.1 110 25 = h.1 110 25) (r1 : h1.1 111 = h.1 111) (r3 : h1.1 126 = h.1 126) (r4 : ∀ j, j < 55 ∨ 110 ≤ j → h1.1 123 j = h.1 123 j) : YS h1 (letS S (0, S.2.2.2.1.2)) := by
  obtain ⟨y1, y2, y3, y4, y5, y6, y7⟩ := Y
  exact ⟨F, P, y3.fr e25 r3, ⟨e14, fun k hk => absurd hk (Nat.not_lt_zero k)⟩, y5.fr e18 (fun j hj => r4 j (by omega)), y6.fr e21 (fun j hj => r4 j (by omega)), fun k hk => by rw [r1]; exact y7 k hk⟩
theorem town_bad {h h1 : HP} {S : St} {e : Nat} (Y : YS h S) (M1 : FrM h h1) (e15 : h1.1 110 15 = nI e) (ff : Ff S.2.2.2.1 = some e) : wp (bnd (pI 6 14 110 (0 : Int32)) fun _ => bnd (gI 6 15 110) fun t17 => rt ((-1000 : Int32) - t17)) h1 (TwP h S) := by
  have e4 : ∀ a, ¬ a = 110 → (setR h1.1 110 (upd (h1.1 110) 14 0), h1.2).1 a = h1.1 a := fun a ha => by dsimp only; rw [set_ne _ _ ha]
  have e5 : ∀ k, ¬ k = 14 → (setR h1.1 110 (upd (h1.1 110) 14 0), h1.2).1 110 k = h1.1 110 k := fun k hk => by dsimp only; rw [set_eq, upd_ne _ _ hk]
  have c4 : ∀ a, ¬ a = 110 → ¬ (120 ≤ a ∧ a ≤ 122) → (setR h1.1 110 (upd (h1.1 110) 14 0), h1.2).1 a = h.1 a := fun a b1 b2 => (e4 a b1).trans (M1.2.1 a b1 b2)
  have c5 : ∀ k, ¬ k = 14 → ¬ k = 15 → ¬ k = 16 → (setR h1.1 110 (upd (h1.1 110) 14 0), h1.2).1 110 k = h.1 110 k := fun k b1 b2 b3 => (e5 k b1).trans (M1.2.2 k b2 b3)
  refine wp_eq p110_14 (wp_eq g110_15 (wp_rt ⟨?_, ?_, fun a ha => c4 a (by omega) (by omega), M1.1⟩))
  · rw [e5 15 (by omega), e15]
    unfold twA
    rw [ff]
  · unfold twS twO
    rw [ff, if_neg (by simp)]
    refine ys_let0 Y (Y.1.fr (c5 _ (by omega) (by omega) (by omega)) (c5 _ (by omega) (by omega) (by omega)) fun a b1 b2 => c4 a (by omega) (by omega)) (Y.2.1.fr (c4 117 (by omega) (by omega)) (c4 118 (by omega) (by omega))) ?_ (c5 _ (by omega) (by omega) (by omega)) (c5 _ (by omega) (by omega) (by omega)) (c5 _ (by omega) (by omega) (by omega)) (c4 111 (by omega) (by omega)) (c4 126 (by omega) (by omega)) (fun j _ => by rw [c4 123 (by omega) (by omega)])
    dsimp only
    rw [set_eq, upd_eq]
theorem town_fine {h h1 : HP} {S : St} {k : Nat} (R : RefOk h.2) (Y : YS h S) (gs : GoodS S) (I : GSt h h1 S.2.2.2.1 k) (k1 : 0 < k) (kn : S.2.2.2.1.1 ≤ pz S.2.2.2.1.2 k) : wp (bnd (pI 6 14 110 (0 : Int32)) fun _ => bnd (cv 6 110 (f_X7_passesAll 110 (1 : Int32) (1 : Int32))) fun _ => loopK NF (fun (s7 : Int32) k8 => bnd (gI 6 16 110) fun t9 => if t9 ≤ s7 then bnd (pI 6 21 110 (0 : Int32)) fun _ => bnd (gI 6 16 110) fun t10 => rt t10 else bnd (cv 6 110 (f_X7_comes 110 s7)) fun t11 => if t11 = (0 : Int32) then bnd (cv 6 110 (f_X7_passesAll 110 (1 : Int32) (0 : Int32))) fun _ => bnd (gR 6 12 110) fun r15 => bnd (aI r15 s7) fun t16 => rt ((-2000 : Int32) - t16) else k8 (s7 + (1 : Int32))) (0 : Int32)) h1 (TwP h S) := by
  obtain ⟨⟨i15, i16⟩, ⟨ple, p3⟩, nf, st, M1⟩ := I
  have GT := gs.2.2.2.1
  have n96 := GT.1
  have en : pz S.2.2.2.1.2 k = S.2.2.2.1.1 := by omega
  have ff : Ff S.2.2.2.1 = none := ff_ok (by omega) (fun i hi => nf i (by omega)) (by rw [← en]; exact sc_pz _ _)
  have e4 : ∀ a, ¬ a = 110 → (setR h1.1 110 (upd (h1.1 110) 14 0), h1.2).1 a = h1.1 a := fun a ha => by dsimp only; rw [set_ne _ _ ha]
  have e5 : ∀ j, ¬ j = 14 → (setR h1.1 110 (upd (h1.1 110) 14 0), h1.2).1 110 j = h1.1 110 j := fun j hj => by dsimp only; rw [set_eq, upd_ne _ _ hj]
  have e14 : (setR h1.1 110 (upd (h1.1 110) 14 0), h1.2).1 110 14 = 0 := by dsimp only; rw [set_eq, upd_eq]
  refine wp_eq p110_14 ?_
  generalize a1 : (setR h1.1 110 (upd (h1.1 110) 14 0), h1.2) = h2 at e4 e5 e14
  have er : h2.2 = h.2 := by rw [← a1]; exact M1.1
  have c4 : ∀ a, ¬ a = 110 → ¬ (120 ≤ a ∧ a ≤ 122) → h2.1 a = h.1 a := fun a b1 b2 => (e4 a b1).trans (M1.2.1 a b1 b2)
  have c5 : ∀ j, ¬ j = 14 → ¬ j = 15 → ¬ j = 16 → h2.1 110 j = h.1 110 j := fun j b1 b2 b3 => (e5 j b1).trans (M1.2.2 j b2 b3)
  have F2 : ModIs h2 S.1 := Y.1.fr (c5 _ (by omega) (by omega) (by omega)) (c5 _ (by omega) (by omega) (by omega)) fun a b1 b2 => c4 a (by omega) (by omega)
  have P2 : PlY h2 S.2.1 := Y.2.1.fr (c4 117 (by omega) (by omega)) (c4 118 (by omega) (by omega))
  refine wp_bnd (wp_mono (X7_passesAllK (w := 1) (by rw [er]; exact R) (by omega)) fun _ h3 q => ?_)
  obtain ⟨K, j3, S3, k3⟩ := q
  have s3 : ∀ a, ¬ (a = 110 ∨ a = 123) → h3.1 a = h2.1 a := S3.2
  have KI := K.is F2 P2
  have d4 : ∀ a, ¬ a = 110 → ¬ (120 ≤ a ∧ a ≤ 123) → h3.1 a = h.1 a := fun a b1 b2 => (s3 a (by omega)).trans (c4 a b1 (by omega))
  have d5 : ∀ j, ¬ j = 14 → ¬ j = 15 → ¬ j = 16 → ¬ j = 19 → ¬ j = 20 → h3.1 110 j = h.1 110 j := fun j b1 b2 b3 b4 b5 => (k3 j b4 b5).trans (c5 j b1 b2 b3)
  have d14 : h3.1 110 14 = 0 := (k3 14 (by omega) (by omega)).trans e14
  have d16 : h3.1 110 16 = nI k := (k3 16 (by omega) (by omega)).trans ((e5 16 (by omega)).trans i16)
  have d123 : ∀ j, j < 55 ∨ 110 ≤ j → h3.1 123 j = h.1 123 j := fun j hj => by rw [j3 j (by omega), c4 123 (by omega) (by omega)]
  have d12 : ∀ a, 120 ≤ a → a ≤ 122 → h3.1 a = h1.1 a := fun a b1 b2 => (s3 a (by omega)).trans (e4 a (by omega))
  refine wp_loop (fun m z h4 => z = nI m ∧ (xpF S.2.2.2.1.2 (S.1, S.2.1) (pz S.2.2.2.1.2 m)).2 = none ∧ ModIs h4 (xpF S.2.2.2.1.2 (S.1, S.2.1) (pz S.2.2.2.1.2 m)).1.1 ∧ PlY h4 (xpF S.2.2.2.1.2 (S.1, S.2.1) (pz S.2.2.2.1.2 m)).1.2 ∧ h4.2 = h3.2 ∧ (∀ a, ¬ (a = 110 ∨ (112 ≤ a ∧ a ≤ 118) ∨ a = 124) → h4.1 a = h3.1 a) ∧ ∀ j, ¬ j = 8 → ¬ j = 9 → h4.1 110 j = h3.1 110 j) k (nf_lt (by omega)) (fun m hm z h4 q k8 K8 => ?_) (fun z h4 k8 q => ?_) ⟨rfl, rfl, F2.fr (k3 _ (by omega) (by omega)) (k3 _ (by omega) (by omega)) (fun a b1 b2 => s3 a (by omega)), P2.fr (s3 117 (by omega)) (s3 118 (by omega)), rfl, fun _ _ => rfl, fun _ _ _ => rfl⟩
  · obtain ⟨rfl, x1, F4, P4, r4, o4, l4⟩ := q
    have R4 : RefOk h4.2 := by rw [r4, S3.1, er]; exact R
    obtain ⟨W, t120, t121, tt⟩ := st m hm
    have pm : pz S.2.2.2.1.2 m < S.2.2.2.1.1 := W.1
    obtain ⟨ga, gp⟩ := ex_good (s := (S.1, S.2.1)) ff gs.1 gs.2.1 (pz S.2.2.2.1.2 m) (by omega)
    have h12 : ∀ a, 120 ≤ a → a ≤ 122 → h4.1 a = h1.1 a := fun a b1 b2 => (o4 a (by omega)).trans (d12 a b1 b2)
    refine wp_eq g110_16 ?_
    rw [l4 16 (by omega) (by omega), d16, if_neg (nI_ge hm (by omega)), nI_1]
    refine wp_bnd (wp_mono (X7_comes R4 GT W (by omega) (by rw [h12 120 (by omega) (by omega)]; exact t120) (by unfold Told; rw [h12 122 (by omega) (by omega)]; exact tt) F4 P4 ga gp) fun v h5 q => ?_)
    obtain ⟨q, r5, o5, l5⟩ := q
    have o6 : ∀ a, ¬ (a = 110 ∨ (112 ≤ a ∧ a ≤ 118) ∨ a = 124) → h5.1 a = h3.1 a := fun a ha => (o5 a ha).trans (o4 a ha)
    have l6 : ∀ j, ¬ j = 8 → ¬ j = 9 → h5.1 110 j = h3.1 110 j := fun j b1 b2 => (l5 j b1 b2).trans (l4 j b1 b2)
    have R5 : RefOk h5.2 := by rw [r5]; exact R4
    rcases q with ⟨o, rfl, -, -⟩ | ⟨s', o, rfl, F5, P5⟩
    · rw [if_pos rfl]
      refine wp_bnd (wp_mono (X7_passesAllR (w := 1) R5 (by omega)) fun _ h6 q => ?_)
      obtain ⟨K6, j6, S6, k6⟩ := q
      have s6 : ∀ a, ¬ (a = 110 ∨ (112 ≤ a ∧ a ≤ 118)) → h6.1 a = h5.1 a := S6.2
      rw [o6 123 (by omega)] at K6
      obtain ⟨F6, P6⟩ := K6.get KI
      have R6 : RefOk h6.2 := by rw [S6.1]; exact R5
      have g6 : ∀ j, ¬ j = 8 → ¬ j = 9 → ¬ j = 19 → ¬ j = 20 → h6.1 110 j = h3.1 110 j := fun j b1 b2 b3 b4 => (k6 j b1 b2 b3 b4).trans (l6 j b1 b2)
      refine wp_eq (g110_12 R6) (wp_eq (a121 (by omega)) (wp_rt ⟨?_, ?_, fun a ha => by rw [s6 a (by omega), o6 a (by omega), d4 a (by omega) (by omega)], ((S6.1.trans r5).trans (r4.trans S3.1)).trans er⟩))
      · rw [s6 121 (by omega), o6 121 (by omega), d12 121 (by omega) (by omega), t121]
        have ex : xpF S.2.2.2.1.2 (S.1, S.2.1) (pz S.2.2.2.1.2 m + 1) = ((xpF S.2.2.2.1.2 (S.1, S.2.1) (pz S.2.2.2.1.2 m)).1, some (pz S.2.2.2.1.2 m)) := by rw [xpF_s, if_pos ⟨x1, sc_pz _ _⟩, o]
        have stay := xpF_stay (f := S.2.2.2.1.2) (s := (S.1, S.2.1)) (i := pz S.2.2.2.1.2 m + 1) (e := pz S.2.2.2.1.2 m) (by rw [ex]) (S.2.2.2.1.1 - (pz S.2.2.2.1.2 m + 1))
        rw [show pz S.2.2.2.1.2 m + 1 + (S.2.2.2.1.1 - (pz S.2.2.2.1.2 m + 1)) = S.2.2.2.1.1 by omega] at stay
        unfold twA
        rw [ff]
        dsimp only
        rw [stay, ex]
      · have ex : xpF S.2.2.2.1.2 (S.1, S.2.1) (pz S.2.2.2.1.2 m + 1) = ((xpF S.2.2.2.1.2 (S.1, S.2.1) (pz S.2.2.2.1.2 m)).1, some (pz S.2.2.2.1.2 m)) := by rw [xpF_s, if_pos ⟨x1, sc_pz _ _⟩, o]
        have stay := xpF_stay (f := S.2.2.2.1.2) (s := (S.1, S.2.1)) (i := pz S.2.2.2.1.2 m + 1) (e := pz S.2.2.2.1.2 m) (by rw [ex]) (S.2.2.2.1.1 - (pz S.2.2.2.1.2 m + 1))
        rw [show pz S.2.2.2.1.2 m + 1 + (S.2.2.2.1.1 - (pz S.2.2.2.1.2 m + 1)) = S.2.2.2.1.1 by omega] at stay
        unfold twS twO
        rw [stay, ex, if_neg (by simp)]
        refine ys_let0 Y F6 P6 ((g6 14 (by omega) (by omega) (by omega) (by omega)).trans d14) ((g6 18 (by omega) (by omega) (by omega) (by omega)).trans (d5 18 (by omega) (by omega) (by omega) (by omega) (by omega))) ((g6 21 (by omega) (by omega) (by omega) (by omega)).trans (d5 21 (by omega) (by omega) (by omega) (by omega) (by omega))) ((g6 25 (by omega) (by omega) (by omega) (by omega)).trans (d5 25 (by omega) (by omega) (by omega) (by omega) (by omega))) (by rw [s6 111 (by omega), o6 111 (by omega), d4 111 (by omega) (by omega)]) (by rw [s6 126 (by omega), o6 126 (by omega), d4 126 (by omega) (by omega)]) (fun j hj => by rw [s6 123 (by omega), o6 123 (by omega)]; exact d123 j hj)
    · rw [if_neg (show ¬ (1 : Int32) = 0 by decide)]
      have ex : xpF S.2.2.2.1.2 (S.1, S.2.1) (pz S.2.2.2.1.2 (m + 1)) = (s', none) := by rw [xp_pz, xpF_s, if_pos ⟨x1, sc_pz _ _⟩, o]
      exact K8 _ _ ⟨rfl, by rw [ex], by rw [ex]; exact F5, by rw [ex]; exact P5, r5.trans r4, o6, l6⟩
  · obtain ⟨rfl, x1, F4, P4, r4, o4, l4⟩ := q
    refine wp_eq g110_16 ?_
    rw [l4 16 (by omega) (by omega), d16, if_pos (nI_le (Nat.le_refl _) (by omega))]
    have f4 : ∀ a, ¬ a = 110 → (setR h4.1 110 (upd (h4.1 110) 21 0), h4.2).1 a = h4.1 a := fun a ha => by dsimp only; rw [set_ne _ _ ha]
    have f5 : ∀ j, ¬ j = 21 → (setR h4.1 110 (upd (h4.1 110) 21 0), h4.2).1 110 j = h4.1 110 j := fun j hj => by dsimp only; rw [set_eq, upd_ne _ _ hj]
    have gg : ∀ j, ¬ j = 21 → ¬ j = 8 → ¬ j = 9 → (setR h4.1 110 (upd (h4.1 110) 21 0), h4.2).1 110 j = h3.1 110 j := fun j b1 b2 b3 => (f5 j b1).trans (l4 j b2 b3)
    rw [en] at x1 F4 P4
    refine wp_eq p110_21 (wp_eq g110_16 (wp_rt ⟨?_, ?_, fun a ha => by rw [f4 a (by omega), o4 a (by omega), d4 a (by omega) (by omega)], (r4.trans S3.1).trans er⟩))
    · rw [gg 16 (by omega) (by omega) (by omega), d16]
      unfold twA
      rw [ff]
      dsimp only
      rw [x1, ← en, cn_pz]
    · unfold twS twO
      rw [ff, x1, if_pos (by rfl)]
      obtain ⟨y1, y2, y3, y4, y5, y6, y7⟩ := Y
      refine ⟨F4.fr (f5 _ (by omega)) (f5 _ (by omega)) fun a b1 b2 => f4 a (by omega), P4.fr (f4 117 (by omega)) (f4 118 (by omega)), y3.fr ((gg 25 (by omega) (by omega) (by omega)).trans (d5 25 (by omega) (by omega) (by omega) (by omega) (by omega))) (by rw [f4 126 (by omega), o4 126 (by omega), d4 126 (by omega) (by omega)]), ⟨(gg 14 (by omega) (by omega) (by omega)).trans d14, fun k hk => absurd hk (Nat.not_lt_zero k)⟩, y5.fr ((gg 18 (by omega) (by omega) (by omega)).trans (d5 18 (by omega) (by omega) (by omega) (by omega) (by omega))) (fun j hj => by rw [f4 123 (by omega), o4 123 (by omega)]; exact d123 j (by omega)), ⟨?_, fun i hi => absurd hi (Nat.not_lt_zero i)⟩, fun k hk => by rw [f4 111 (by omega), o4 111 (by omega), d4 111 (by omega) (by omega)]; exact y7 k hk⟩
      dsimp only
      rw [set_eq, upd_eq]
      rfl
theorem X7_town : Yw (f_X7_town 110) (fun S => twA S.2.2.2.1 (S.1, S.2.1)) twS := by
  intro h S R ys gs
  have GT := gs.2.2.2.1
  have n96 := GT.1
  have H := ys.2.2.2.1
  show wp (f_X7_town 110) h (TwP h S)
  unfold f_X7_town
  refine wp_eq p110_15 (wp_eq p110_16 ?_)
  refine wp_loop (fun k z h1 => (z = 1 ∧ GSt h h1 S.2.2.2.1 k) ∨ (z = 0 ∧ FrM h h1 ∧ ∃ e, Ff S.2.2.2.1 = some e ∧ h1.1 110 15 = nI e)) 39 (nf_lt (by omega)) (fun k hk z h1 q k2 K2 => ?_) (fun z h1 k2 q => ?_) (Or.inl ⟨rfl, ⟨?_, ?_⟩, ⟨Nat.zero_le _, Nat.le_refl 0⟩, fun i hi => absurd hi (Nat.not_lt_zero i), fun m hm => absurd hm (Nat.not_lt_zero m), rfl, fun a b1 b2 => ?_, fun j b1 b2 => ?_⟩)
  · unfold jn
    dsimp only
    rcases q with ⟨rfl, I⟩ | ⟨rfl, M1, e, ff, e15⟩
    · rw [if_neg (show ¬ (1 : Int32) = 0 by decide)]
      obtain ⟨⟨i15, i16⟩, ⟨ple, p3⟩, nf, st, M1⟩ := id I
      have R1 : RefOk h1.2 := by rw [M1.1]; exact R
      have H1 : TpY h1 S.2.2.2.1 := ⟨(M1.2.2 14 (by omega) (by omega)).trans H.1, fun j hj => by rw [M1.2.1 119 (by omega) (by omega)]; exact H.2 j hj⟩
      have k40 : k < 40 := by omega
      have GO : (pz S.2.2.2.1.2 k = S.2.2.2.1.1 → S.2.2.2.1.1 = 0) → wp (bnd (cv 6 110 (f_X7_statement 110)) fun t22 => bnd (gI 6 16 110) fun t24 => if t22 = (0 : Int32) then bnd (pI 6 16 110 (t24 + (0 : Int32))) fun _ => k2 t22 else bnd (pI 6 16 110 (t24 + (1 : Int32))) fun _ => k2 t22) h1 (TwP h S) := fun hp2 => by
        refine wp_bnd (wp_mono (X7_statement R1 H1 GT i15 i16 ple k40 hp2 (sc_pz _ _) nf) fun v h2 q => ?_)
        obtain ⟨⟨f1, f2, f3, f4, f5⟩, q⟩ := q
        refine wp_eq g110_16 ?_
        rw [f3 16 (by omega), i16]
        rcases q with ⟨rfl, a1, a2, a3, a4, a5, a6, a7⟩ | ⟨rfl, e, ff, a1⟩
        · rw [if_neg (show ¬ (1 : Int32) = 0 by decide), nI_1]
          have e4 : ∀ a, ¬ a = 110 → (setR h2.1 110 (upd (h2.1 110) 16 (nI (k + 1))), h2.2).1 a = h2.1 a := fun a ha => by dsimp only; rw [set_ne _ _ ha]
          have e5 : ∀ j, ¬ j = 16 → (setR h2.1 110 (upd (h2.1 110) 16 (nI (k + 1))), h2.2).1 110 j = h2.1 110 j := fun j hj => by dsimp only; rw [set_eq, upd_ne _ _ hj]
          have d1 : 0 < dg (S.2.2.2.1.2 (pz S.2.2.2.1.2 k)) := by have := a4.2.1; omega
          refine wp_eq p110_16 (K2 _ _ (Or.inl ⟨rfl, ⟨?_, ?_⟩, ⟨a2, by rw [pz_s]; omega⟩, a3, fun m hm => ?_, f1.trans M1.1, fun a b1 b2 => by rw [e4 a b1, f2 a b1 b2, M1.2.1 a b1 b2], fun j b1 b2 => by rw [e5 j b2, f3 j b1, M1.2.2 j b1 b2]⟩))
          · rw [e5 15 (by omega), a1]
            rfl
          · dsimp only
            rw [set_eq, upd_eq]
          · unfold Told
            rw [e4 120 (by omega), e4 121 (by omega), e4 122 (by omega)]
            by_cases c : m = k
            · subst c
              exact ⟨a4, a5, a6, a7⟩
            · obtain ⟨b1, b2, b3, b4⟩ := st m (by omega)
              unfold Told at b4
              rw [(f4 m c).1, (f4 m c).2, f5 _ (by omega), f5 _ (by omega), f5 _ (by omega)]
              exact ⟨b1, b2, b3, b4⟩
        · rw [if_pos rfl, Int32.add_zero]
          have e4 : ∀ a, ¬ a = 110 → (setR h2.1 110 (upd (h2.1 110) 16 (nI k)), h2.2).1 a = h2.1 a := fun a ha => by dsimp only; rw [set_ne _ _ ha]
          have e5 : ∀ j, ¬ j = 16 → (setR h2.1 110 (upd (h2.1 110) 16 (nI k)), h2.2).1 110 j = h2.1 110 j := fun j hj => by dsimp only; rw [set_eq, upd_ne _ _ hj]
          exact wp_eq p110_16 (K2 _ _ (Or.inr ⟨rfl, ⟨f1.trans M1.1, fun a b1 b2 => by rw [e4 a b1, f2 a b1 b2, M1.2.1 a b1 b2], fun j b1 b2 => by rw [e5 j b2, f3 j b1, M1.2.2 j b1 b2]⟩, e, ff, by rw [e5 15 (by omega)]; exact a1⟩))
      refine wp_eq g110_15 (wp_eq g110_14 ?_)
      rw [i15, H1.1]
      by_cases c : pz S.2.2.2.1.2 k < S.2.2.2.1.1
      · rw [if_pos ((nI_ltI (by omega) (by omega)).mpr c)]
        exact GO fun q => by omega
      · rw [if_neg (fun q => c ((nI_ltI (by omega) (by omega)).mp q))]
        refine wp_eq g110_16 ?_
        rw [i16]
        by_cases c0 : k = 0
        · subst c0
          rw [if_neg (show ¬ ¬ nI 0 = 0 from fun q => q rfl)]
          refine GO fun q => ?_
          have : pz S.2.2.2.1.2 0 = 0 := rfl
          omega
        · rw [if_pos (nI_ne0 (by omega) (by omega)), if_pos (show ¬ (1 : Int32) = 0 by decide)]
          exact town_fine R ys gs I (by omega) (by omega)
    · rw [if_pos rfl, if_neg (show ¬ ¬ (0 : Int32) = 0 from fun q => q rfl)]
      exact town_bad ys M1 e15 ff
  · unfold jn
    dsimp only
    rcases q with ⟨rfl, I⟩ | ⟨rfl, M1, e, ff, e15⟩
    · obtain ⟨-, ⟨ple, p3⟩, -⟩ := I
      omega
    · rw [if_pos rfl, if_neg (show ¬ ¬ (0 : Int32) = 0 from fun q => q rfl)]
      exact town_bad ys M1 e15 ff
  · dsimp only
    rw [set_eq, upd_ne _ _ (by decide), set_eq, upd_eq]
    rfl
  · dsimp only
    rw [set_eq, upd_eq]
    rfl
  · dsimp only
    rw [set_ne _ _ b1, set_ne _ _ b1]
  · dsimp only
    rw [set_eq, upd_ne _ _ b2, set_eq, upd_ne _ _ b1]
theorem ok_town : Ok (f_X6_town 0) (f_X7_town 110) := Ok.of X6_town X7_town twS_good
