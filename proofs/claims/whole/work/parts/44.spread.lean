/-! SPREAD -/
def mnS (A : AV) : Nat → Nat
  | 0 => 99
  | p + 1 => min (mnS A p) (A.1 3 p)
def mxS (A : AV) : Nat → Nat
  | 0 => 0
  | p + 1 => max (mxS A p) (A.1 3 p)
theorem mnS_le (A : AV) (i : Nat) : mnS A i ≤ 99 := by
  induction i with
  | zero => exact Nat.le_refl _
  | succ i ih => unfold mnS; omega
theorem mxS_le {A : AV} (G : GoodA A) {i : Nat} (hi : i ≤ 7) : mxS A i ≤ 99 := by
  induction i with
  | zero => exact Nat.zero_le _
  | succ i ih =>
    have := (G.2 i (by omega)).2.2.2.1
    have := ih (by omega)
    unfold mxS
    omega
theorem mn_mx (A : AV) (i : Nat) : mnS A (i + 1) ≤ mxS A (i + 1) := by unfold mnS mxS; omega
def spS (A : AV) : Int32 := if A.2.1 = 0 then 0 else nI (mxS A A.2.1 - mnS A A.2.1)
theorem X0_width {h : HP} {b : Nat} {A : AV} (H : FB h.2 b) (F : FolkIs h b A) (G : GoodA A) : f_X0_width b h = some (spS A, h) := by
  obtain ⟨⟨fn, -⟩, f0, f1, f2, f3, f4⟩ := F
  have hn := G.1.1
  unfold f_X0_width spS
  simp only [bR3 H, bR4 H, bR5 H, bR6 H, bR7 H, bR8 H, bI H, bC H, fn, ifa]
  by_cases c : A.2.1 = 0
  · rw [if_neg (fun q => q (by rw [c]; rfl)), if_pos c]
    rfl
  · rw [if_pos (nI_ne0 (by omega) (by omega)), if_neg c]
    have g0 := (G.2 0 (by omega)).2.2.2.1
    rw [n0, bA4 H (by omega : 0 < 7), bR6 H, bA4 H (by omega : 0 < 7), f3 0 (by omega)]
    refine lp_seq (s := fun i => (nI (mnS A (i + 1)), nI (mxS A (i + 1)), nI (i + 1))) (hh := fun _ => h) (A.2.1 - 1) (nf_lt (by omega)) (by
      have e1 : mnS A 1 = A.1 3 0 := by unfold mnS mnS; omega
      have e2 : mxS A 1 = A.1 3 0 := by unfold mxS mxS; omega
      show (nI (mnS A 1), nI (mxS A 1), nI 1) = _
      rw [e1, e2]
      rfl) rfl (fun i hi k => ?_) (fun k => ?_)
    · have hk : i + 1 < 7 := by omega
      have g3 := (G.2 (i + 1) hk).2.2.2.1
      have l1 := mnS_le A (i + 1)
      have l2 := mxS_le G (i := i + 1) (by omega)
      simp only [bR3 H, bR4 H, bR5 H, bR6 H, bR7 H, bR8 H, bI H, bC H, bA1 H hk, bA2 H hk, bA3 H hk, bA4 H hk, bA5 H hk, bA6 H hk, fn, f3 (i + 1) hk, ifa]
      rw [if_neg (nI_ge (by omega) (by omega)), mmin_nI (by omega) (by omega), mmax_nI (by omega) (by omega), nI_1]
      rfl
    · have l1 := mn_mx A (A.2.1 - 1)
      simp only [bR3 H, bR4 H, bR5 H, bR6 H, bR7 H, bR8 H, bI H, bC H, fn, ifa]
      rw [show A.2.1 - 1 + 1 = A.2.1 by omega] at l1 ⊢
      rw [if_pos (nI_le (by omega) (by omega)), pk_sub l1]
      rfl
theorem QX_spread {h : HP} {A : AV} {x : Int32} (R : RefOk h.2) (F : FolkIs h 2 A) (G : GoodA A) (W : A.2.2 ≤ 999) : wp (f_X6_spread 0 x) h (OutX h (ob x 0 60) (spS (wks A (ix x)))) := by
  refine wp_call X6_outside (gX R ob_no fun e => ?_)
  obtain ⟨k, -, hk, rfl⟩ := ob_ix (lo := 0) (hi := 60) e (by decide) (by decide)
  rw [ix_nI (by omega)]
  refine wp_bnd (wp_mono (x_ahead R F G W (n := k) (by omega)) fun v h' q => ?_)
  obtain ⟨rfl, ⟨B, R', F', G'⟩, S⟩ := q
  exact wp_call (show cv 0 37 (f_X0_width 37) h' = _ from X0_width B F' G') (wp_rt ⟨rfl, S⟩)
theorem QY_spread {h : HP} {A : AV} {x : Int32} (R : RefOk h.2) (F : ModIs h A) (G : GoodA A) (W : A.2.2 ≤ 999) : wp (f_X7_spread 110 x) h (OutY h (ob x 0 60) (spS (wks A (ix x)))) := by
  unfold f_X7_spread
  refine wp_call X7_notWeeks (gY R ob_no fun e => ?_)
  have hn := G.1.1
  obtain ⟨n, -, hn60, rfl⟩ := ob_ix (lo := 0) (hi := 60) e (by decide) (by decide)
  rw [ix_nI (by omega)]
  refine wp_bnd (wp_mono (y_find R F G W (n := n) (by omega)) fun _ h1 q => ?_)
  obtain ⟨T, ⟨R', F'⟩, S⟩ := q
  have G' := wks_good G n (by omega)
  refine ⟨spS (wks A n), h1, ?_, rfl, S⟩
  refine lp_pure (s := fun i => (nI (mnS (wks A n) i), nI (mxS (wks A n) i), nI i)) A.2.1 (nf_lt (by omega)) (fun i hi k => ?_) (fun k => ?_)
  · have g3 := (G'.2 i (by omega)).2.2.2.1
    have l1 := mnS_le (wks A n) i
    have l2 := mxS_le G' (i := i) (by omega)
    have T' := X7_beliefAt R' T (Nat.le_refl _) (by omega) hi hn
    have m1 : mnS (wks A n) (i + 1) = min (mnS (wks A n) i) ((wks A n).1 3 i) := rfl
    have m2 : mxS (wks A n) (i + 1) = max (mxS (wks A n) i) ((wks A n).1 3 i) := rfl
    simp only [g110_8, F'.1.1, ifa, jn, c110, e_bnd T', nI_1]
    rw [if_neg (nI_ge (by omega) (by omega)), m1, m2]
    simp only [le_nI (show mnS (wks A n) i < 2 ^ 31 by omega) (show (wks A n).1 3 i < 2 ^ 31 by omega), le_nI (show (wks A n).1 3 i < 2 ^ 31 by omega) (show mxS (wks A n) i < 2 ^ 31 by omega)]
    by_cases c1 : mnS (wks A n) i ≤ (wks A n).1 3 i
    · rw [if_pos c1, Nat.min_eq_left c1]
      by_cases c2 : (wks A n).1 3 i ≤ mxS (wks A n) i
      · rw [if_pos c2, Nat.max_eq_left c2]
      · rw [if_neg c2, Nat.max_eq_right (by omega)]
    · rw [if_neg c1, Nat.min_eq_right (by omega)]
      by_cases c2 : (wks A n).1 3 i ≤ mxS (wks A n) i
      · rw [if_pos c2, Nat.max_eq_left c2]
      · rw [if_neg c2, Nat.max_eq_right (by omega)]
  · simp only [g110_8, F'.1.1, ifa]
    rw [if_pos (nI_le (by omega) (by omega))]
    unfold spS
    rw [wks_n]
    by_cases c : A.2.1 = 0
    · rw [if_neg (fun q => q (by rw [c]; rfl)), if_pos c]
      rfl
    · rw [if_pos (nI_ne0 (by omega) (by omega)), if_neg c]
      have l1 := mn_mx (wks A n) (A.2.1 - 1)
      rw [show A.2.1 - 1 + 1 = A.2.1 by omega] at l1
      rw [pk_sub l1]
      rfl
