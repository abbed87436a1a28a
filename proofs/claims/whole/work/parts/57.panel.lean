/-! PANEL -/
def paG (A : AV) (p : Nat) (k : Int32) (set b : Nat) : Nat := if iso A.2.1 p set = true ∧ nI (pop set 8) = k ∧ (b = 0 ∨ mn A b (A.1 2 p) < mn A set (A.1 2 p)) then set else b
theorem paG_lt {A : AV} {p i : Nat} {k : Int32} : fold (fun i => paG A p k (i + 1)) i 0 < 2 ^ A.2.1 := by
  induction i with
  | zero => exact Nat.two_pow_pos _
  | succ i ih =>
    show paG A p k (i + 1) _ < _
    unfold paG
    split
    · rename_i q
      exact (iso_lt q.1).1
    · exact ih
def paS (A : AV) (p : Nat) (k : Int32) : Int32 := bI' (fold (fun i => paG A p k (i + 1)) (2 ^ A.2.1 - 1) 0)
theorem pa_cut (A : AV) (p : Nat) (k : Int32) : fold (fun i => paG A p k (i + 1)) (2 ^ A.2.1 - 1) 0 = fold (fun i => paG A p k (i + 1)) (ot A.2.1 p) 0 := by
  refine fold_skip ?_ fun j h1 h2 a => ?_
  · have := ot_lt A.2.1 p
    omega
  · unfold paG
    rw [if_neg]
    intro q
    have := iso_le q.1
    omega
def pm (A : AV) (p b : Nat) : Int32 := if b = 0 then -9 else nI (mn A b (A.1 2 p))
theorem m9_lt {x : Nat} (hx : x < 2 ^ 31) : ¬ nI x ≤ -9 := by
  intro q
  rw [Int32.le_iff_toInt_le, nI_toInt hx] at q
  have : (-9 : Int32).toInt = -9 := rfl
  omega
theorem QX_panel {h : HP} {A : AV} {x y : Int32} (R : RefOk h.2) (F : FolkIs h 2 A) (G : GoodA A) : wp (f_X6_panel 0 x y) h (OutX h (fs (np A.2.1 x) (ob y 1 6)) (paS A (ix x) y)) := by
  unfold f_X6_panel
  refine wp_call (noP R F.1.1) (wp_call X6_outside (wp_call X6_first (gX R (fs_no np_no ob_no) fun e => ?_)))
  have hn := G.1.1
  obtain ⟨p, hp, rfl⟩ := np_ix (fs_z e).1 (by omega)
  rw [ix_nI (by omega)]
  unfold paS
  rw [pa_cut]
  have p7 : p < 7 := by omega
  have B := FB.of R (b := 2) (by decide)
  have h7 := pow_le7 hn
  have ho := ot_lt A.2.1 p
  refine wp_eq (x_gr0 R) (wp_eq (bC B) (wp_call (X0_others B F.1.1 hn (by omega)) ?_))
  refine ⟨_, h, ?_, rfl, Same.rfl'⟩
  refine lp_pure (s := fun i => (bI' (fold (fun i => paG A p y (i + 1)) i 0), pm A p (fold (fun i => paG A p y (i + 1)) i 0), nI (i + 1))) (ot A.2.1 p) (nf_lt (by omega)) (fun i hi k => ?_) (fun k => ?_)
  · have lb := @paG_lt A p i y
    have es : fold (fun i => paG A p y (i + 1)) (i + 1) 0 = paG A p y (i + 1) (fold (fun i => paG A p y (i + 1)) i 0) := rfl
    rw [es]
    generalize fold (fun i => paG A p y (i + 1)) i 0 = b at lb ⊢
    dsimp only
    have hs7 : i + 1 < 2 ^ A.2.1 := by omega
    have se : nI (i + 1) + 1 = nI (i + 1 + 1) := nI_1 _
    have l2 := mn_le G p7 hs7 (by omega)
    rw [ifa, if_neg (show ¬ nI (ot A.2.1 p) < nI (i + 1) from fun q => absurd ((nI_ltI (by omega) (by omega)).mp q) (by omega)), nI_wo (by omega) (by omega)]
    unfold paG iso
    by_cases z : wo (i + 1) (ot A.2.1 p) = 0
    · rw [z, ifa, if_neg (fun q => q rfl), e_bnd (J6_bits (show i + 1 < 2 ^ 8 by omega)), ifa]
      by_cases m : nI (pop (i + 1) 8) = y
      · rw [if_pos m, x_gr0 R, x_gr0 R, bR5 B, bA3 B p7, F.2.2.2.1 p p7, bC B, e_bnd (X0_meanS B F G p7 hs7 (by omega)), ifa, se]
        unfold pm
        by_cases t : b = 0
        · rw [if_pos t, if_neg (m9_lt (by omega)), if_pos ⟨by simp, m, Or.inl t⟩, if_neg (by omega)]
          rfl
        · have l3 := mn_le G p7 lb t
          rw [if_neg t]
          by_cases u : mn A b (A.1 2 p) < mn A (i + 1) (A.1 2 p)
          · rw [if_neg (fun q => absurd ((nI_leI (by omega) (by omega)).mp q) (by omega)), if_pos ⟨by simp, m, Or.inr u⟩, if_neg (by omega)]
            rfl
          · rw [if_pos ((nI_leI (by omega) (by omega)).mpr (by omega)), if_neg (fun q => by rcases q.2.2 with r | r; exact t r; exact u r), if_neg t]
      · rw [if_neg m, se, if_neg (fun q => m q.2.1)]
    · rw [ifa, if_pos (nI_ne0 (by omega) (wo_lt (by omega))), se, if_neg (fun q => z (by have := q.1; simp at this; exact this))]
  · rw [ifa, if_pos (show nI (ot A.2.1 p) < nI (ot A.2.1 p + 1) from (nI_ltI (by omega) (by omega)).mpr (by omega))]
    rfl
theorem QY_panel {h : HP} {A : AV} {x y : Int32} (R : RefOk h.2) (F : ModIs h A) (G : GoodA A) : wp (f_X7_panel 110 x y) h (OutY h (fs (np A.2.1 x) (ob y 1 6)) (paS A (ix x) y)) := by
  unfold f_X7_panel
  refine gu_pb F.1.1 (gY R (fs_no np_no ob_no) fun e => ?_)
  have hn := G.1.1
  obtain ⟨p, hp, rfl⟩ := np_ix (fs_z e).1 (by omega)
  rw [ix_nI (by omega)]
  have p7 : p < 7 := by omega
  have h7 := pow_le7 hn
  have h0 := Nat.two_pow_pos A.2.1
  refine ⟨_, h, ?_, rfl, LvY.rf⟩
  unfold paS
  refine lp_pure (s := fun i => (bI' (fold (fun i => paG A p y (i + 1)) i 0), nI (i + 1))) (2 ^ A.2.1 - 1) (nf_lt (by omega)) (fun i hi k => ?_) (fun k => ?_)
  · have lb := @paG_lt A p i y
    have es : fold (fun i => paG A p y (i + 1)) (i + 1) 0 = paG A p y (i + 1) (fold (fun i => paG A p y (i + 1)) i 0) := rfl
    rw [es]
    generalize fold (fun i => paG A p y (i + 1)) i 0 = b at lb ⊢
    dsimp only
    have hs7 : i + 1 < 2 ^ A.2.1 := by omega
    have se : nI (i + 1) + 1 = nI (i + 1 + 1) := nI_1 _
    have l2 := mn_le G p7 hs7 (by omega)
    rw [c110, e_bnd (X7_all F.1.1 hn), ifa, if_neg (show ¬ nI (2 ^ A.2.1 - 1) < nI (i + 1) from fun q => absurd ((nI_ltI (by omega) (by omega)).mp q) (by omega)), c110, e_bnd (X7_isOf F.1.1 hn (by omega) (by omega)), tb_if]
    unfold paG
    cases z : iso A.2.1 p (i + 1)
    · simp only [Bool.false_eq_true, if_false, false_and]
      rw [se]
    · simp only [if_true, true_and]
      rw [e_bnd (X7_bits7 hs7 (by omega)), ifa]
      by_cases m : nI (pop (i + 1) 8) = y
      · rw [if_neg (fun q => q m), ifa]
        by_cases t : b = 0
        · rw [if_pos ((Eq.mpr (bI_lt (by omega)) t)), if_pos ⟨m, Or.inl t⟩, se]
          rfl
        · have l3 := mn_le G p7 lb t
          rw [if_neg (fun q => t ((bI_lt (by omega)).mp q)), bI_nI t, c110, e_bnd (X7_mean R F G p7 hs7), c110, e_bnd (X7_mean R F G p7 lb), ifa, se]
          unfold bw
          rw [if_neg (show ¬ i + 1 = 0 by omega), if_neg t]
          by_cases u : mn A b (A.1 2 p) < mn A (i + 1) (A.1 2 p)
          · rw [if_neg (fun q => absurd ((nI_leI (by omega) (by omega)).mp q) (by omega)), if_pos ⟨m, Or.inr u⟩]
            rfl
          · rw [if_pos ((nI_leI (by omega) (by omega)).mpr (by omega)), if_neg (fun q => by rcases q.2 with r | r; exact t r; exact u r), bI_nI t]
      · rw [if_pos m, if_neg (fun q => m q.1), se]
  · dsimp only
    rw [c110, e_bnd (X7_all F.1.1 hn), ifa, if_pos (show nI (2 ^ A.2.1 - 1) < nI (2 ^ A.2.1 - 1 + 1) from (nI_ltI (by omega) (by omega)).mpr (by omega))]
    rfl
