/-! NEAREST -/
def nrG (A : AV) (p : Nat) (set b : Nat) : Nat := if iso A.2.1 p set = true ∧ (b = 0 ∨ eo A p set < eo A p b ∨ (eo A p set = eo A p b ∧ pop set 8 < pop b 8)) then set else b
theorem nrG_lt {A : AV} {p i : Nat} : fold (fun i => nrG A p (i + 1)) i 0 < 2 ^ A.2.1 := by
  induction i with
  | zero => exact Nat.two_pow_pos _
  | succ i ih =>
    show nrG A p (i + 1) _ < _
    unfold nrG
    split
    · rename_i q
      exact (iso_lt q.1).1
    · exact ih
def em (A : AV) (p b : Nat) : Int32 := if b = 0 then -9 else nI (eo A p b)
def nrB (A : AV) (p : Nat) : Nat := fold (fun i => nrG A p (i + 1)) (2 ^ A.2.1 - 1) 0
def nrS (A : AV) (p : Nat) (w : Int32) : Int32 := if w = 0 then bI' (nrB A p) else em A p (nrB A p)
theorem nr_cut (A : AV) (p : Nat) : nrB A p = fold (fun i => nrG A p (i + 1)) (ot A.2.1 p) 0 := by
  refine fold_skip ?_ fun j h1 h2 a => ?_
  · have := ot_lt A.2.1 p
    omega
  · unfold nrG
    rw [if_neg]
    intro q
    have := iso_le q.1
    omega
theorem QX_nearest {h : HP} {A : AV} {x w : Int32} (R : RefOk h.2) (F : FolkIs h 2 A) (G : GoodA A) : wp (f_X6_nearest 0 x w) h (OutX h (fs (np A.2.1 x) (nc 2 w)) (nrS A (ix x) w)) := by
  unfold f_X6_nearest
  refine wp_call (noP R F.1.1) (wp_call (X6_noChoice (m := 2)) (wp_call X6_first (gX R (fs_no np_no nc_no) fun e => ?_)))
  have hn := G.1.1
  obtain ⟨p, hp, rfl⟩ := np_ix (fs_z e).1 (by omega)
  rw [ix_nI (by omega)]
  unfold nrS
  rw [nr_cut]
  have p7 : p < 7 := by omega
  have B := FB.of R (b := 2) (by decide)
  have h7 := pow_le7 hn
  have ho := ot_lt A.2.1 p
  refine wp_eq (x_gr0 R) (wp_eq (bC B) (wp_call (X0_others B F.1.1 hn (by omega)) ?_))
  refine ⟨_, h, ?_, rfl, Same.rfl'⟩
  refine lp_pure (s := fun i => (bI' (fold (fun i => nrG A p (i + 1)) i 0), em A p (fold (fun i => nrG A p (i + 1)) i 0), nI (i + 1))) (ot A.2.1 p) (nf_lt (by omega)) (fun i hi k => ?_) (fun k => ?_)
  · have lb := @nrG_lt A p i
    have es : fold (fun i => nrG A p (i + 1)) (i + 1) 0 = nrG A p (i + 1) (fold (fun i => nrG A p (i + 1)) i 0) := rfl
    rw [es]
    generalize fold (fun i => nrG A p (i + 1)) i 0 = b at lb ⊢
    dsimp only
    have hs7 : i + 1 < 2 ^ A.2.1 := by omega
    have se : nI (i + 1) + 1 = nI (i + 1 + 1) := nI_1 _
    have l2 := eo_le G p7 hs7 (by omega)
    rw [ifa, if_neg (show ¬ nI (ot A.2.1 p) < nI (i + 1) from fun q => absurd ((nI_ltI (by omega) (by omega)).mp q) (by omega)), nI_wo (by omega) (by omega)]
    unfold nrG iso
    have ei : em A p (i + 1) = nI (eo A p (i + 1)) := if_neg (by omega)
    have bi : bI' (i + 1) = nI (i + 1) := if_neg (by omega)
    by_cases z : wo (i + 1) (ot A.2.1 p) = 0
    · rw [z, ifa, if_pos (show nI 0 = 0 from rfl), show bnd (cv 5 0 (f_X6_errorBySet 0 (nI p) (nI (i + 1)))) _ h = _ from e_bnd (X6_errorBySet R F G p7 hs7 (by omega)), ifa, se]
      by_cases t : b = 0
      · subst t
        rw [if_pos (show bI' 0 = -9 from rfl), if_pos ⟨by simp, Or.inl rfl⟩, ei, bi]
      · have l3 := eo_le G p7 lb t
        have eb : em A p b = nI (eo A p b) := if_neg t
        rw [if_neg (fun q => t ((bI_9 (by omega)).mp q)), eb, ifa]
        by_cases u : eo A p (i + 1) < eo A p b
        · rw [if_pos ((nI_ltI (by omega) (by omega)).mpr u), if_pos ⟨by simp, Or.inr (Or.inl u)⟩, ei, bi]
        · rw [if_neg (fun q => u ((nI_ltI (by omega) (by omega)).mp q)), ifa]
          by_cases v : eo A p (i + 1) = eo A p b
          · rw [if_neg (fun q => q (by rw [v])), bI_nI t, e_bnd (X6_fewer (by omega) (by omega)), ifa, one_if]
            by_cases y : pop (i + 1) 8 < pop b 8
            · rw [if_pos y, if_pos ⟨by simp, Or.inr (Or.inr ⟨v, y⟩)⟩, ei, bi]
            · rw [if_neg y, if_neg (fun q => by rcases q.2 with r | r | r; exact t r; exact u r; exact y r.2), bI_nI t, eb]
          · rw [if_pos (fun q => v ((nI_eq (by omega) (by omega)).mp q)), if_neg (fun q => by rcases q.2 with r | r | r; exact t r; exact u r; exact v r.1), eb]
    · rw [ifa, if_neg (nI_ne0 (by omega) (wo_lt (by omega))), se, if_neg (fun q => z (by have := q.1; simp at this; exact this))]
  · rw [ifa, if_pos (show nI (ot A.2.1 p) < nI (ot A.2.1 p + 1) from (nI_ltI (by omega) (by omega)).mpr (by omega)), ifa]
    by_cases c : w = 0
    · rw [if_neg (fun q => q c), if_pos c]
      rfl
    · rw [if_pos c, if_neg c]
      rfl
theorem sub_lt0 {a b : Nat} (ha : a < 2 ^ 30) (hb : b < 2 ^ 30) : (nI a - nI b < 0) = (a < b) := by
  rw [Int32.lt_iff_toInt_lt, pk_sub_toInt ha hb, eq_iff_iff]
  have : (0 : Int32).toInt = 0 := rfl
  omega
theorem sub_eq0 {a b : Nat} (ha : a < 2 ^ 30) (hb : b < 2 ^ 30) : (nI a - nI b = 0) = (a = b) := by
  rw [← Int32.toInt_inj, pk_sub_toInt ha hb, eq_iff_iff]
  have : (0 : Int32).toInt = 0 := rfl
  omega
theorem QY_nearest {h : HP} {A : AV} {x w : Int32} (R : RefOk h.2) (F : ModIs h A) (G : GoodA A) : wp (f_X7_nearest 110 x w) h (OutY h (fs (np A.2.1 x) (nc 2 w)) (nrS A (ix x) w)) := by
  unfold f_X7_nearest
  refine gu_pi (m := 1) F.1.1 (by decide) (gY R (fs_no np_no nc_no) fun e => ?_)
  have hn := G.1.1
  obtain ⟨p, hp, rfl⟩ := np_ix (fs_z e).1 (by omega)
  rw [ix_nI (by omega)]
  have p7 : p < 7 := by omega
  have h7 := pow_le7 hn
  have h0 := Nat.two_pow_pos A.2.1
  refine ⟨_, h, ?_, rfl, LvY.rf⟩
  unfold nrS
  refine lp_pure (s := fun i => (bI' (fold (fun i => nrG A p (i + 1)) i 0), nI (i + 1))) (2 ^ A.2.1 - 1) (nf_lt (by omega)) (fun i hi k => ?_) (fun k => ?_)
  · have lb := @nrG_lt A p i
    have es : fold (fun i => nrG A p (i + 1)) (i + 1) 0 = nrG A p (i + 1) (fold (fun i => nrG A p (i + 1)) i 0) := rfl
    rw [es]
    generalize fold (fun i => nrG A p (i + 1)) i 0 = b at lb ⊢
    dsimp only
    have hs7 : i + 1 < 2 ^ A.2.1 := by omega
    have se : nI (i + 1) + 1 = nI (i + 1 + 1) := nI_1 _
    have l2 := eo_le G p7 hs7 (by omega)
    have bi : bI' (i + 1) = nI (i + 1) := if_neg (by omega)
    rw [c110, e_bnd (X7_all F.1.1 hn), ifa, if_neg (show ¬ nI (2 ^ A.2.1 - 1) < nI (i + 1) from fun q => absurd ((nI_ltI (by omega) (by omega)).mp q) (by omega)), c110, e_bnd (X7_isOf F.1.1 hn (by omega) (by omega)), tb_ifn]
    unfold nrG jn
    cases z : iso A.2.1 p (i + 1)
    · simp only [Bool.false_eq_true, if_false, false_and]
      rw [se]
    · simp only [if_true, true_and]
      rw [ifa]
      by_cases t : b = 0
      · subst t
        rw [if_neg (show ¬ (0 : Int32) ≤ bI' 0 by decide), ifa, if_pos (show (-1 : Int32) < 0 by decide), if_pos (Or.inl rfl), bi, se]
      · have l3 := eo_le G p7 lb t
        have tb0 : (0 : Int32) ≤ bI' b := Int32.not_lt.mp (fun q => t ((bI_lt (by omega)).mp q))
        rw [if_pos tb0, bI_nI t, c110, e_bnd (X7_errorOf R F G p7 hs7 (by omega)), c110, e_bnd (X7_errorOf R F G p7 lb t), ifa, ifa]
        by_cases u : eo A p (i + 1) < eo A p b
        · rw [if_pos (Eq.mpr (sub_lt0 (by omega) (by omega)) u), if_pos (Or.inr (Or.inl u)), bi, se]
        · rw [if_neg (fun q => u (Eq.mp (sub_lt0 (by omega) (by omega)) q))]
          by_cases v : eo A p (i + 1) = eo A p b
          · rw [if_neg (fun q => q (Eq.mpr (sub_eq0 (by omega) (by omega)) v)), e_bnd (X7_bits7 hs7 (by omega)), e_bnd (X7_bits7 lb (by omega)), ifa, se]
            have q1 := pop_le (i + 1) 8
            have q2 := pop_le b 8
            by_cases y : pop (i + 1) 8 < pop b 8
            · rw [if_neg (fun q => absurd ((nI_leI (by omega) (by omega)).mp q) (by omega)), if_pos (Or.inr (Or.inr ⟨v, y⟩)), bi]
            · rw [if_pos ((nI_leI (by omega) (by omega)).mpr (by omega)), if_neg (fun q => by rcases q with r | r | r; exact t r; exact u r; exact y r.2), bI_nI t]
          · rw [if_pos (fun q => v (Eq.mp (sub_eq0 (by omega) (by omega)) q)), if_neg (fun q => by rcases q with r | r | r; exact t r; exact u r; exact v r.1), bI_nI t, se]
  · have lb := @nrG_lt A p (2 ^ A.2.1 - 1)
    dsimp only
    rw [c110, e_bnd (X7_all F.1.1 hn), ifa, if_pos (show nI (2 ^ A.2.1 - 1) < nI (2 ^ A.2.1 - 1 + 1) from (nI_ltI (by omega) (by omega)).mpr (by omega)), ifa]
    rw [show fold (fun i => nrG A p (i + 1)) (2 ^ A.2.1 - 1) 0 = nrB A p from rfl] at lb ⊢
    by_cases c : w = 0
    · rw [if_pos c, if_pos c]
      rfl
    · rw [if_neg c, if_neg c, ifa]
      by_cases t : nrB A p = 0
      · rw [t, if_neg (show ¬ (0 : Int32) ≤ bI' 0 by decide)]
        rfl
      · rw [if_pos (Int32.not_lt.mp (fun q => t ((bI_lt (by omega)).mp q))), bI_nI t, c110, e_bnd (X7_errorOf R F G p7 lb t)]
        unfold em
        rw [if_neg t]
        rfl
