/-! KNOWS, the reference -/
theorem X7_bits7 {h : HP} {x n : Nat} (hx : x < 2 ^ n) (hn : n ≤ 8) : f_X7_bits (nI x) h = some (nI (pop x 8), h) := by
  rw [X7_bits (lt31 hx (by omega)), pop_ext hx (show n ≤ 31 by omega), ← pop_ext hx hn]
theorem gu_p {h : HP} {n : Nat} {x : Int32} {B : M Int32} {am : Int32} (R : RefOk h.2) (e : h.1 110 8 = nI n) (H : np n x = 0 → wp B h fun v h' => v = am ∧ LvY h h') : wp (bnd (cv 6 110 (f_X7_isPerson 110 x)) fun t1 => if ¬ t1 = 0 then B else bnd (cv 6 110 (f_X7_no 110 (-1))) fun t => rt t) h (OutY h (np n x) am) := by
  refine wp_call (X7_isPerson e) ?_
  rw [tb_ifn]
  by_cases z : pn n x = true
  · have e' : np n x = 0 := if_pos z
    rw [if_pos z]
    exact wp_mono (H e') fun v h' q => Or.inl ⟨e', q⟩
  · have e' : np n x = -1 := if_neg z
    rw [if_neg z, e']
    exact wp_call (show cv 6 110 (f_X7_no 110 (-1)) h = some (-1, Rf 111 h (-1)) from X7_no R (Or.inl rfl)) (wp_rt (Or.inr ⟨Or.inl rfl, rfl, rfl⟩))
theorem QY_knows {h : HP} {A : AV} {x : Int32} (R : RefOk h.2) (F : ModIs h A) (G : GoodA A) : wp (f_X7_knows 110 x) h (OutY h (np A.2.1 x) (knS A (ix x))) := by
  unfold f_X7_knows
  refine gu_p R F.1.1 fun e => ?_
  have hn := G.1.1
  obtain ⟨p, hp, rfl⟩ := np_ix e (by omega)
  rw [ix_nI (by omega)]
  have p7 : p < 7 := by omega
  obtain ⟨-, -, g2, g3, -⟩ := G.2 p p7
  have h7 := pow_le7 hn
  have h0 := Nat.two_pow_pos A.2.1
  refine wp_eq (g110_4 R) (wp_eq (a115 p7) (wp_eq (g110_3 R) (wp_eq (a114 p7) ?_)))
  rw [F.2.2.2.1 p p7, F.2.2.2.2.1 p p7]
  unfold knS
  by_cases c : A.1 3 p = A.1 2 p
  · rw [if_neg (fun q => q (by rw [c])), if_pos c]
    exact wp_rt ⟨rfl, LvY.rf⟩
  · rw [if_pos (fun q => c ((nI_eq (by omega) (by omega)).mp q)), if_neg c]
    refine ⟨_, h, ?_, rfl, LvY.rf⟩
    refine lp_pure (s := fun i => (bI' (fold (fun i => knG A p (i + 1)) i 0), nI (i + 1))) (2 ^ A.2.1 - 1) (nf_lt (by omega)) (fun i hi k => ?_) (fun k => ?_)
    · have lb := @knG_lt A p i
      have es : fold (fun i => knG A p (i + 1)) (i + 1) 0 = knG A p (i + 1) (fold (fun i => knG A p (i + 1)) i 0) := rfl
      rw [es]
      generalize fold (fun i => knG A p (i + 1)) i 0 = b at lb ⊢
      dsimp only
      have hs7 : i + 1 < 2 ^ A.2.1 := by omega
      have se : nI (i + 1) + 1 = nI (i + 1 + 1) := nI_1 _
      have l3 := eo_le G p7 hs7 (by omega)
      rw [c110, e_bnd (X7_all F.1.1 hn), ifa, if_neg (show ¬ nI (2 ^ A.2.1 - 1) < nI (i + 1) from fun q => absurd ((nI_ltI (by omega) (by omega)).mp q) (by omega)), c110, e_bnd (X7_isOf F.1.1 hn (by omega) (by omega)), tb_if]
      unfold knG
      cases d : iso A.2.1 p (i + 1)
      · simp only [Bool.false_eq_true, if_false, false_and]
        rw [se]
      · simp only [if_true, true_and]
        rw [c110, e_bnd (X7_errorOf R F G p7 hs7 (by omega)), ifa]
        by_cases m : eo A p (i + 1) = 0
        · rw [m, if_neg (fun q => q rfl), ifa]
          by_cases z : b = 0
          · rw [if_pos ((Eq.mpr (bI_lt (by omega)) z)), if_pos ⟨rfl, Or.inl z⟩, se]
            rfl
          · rw [if_neg (fun q => z ((bI_lt (by omega)).mp q)), bI_nI z, e_bnd (X7_bits7 hs7 (by omega)), e_bnd (X7_bits7 lb (by omega)), ifa, se]
            have q1 := pop_le (i + 1) 8
            have q2 := pop_le b 8
            by_cases y : pop (i + 1) 8 < pop b 8
            · rw [if_neg (fun q => absurd ((nI_leI (by omega) (by omega)).mp q) (by omega)), if_pos ⟨rfl, Or.inr y⟩]
              rfl
            · rw [if_pos ((nI_leI (by omega) (by omega)).mpr (by omega)), if_neg (fun q => by rcases q.2 with r | r; exact z r; exact y r), bI_nI z]
        · rw [if_pos (nI_ne0 (by omega) (by omega)), se, if_neg (fun q => m q.1)]
    · dsimp only
      rw [c110, e_bnd (X7_all F.1.1 hn), ifa, if_pos (show nI (2 ^ A.2.1 - 1) < nI (2 ^ A.2.1 - 1 + 1) from (nI_ltI (by omega) (by omega)).mpr (by omega))]
      rfl
