/-! KNOWS -/
def bI' (b : Nat) : Int32 := if b = 0 then -9 else nI b
theorem bI_9 {b : Nat} (hb : b < 2 ^ 8) : (bI' b = -9) = (b = 0) := by
  unfold bI'
  by_cases c : b = 0
  · rw [if_pos c]
    simp [c]
  · rw [if_neg c]
    simp only [c, eq_iff_iff, iff_false]
    intro q
    have e1 := nI_toInt (n := b) (by omega)
    rw [q] at e1
    have : (-9 : Int32).toInt = -9 := rfl
    omega
theorem bI_lt {b : Nat} (hb : b < 2 ^ 8) : (bI' b < 0) = (b = 0) := by
  unfold bI'
  by_cases c : b = 0
  · rw [if_pos c]
    simp [c]
  · rw [if_neg c]
    simp only [c, eq_iff_iff, iff_false]
    exact nI_pos (by omega)
theorem bI_nI {b : Nat} (h : ¬ b = 0) : bI' b = nI b := if_neg h
def knG (A : AV) (p set b : Nat) : Nat := if iso A.2.1 p set = true ∧ eo A p set = 0 ∧ (b = 0 ∨ pop set 8 < pop b 8) then set else b
theorem knG_lt {A : AV} {p i : Nat} : fold (fun i => knG A p (i + 1)) i 0 < 2 ^ A.2.1 := by
  induction i with
  | zero => exact Nat.two_pow_pos _
  | succ i ih =>
    show knG A p (i + 1) _ < _
    unfold knG
    split
    · rename_i q
      exact (iso_lt q.1).1
    · exact ih
def knS (A : AV) (p : Nat) : Int32 := if A.1 3 p = A.1 2 p then 0 else bI' (fold (fun i => knG A p (i + 1)) (2 ^ A.2.1 - 1) 0)
theorem kn_cut (A : AV) (p : Nat) : fold (fun i => knG A p (i + 1)) (2 ^ A.2.1 - 1) 0 = fold (fun i => knG A p (i + 1)) (ot A.2.1 p) 0 := by
  refine fold_skip ?_ fun j h1 h2 a => ?_
  · have := ot_lt A.2.1 p
    omega
  · unfold knG
    rw [if_neg]
    intro q
    have := iso_le q.1
    omega
theorem QX_knows {h : HP} {A : AV} {x : Int32} (R : RefOk h.2) (F : FolkIs h 2 A) (G : GoodA A) : wp (f_X6_knows 0 x) h (OutX h (np A.2.1 x) (knS A (ix x))) := by
  unfold f_X6_knows
  refine wp_call (noP R F.1.1) (gX R np_no fun e => ?_)
  have hn := G.1.1
  obtain ⟨p, hp, rfl⟩ := np_ix e (by omega)
  rw [ix_nI (by omega)]
  have p7 : p < 7 := by omega
  have B := FB.of R (b := 2) (by decide)
  obtain ⟨-, -, g2, g3, -⟩ := G.2 p p7
  have h7 := pow_le7 hn
  have ho := ot_lt A.2.1 p
  refine wp_eq (x_gr0 R) (wp_eq (bR6 B) (wp_eq (bA4 B p7) (wp_eq (bR5 B) (wp_eq (bA3 B p7) ?_))))
  rw [F.2.2.2.1 p p7, F.2.2.2.2.1 p p7]
  unfold knS
  by_cases c : A.1 3 p = A.1 2 p
  · rw [if_neg (fun q => q (by rw [c])), if_pos c]
    exact wp_rt ⟨rfl, Same.rfl'⟩
  · rw [if_pos (fun q => c ((nI_eq (by omega) (by omega)).mp q)), if_neg c, kn_cut]
    refine wp_eq (bC B) (wp_call (X0_others B F.1.1 hn (by omega)) ?_)
    refine ⟨_, h, ?_, rfl, Same.rfl'⟩
    refine lp_pure (s := fun i => (bI' (fold (fun i => knG A p (i + 1)) i 0), nI (i + 1))) (ot A.2.1 p) (nf_lt (by omega)) (fun i hi k => ?_) (fun k => ?_)
    · have lb := @knG_lt A p i
      have es : fold (fun i => knG A p (i + 1)) (i + 1) 0 = knG A p (i + 1) (fold (fun i => knG A p (i + 1)) i 0) := rfl
      rw [es]
      generalize fold (fun i => knG A p (i + 1)) i 0 = b at lb ⊢
      dsimp only
      rw [ifa, if_neg (show ¬ nI (ot A.2.1 p) < nI (i + 1) from fun q => absurd ((nI_ltI (by omega) (by omega)).mp q) (by omega)), nI_wo (by omega) (by omega)]
      have hs7 : i + 1 < 2 ^ A.2.1 := by omega
      have se : nI (i + 1) + 1 = nI (i + 1 + 1) := nI_1 _
      have l2 := mn_le G p7 hs7 (by omega)
      unfold jn knG iso eo
      dsimp only
      by_cases d : wo (i + 1) (ot A.2.1 p) = 0
      · rw [d, ifa, if_neg (fun q => q rfl), bR5 B, bA3 B p7, F.2.2.2.1 p p7, bC B, e_bnd (X0_meanS B F G p7 hs7 (by omega)), bR5 B, bA3 B p7, F.2.2.2.1 p p7, ifa]
        by_cases m : mn A (i + 1) (A.1 2 p) = A.1 2 p
        · rw [if_neg (fun q => q (by rw [m])), ifa, if_neg (show ¬ (1 : Int32) = 0 by decide), ifa, m]
          have hd : ds (A.1 2 p) (A.1 2 p) = 0 := by unfold ds; omega
          by_cases z : b = 0
          · subst z
            rw [if_pos (show bI' 0 = -9 from rfl), se, if_pos ⟨by simp, hd, Or.inl rfl⟩]
            rfl
          · rw [if_neg (fun q => z ((bI_9 (by omega)).mp q)), bI_nI z, e_bnd (X6_fewer (by omega) (by omega)), ifa, one_if, se]
            by_cases y : pop (i + 1) 8 < pop b 8
            · rw [if_pos y, if_pos ⟨by simp, hd, Or.inr y⟩]
              rfl
            · rw [if_neg y, if_neg (fun q => by rcases q.2.2 with r | r; exact z r; exact y r), bI_nI z]
        · rw [if_pos (fun q => m ((nI_eq (by omega) (by omega)).mp q)), ifa, if_pos rfl, se, if_neg (fun q => m (by have := q.2.1; unfold ds at this; omega))]
      · rw [ifa, if_pos (nI_ne0 (by omega) (wo_lt (by omega))), ifa, if_pos rfl, se, if_neg (fun q => d (by have := q.1; simp at this; exact this))]
    · rw [ifa, if_pos (show nI (ot A.2.1 p) < nI (ot A.2.1 p + 1) from (nI_ltI (by omega) (by omega)).mpr (by omega))]
      rfl
