/-! FAIR -/
def faG (A : AV) (p : Nat) (k d : Int32) (set : Nat) (a : Int32) : Int32 := if iso A.2.1 p set = true ∧ nI (pop set 8) = k ∧ ¬ d < nI (eo A p set) then a + 1 else a
def faS (A : AV) (p : Nat) (k d : Int32) : Int32 := fold (fun i => faG A p k d (i + 1)) (2 ^ A.2.1 - 1) 0
theorem fa_cut (A : AV) (p : Nat) (k d : Int32) : faS A p k d = fold (fun i => faG A p k d (i + 1)) (ot A.2.1 p) 0 := by
  refine fold_skip ?_ fun j h1 h2 a => ?_
  · have := ot_lt A.2.1 p
    omega
  · unfold faG
    rw [if_neg]
    intro q
    have := iso_le q.1
    omega
theorem QX_fair {h : HP} {A : AV} {x y d : Int32} (R : RefOk h.2) (F : FolkIs h 2 A) (G : GoodA A) : wp (f_X6_fair 0 x y d) h (OutX h (fs (np A.2.1 x) (ob2 d 99 y 1 6)) (faS A (ix x) y d)) := by
  unfold f_X6_fair
  refine wp_call (noP R F.1.1) (wp_call X6_outside2 (wp_call X6_first (gX R (fs_no np_no ob2_no) fun e => ?_)))
  have hn := G.1.1
  obtain ⟨p, hp, rfl⟩ := np_ix (fs_z e).1 (by omega)
  rw [ix_nI (by omega), fa_cut]
  have p7 : p < 7 := by omega
  have B := FB.of R (b := 2) (by decide)
  have h7 := pow_le7 hn
  have ho := ot_lt A.2.1 p
  refine wp_eq (x_gr0 R) (wp_eq (bC B) (wp_call (X0_others B F.1.1 hn (by omega)) ?_))
  refine ⟨_, h, ?_, rfl, Same.rfl'⟩
  refine lp_pure (s := fun i => (fold (fun i => faG A p y d (i + 1)) i 0, nI (i + 1))) (ot A.2.1 p) (nf_lt (by omega)) (fun i hi k => ?_) (fun k => ?_)
  · have es : fold (fun i => faG A p y d (i + 1)) (i + 1) 0 = faG A p y d (i + 1) (fold (fun i => faG A p y d (i + 1)) i 0) := rfl
    rw [es]
    generalize fold (fun i => faG A p y d (i + 1)) i 0 = b
    dsimp only
    have hs7 : i + 1 < 2 ^ A.2.1 := by omega
    have se : nI (i + 1) + 1 = nI (i + 1 + 1) := nI_1 _
    rw [ifa, if_neg (show ¬ nI (ot A.2.1 p) < nI (i + 1) from fun q => absurd ((nI_ltI (by omega) (by omega)).mp q) (by omega)), nI_wo (by omega) (by omega)]
    unfold jn faG iso
    dsimp only
    by_cases z : wo (i + 1) (ot A.2.1 p) = 0
    · rw [z, ifa, if_neg (fun q => q rfl), e_bnd (J6_bits (show i + 1 < 2 ^ 8 by omega)), ifa]
      by_cases m : nI (pop (i + 1) 8) = y
      · rw [if_neg (fun q => q m), ifa, if_neg (show ¬ (1 : Int32) = 0 by decide), show bnd (cv 5 0 (f_X6_errorBySet 0 (nI p) (nI (i + 1)))) _ h = _ from e_bnd (X6_errorBySet R F G p7 hs7 (by omega)), ifa, se]
        by_cases t : d < nI (eo A p (i + 1))
        · rw [if_pos t, if_neg (fun q => q.2.2 t)]
        · rw [if_neg t, if_pos ⟨by simp, m, t⟩]
      · rw [if_pos m, ifa, if_pos rfl, se, if_neg (fun q => m q.2.1)]
    · rw [ifa, if_pos (nI_ne0 (by omega) (wo_lt (by omega))), ifa, if_pos rfl, se, if_neg (fun q => z (by have := q.1; simp at this; exact this))]
  · rw [ifa, if_pos (show nI (ot A.2.1 p) < nI (ot A.2.1 p + 1) from (nI_ltI (by omega) (by omega)).mpr (by omega))]
    rfl
