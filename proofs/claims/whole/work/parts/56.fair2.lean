/-! FAIR, the reference -/
theorem gu_ps {β : Type} {h : HP} {n : Nat} {Q : β → HP → Prop} {K : Int32 → M β} {x a b lo am bm : Int32} (e : h.1 110 8 = nI n) (H : wp (K (fs (np n x) (ob2 b bm a lo am))) h Q) : wp (bnd (cv 6 110 (f_X7_isPerson 110 x)) fun t1 => jn (fun k4 => if ¬ t1 = (0 : Int32) then if a < lo then k4 (-4 : Int32) else if (0 : Int32) ≤ b then if am < a then k4 (-6 : Int32) else if b ≤ bm then k4 (0 : Int32) else k4 (-6 : Int32) else k4 (-4 : Int32) else k4 (-1 : Int32)) K) h Q := by
  refine wp_call (X7_isPerson e) ?_
  show wp (if ¬ _ = 0 then if a < lo then K (-4 : Int32) else if (0 : Int32) ≤ b then if am < a then K (-6 : Int32) else if b ≤ bm then K (0 : Int32) else K (-6 : Int32) else K (-4 : Int32) else K (-1 : Int32)) h Q
  rw [tb_ifn]
  rw [ob2_sw] at H
  unfold fs np at H
  cases z : pn n x
  · simp only [z, Bool.false_eq_true, if_false] at H ⊢
    rw [if_neg (by decide)] at H
    exact H
  · simp only [z, if_true] at H ⊢
    repeat' split
    all_goals (simp only [*, if_true, if_false] at H ⊢)
    all_goals exact H
theorem QY_fair {h : HP} {A : AV} {x y d : Int32} (R : RefOk h.2) (F : ModIs h A) (G : GoodA A) : wp (f_X7_fair 110 x y d) h (OutY h (fs (np A.2.1 x) (ob2 d 99 y 1 6)) (faS A (ix x) y d)) := by
  unfold f_X7_fair
  refine gu_ps F.1.1 (gY R (fs_no np_no ob2_no) fun e => ?_)
  have hn := G.1.1
  obtain ⟨p, hp, rfl⟩ := np_ix (fs_z e).1 (by omega)
  rw [ix_nI (by omega)]
  have p7 : p < 7 := by omega
  have h7 := pow_le7 hn
  have h0 := Nat.two_pow_pos A.2.1
  refine ⟨_, h, ?_, rfl, LvY.rf⟩
  unfold faS
  refine lp_pure (s := fun i => (fold (fun i => faG A p y d (i + 1)) i 0, nI (i + 1))) (2 ^ A.2.1 - 1) (nf_lt (by omega)) (fun i hi k => ?_) (fun k => ?_)
  · have es : fold (fun i => faG A p y d (i + 1)) (i + 1) 0 = faG A p y d (i + 1) (fold (fun i => faG A p y d (i + 1)) i 0) := rfl
    rw [es]
    generalize fold (fun i => faG A p y d (i + 1)) i 0 = b
    dsimp only
    have hs7 : i + 1 < 2 ^ A.2.1 := by omega
    have se : nI (i + 1) + 1 = nI (i + 1 + 1) := nI_1 _
    have b0 : b + 0 = b := Int32.add_zero b
    rw [c110, e_bnd (X7_all F.1.1 hn), ifa, if_neg (show ¬ nI (2 ^ A.2.1 - 1) < nI (i + 1) from fun q => absurd ((nI_ltI (by omega) (by omega)).mp q) (by omega)), c110, e_bnd (X7_isOf F.1.1 hn (by omega) (by omega)), tb_if]
    unfold faG
    cases z : iso A.2.1 p (i + 1)
    · simp only [Bool.false_eq_true, if_false, false_and]
      rw [b0, se]
    · simp only [if_true, true_and]
      rw [e_bnd (X7_bits7 hs7 (by omega)), ifa]
      by_cases m : nI (pop (i + 1) 8) = y
      · rw [if_neg (fun q => q m), c110, e_bnd (X7_errorOf R F G p7 hs7 (by omega)), ifa, se]
        by_cases t : d < nI (eo A p (i + 1))
        · rw [if_pos t, if_neg (fun q => q.2 t), b0]
        · rw [if_neg t, if_pos ⟨m, t⟩]
      · rw [if_pos m, if_neg (fun q => m q.1), b0, se]
  · dsimp only
    rw [c110, e_bnd (X7_all F.1.1 hn), ifa, if_pos (show nI (2 ^ A.2.1 - 1) < nI (2 ^ A.2.1 - 1 + 1) from (nI_ltI (by omega) (by omega)).mpr (by omega))]
    rfl
