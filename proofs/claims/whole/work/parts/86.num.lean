/-! COUNT -/
def smR (A : AV) (r i : Nat) : Nat := fold (fun i a => a + A.1 r i) i 0
theorem smR_s (A : AV) (r i : Nat) : smR A r (i + 1) = smR A r i + A.1 r i := rfl
theorem smR_le {A : AV} (G : GoodA A) {r : Nat} (hr : r = 2 ∨ r = 3) (i : Nat) (hi : i ≤ 7) : smR A r i ≤ 99 * i := by
  induction i with
  | zero => exact Nat.le_refl 0
  | succ i ih =>
    have := ih (by omega)
    obtain ⟨-, -, g2, g3, -⟩ := G.2 i (by omega)
    rw [smR_s]
    rcases hr with rfl | rfl <;> omega
def cwR (P : PV) (i : Nat) : Nat := fold (fun i a => a + pop (P.1 i) 8) i 0
theorem cwR_s (P : PV) (i : Nat) : cwR P (i + 1) = cwR P i + pop (P.1 i) 8 := rfl
theorem cwR_le (P : PV) (i : Nat) : cwR P i ≤ 8 * i := by
  induction i with
  | zero => exact Nat.le_refl 0
  | succ i ih =>
    have := pop_le (P.1 i) 8
    rw [cwR_s]
    omega
def ctS (x : Int32) (S : St) : Int32 := if x = 0 then nI S.1.2.1 else if x = 1 then nI S.1.2.2 else if x = 2 then nI (smR S.1 2 S.1.2.1) else if x = 3 then nI (smR S.1 3 S.1.2.1) else if x = 4 then nI (cwR S.2.1 8 / 2) else if x = 5 then nI S.2.2.2.1.1 else if x = 6 then nI S.2.2.1.1 else if x = 7 then nI S.2.2.2.2.2.1.1 else if x < 11 then -9 else if (16 : Int32) < x then -9 else S.2.2.2.2.2.2 (ix (x - 10))
theorem X0_sum {h : HP} {b r : Nat} {A : AV} (B : FB h.2 b) (F : FolkIs h b A) (G : GoodA A) (hr : r = 2 ∨ r = 3) : cv 0 b (f_X0_sum b (b + 1 + r)) h = some (nI (smR A r A.2.1), h) := by
  have hn := G.1.1
  have er : ∀ k, k < 7 → h.1 (b + 1 + r) k = nI (A.1 r k) := fun k hk => by
    rcases hr with rfl | rfl
    · exact F.2.2.2.1 k hk
    · exact F.2.2.2.2.1 k hk
  have es : SHF[b + 1 + r]? = some (1, 7) := B.1.2 r (by omega)
  rw [e_cv B.1.1]
  unfold f_X0_sum
  refine lp_pure (s := fun i => (nI (smR A r i), nI i)) A.2.1 (nf_lt (by omega)) (fun i hi k => ?_) (fun k => ?_)
  · have l := smR_le G hr i (by omega)
    obtain ⟨-, -, g2, g3, -⟩ := G.2 i (by omega)
    have g : A.1 r i ≤ 99 := by rcases hr with rfl | rfl <;> omega
    dsimp only
    rw [bI B, F.1.1, ifa, if_neg (nI_ge hi (by omega)), e_bnd (e_len es), ifa, if_neg (nI_ge (show i < 7 by omega) (by omega)), e_bnd (e_aI es (show i < 7 by omega) (by omega)), er i (by omega), nI_add, nI_1, smR_s]
  · dsimp only
    rw [bI B, F.1.1, ifa, if_pos (nI_le (Nat.le_refl _) (by omega))]
    rfl
theorem X4_countWays {h : HP} {P : PV} (R : RefOk h.2) (T : PlX h P) (GP : GoodP P) : cv 3 9 (f_X4_countWays 9) h = some (nI (cwR P 8 / 2), h) := by
  rw [e_cv sh9]
  unfold f_X4_countWays
  refine lp_pure (s := fun i => (nI (cwR P i), nI i)) 8 (nf_lt (by omega)) (fun i hi k => ?_) (fun k => ?_)
  · dsimp only
    have g := (GP i hi).1
    rw [ifa, if_neg (show ¬ (8 : Int32) ≤ nI i from nI_ge (b := 8) hi (by omega)), g9_0 R, a10 hi, T.1 i hi, e_bnd (J6_bits g), nI_add, nI_1, cwR_s]
  · have := cwR_le P 8
    dsimp only
    rw [ifa, if_pos (show (8 : Int32) ≤ nI 8 by decide), show bnd (divM (nI (cwR P 8)) (2 : Int32)) _ h = _ from b_div (y := 2) (by omega) (by omega) (by omega)]
    rfl
theorem mid_ix {x : Int32} (h1 : ¬ x < 11) (h2 : ¬ (16 : Int32) < x) : ∃ j, 1 ≤ j ∧ j ≤ 6 ∧ x = nI (10 + j) := by
  have e : ob x (nI 11) (nI 16) = 0 := by
    unfold ob
    rw [if_pos (show nI 11 ≤ x from Int32.not_lt.mp h1), if_pos (show x ≤ nI 16 from Int32.not_lt.mp h2)]
  obtain ⟨k, k1, k2, rfl⟩ := ob_ix e (by omega) (by omega)
  exact ⟨k - 10, by omega, by omega, by rw [show 10 + (k - 10) = k by omega]⟩
theorem sub10 {j : Nat} (hj : j ≤ 6) : nI (10 + j) - 10 = nI j := by
  rw [show (10 : Int32) = nI 10 from rfl, pk_sub (by omega), show 10 + j - 10 = j by omega]
theorem ok_count (x : Int32) : Ok (f_X6_count 0 x) (f_X7_count 110 x) := by
  refine Ok.n (ctS x) (fun h S xs gs => ?_) (fun h S R ys gs => ?_)
  · have R := xs.1
    have F := xs.2.1
    have hn := gs.1.1.1.1
    have B := FB.of R (b := 2) (by decide)
    unfold f_X6_count ctS
    by_cases c0 : x = 0
    · rw [if_pos c0, if_pos c0]
      exact wp_eq (x_gr0 R) (wp_eq (bI B) (wp_rt ⟨F.1.1, Same.rfl'⟩))
    rw [if_neg c0, if_neg c0]
    by_cases c1 : x = 1
    · rw [if_pos c1, if_pos c1]
      exact wp_eq (x_gr0 R) (wp_eq (bI B) (wp_rt ⟨F.1.2, Same.rfl'⟩))
    rw [if_neg c1, if_neg c1]
    by_cases c2 : x = 2
    · rw [if_pos c2, if_pos c2]
      exact wp_eq (x_gr0 R) (wp_eq (x_gr0 R) (wp_eq (bR5 B) (wp_call (X0_sum (r := 2) B F gs.1.1 (Or.inl rfl)) (wp_rt ⟨rfl, Same.rfl'⟩))))
    rw [if_neg c2, if_neg c2]
    by_cases c3 : x = 3
    · rw [if_pos c3, if_pos c3]
      exact wp_eq (x_gr0 R) (wp_eq (x_gr0 R) (wp_eq (bR6 B) (wp_call (X0_sum (r := 3) B F gs.1.1 (Or.inr rfl)) (wp_rt ⟨rfl, Same.rfl'⟩))))
    rw [if_neg c3, if_neg c3]
    by_cases c4 : x = 4
    · rw [if_pos c4, if_pos c4]
      exact wp_eq (x_gr1 R) (wp_call (X4_countWays R xs.2.2.1 gs.2.1.1) (wp_rt ⟨rfl, Same.rfl'⟩))
    rw [if_neg c4, if_neg c4]
    by_cases c5 : x = 5
    · rw [if_pos c5, if_pos c5]
      exact wp_eq (g0_6 R) (wp_eq g102_0 (wp_rt ⟨xs.2.2.2.2.1.1, Same.rfl'⟩))
    rw [if_neg c5, if_neg c5]
    by_cases c6 : x = 6
    · rw [if_pos c6, if_pos c6]
      exact wp_eq g0_8 (wp_rt ⟨xs.2.2.2.1.1, Same.rfl'⟩)
    rw [if_neg c6, if_neg c6]
    by_cases c7 : x = 7
    · rw [if_pos c7, if_pos c7]
      exact wp_eq (g0_5 R) (wp_eq g44_0 (wp_rt ⟨xs.2.2.2.2.2.2.1.1.1, Same.rfl'⟩))
    rw [if_neg c7, if_neg c7]
    by_cases c8 : x < 11
    · rw [if_pos c8, if_pos c8]
      exact wp_rt ⟨rfl, Same.rfl'⟩
    rw [if_neg c8, if_neg c8]
    by_cases c9 : (16 : Int32) < x
    · rw [if_pos c9, if_pos c9]
      exact wp_rt ⟨rfl, Same.rfl'⟩
    rw [if_neg c9, if_neg c9]
    obtain ⟨j, j1, j2, rfl⟩ := mid_ix c8 c9
    rw [sub10 j2, ix_nI (by omega)]
    exact wp_eq (g0_9 R) (wp_eq (a105 (by omega)) (wp_rt ⟨xs.2.2.2.2.2.2.2 j (by omega), Same.rfl'⟩))
  · have F := ys.1
    have hn := gs.1.1.1.1
    unfold f_X7_count
    have E : f_X7_isIn x (11 : Int32) (16 : Int32) h = some (if x < 11 then 0 else if (16 : Int32) < x then 0 else 1, h) := by
      unfold f_X7_isIn
      rw [ifa, ifa]
      split
      · rfl
      · split <;> rfl
    refine wp_call E ?_
    by_cases cm : ¬ x < 11 ∧ ¬ (16 : Int32) < x
    · obtain ⟨j, j1, j2, e⟩ := mid_ix cm.1 cm.2
      rw [if_neg cm.1, if_neg cm.2, if_neg (show ¬ (1 : Int32) = 0 by decide)]
      have ne : ∀ k, k < 8 → ¬ x = nI k := fun k hk q => by
        rw [e] at q
        have := (nI_eq (by omega) (by omega)).mp q
        omega
      have es : ctS x S = S.2.2.2.2.2.2 (ix (x - 10)) := by
        unfold ctS
        rw [if_neg (show ¬ x = 0 from ne 0 (by omega)), if_neg (show ¬ x = 1 from ne 1 (by omega)), if_neg (show ¬ x = 2 from ne 2 (by omega)), if_neg (show ¬ x = 3 from ne 3 (by omega)), if_neg (show ¬ x = 4 from ne 4 (by omega)), if_neg (show ¬ x = 5 from ne 5 (by omega)), if_neg (show ¬ x = 6 from ne 6 (by omega)), if_neg (show ¬ x = 7 from ne 7 (by omega)), if_neg cm.1, if_neg cm.2]
      rw [es, e, sub10 j2, ix_nI (by omega)]
      exact wp_eq (g110_0 R) (wp_eq (a111 (by omega)) (wp_rt ⟨ys.2.2.2.2.2.2 j (by omega), LvY.rf⟩))
    · have z0 : (if x < 11 then (0 : Int32) else if (16 : Int32) < x then 0 else 1) = 0 := by
        by_cases a : x < 11
        · rw [if_pos a]
        · rw [if_neg a]
          by_cases b : (16 : Int32) < x
          · rw [if_pos b]
          · exact absurd ⟨a, b⟩ cm
      rw [if_pos z0]
      unfold ctS
      by_cases c0 : x = 0
      · rw [if_pos c0, if_pos c0]
        exact wp_eq g110_8 (wp_rt ⟨F.1.1, LvY.rf⟩)
      rw [if_neg c0, if_neg c0]
      by_cases c1 : x = 1
      · rw [if_pos c1, if_pos c1]
        exact wp_eq g110_9 (wp_rt ⟨F.1.2, LvY.rf⟩)
      rw [if_neg c1, if_neg c1]
      by_cases c2 : x = 2
      · rw [if_pos c2, if_pos c2]
        refine ⟨_, h, ?_, rfl, LvY.rf⟩
        refine lp_pure (s := fun i => (nI (smR S.1 2 i), nI i)) S.1.2.1 (nf_lt (by omega)) (fun i hi k => ?_) (fun k => ?_)
        · dsimp only
          rw [g110_8, F.1.1, ifa, if_neg (nI_ge hi (by omega)), g110_3 R, a114 (show i < 7 by omega), F.2.2.2.1 i (by omega), nI_add, nI_1, smR_s]
        · dsimp only
          rw [g110_8, F.1.1, ifa, if_pos (nI_le (Nat.le_refl _) (by omega))]
          rfl
      rw [if_neg c2, if_neg c2]
      by_cases c3 : x = 3
      · rw [if_pos c3, if_pos c3]
        refine ⟨_, h, ?_, rfl, LvY.rf⟩
        refine lp_pure (s := fun i => (nI (smR S.1 3 i), nI i)) S.1.2.1 (nf_lt (by omega)) (fun i hi k => ?_) (fun k => ?_)
        · dsimp only
          rw [g110_8, F.1.1, ifa, if_neg (nI_ge hi (by omega)), g110_4 R, a115 (show i < 7 by omega), F.2.2.2.2.1 i (by omega), nI_add, nI_1, smR_s]
        · dsimp only
          rw [g110_8, F.1.1, ifa, if_pos (nI_le (Nat.le_refl _) (by omega))]
          rfl
      rw [if_neg c3, if_neg c3]
      by_cases c4 : x = 4
      · rw [if_pos c4, if_pos c4]
        refine ⟨_, h, ?_, rfl, LvY.rf⟩
        refine lp_pure (s := fun i => (nI (cwR S.2.1 i), nI i)) 8 (nf_lt (by omega)) (fun i hi k => ?_) (fun k => ?_)
        · have g := (gs.2.1.1 i hi).1
          dsimp only
          rw [ifa, if_neg (show ¬ (8 : Int32) ≤ nI i from nI_ge (b := 8) hi (by omega)), g110_6 R, a117 hi, ys.2.1.1 i hi, e_bnd (X7_bits7 g (by omega)), nI_add, nI_1, cwR_s]
        · have := cwR_le S.2.1 8
          dsimp only
          rw [ifa, if_pos (show (8 : Int32) ≤ nI 8 by decide), show bnd (divM (nI (cwR S.2.1 8)) (2 : Int32)) _ h = _ from b_div (y := 2) (by omega) (by omega) (by omega)]
          rfl
      rw [if_neg c4, if_neg c4]
      by_cases c5 : x = 5
      · rw [if_pos c5, if_pos c5]
        exact wp_eq g110_14 (wp_rt ⟨ys.2.2.2.1.1, LvY.rf⟩)
      rw [if_neg c5, if_neg c5]
      by_cases c6 : x = 6
      · rw [if_pos c6, if_pos c6]
        exact wp_eq g110_25 (wp_rt ⟨ys.2.2.1.1, LvY.rf⟩)
      rw [if_neg c6, if_neg c6]
      by_cases c7 : x = 7
      · rw [if_pos c7, if_pos c7]
        exact wp_eq g110_21 (wp_rt ⟨ys.2.2.2.2.2.1.1, LvY.rf⟩)
      rw [if_neg c7, if_neg c7]
      refine wp_rt ⟨?_, LvY.rf⟩
      by_cases a : x < 11
      · rw [if_pos a]
      · rw [if_neg a]
        by_cases b : (16 : Int32) < x
        · rw [if_pos b]
        · exact absurd ⟨a, b⟩ cm
