/-! SETS OF OTHERS: BITS, MEANS -/
theorem pop_ext {x n m : Nat} (hx : x < 2 ^ n) (hm : n ≤ m) : pop x m = pop x n := by
  induction m with
  | zero =>
    have : n = 0 := by omega
    rw [this]
  | succ m ih =>
    rcases Nat.lt_or_ge n (m + 1) with c | c
    · show pop x m + (if tb x m then 1 else 0) = _
      rw [ih (by omega), tb_lt hx (by omega)]
      rfl
    · have : n = m + 1 := by omega
      rw [this]
/-- is a set of others than p: not empty, of n people -/
def isO (n p set : Nat) : Prop := ¬ set = 0 ∧ wo set (ot n p) = 0
theorem wo_zero {x y : Nat} : wo x y = 0 ↔ ∀ k, tb x k = true → tb y k = true := by
  constructor
  · intro e k h
    have := tb_wo x y k
    rw [e, tb_zero, h] at this
    cases z : tb y k
    · rw [z] at this
      cases this
    · rfl
  · intro H
    refine tb_ext fun k => ?_
    rw [tb_wo, tb_zero]
    cases z : tb x k
    · rfl
    · rw [H k z]
      rfl
theorem wo_sub {x y n : Nat} (h : wo x y = 0) (hy : y < 2 ^ n) : x < 2 ^ n := by
  apply Nat.lt_pow_two_of_testBit
  intro i hi
  rw [← tb_t]
  cases z : tb x i
  · rfl
  · have := wo_zero.mp h i z
    rw [tb_lt hy hi] at this
    cases this
theorem wo_le {x y : Nat} (h : wo x y = 0) : x ≤ y := by
  have e : x &&& y = x := tb_ext fun k => by
    rw [tb_and]
    cases z : tb x k
    · rfl
    · rw [wo_zero.mp h k z]
      rfl
  rw [← e]
  exact Nat.and_le_right
/-! the library's count of bits -/
def bc1 (x : Int32) : Int32 := x - (ushr x 1 &&& 1431655765)
def bc2 (x : Int32) : Int32 := (x &&& 858993459) + (ushr x 2 &&& 858993459)
def bc3 (x : Int32) : Int32 := (x + ushr x 4) &&& 252645135
def bc4 (x : Int32) : Int32 := x + ushr x 8
def bc5 (x : Int32) : Int32 := (x + ushr x 16) &&& 63
def bc (x : Int32) : Int32 := bc5 (bc4 (bc3 (bc2 (bc1 x))))
set_option maxRecDepth 20000 in
theorem bc_ok0 : ∀ k, k < 16 → ∀ j, j < 16 → bc (nI (16 * k + j)) = nI (pop (16 * k + j) 8) := by decide
theorem bc_ok : ∀ k, k < 256 → bc (nI k) = nI (pop k 8) := fun k hk => by
  have := bc_ok0 (k / 16) (by omega) (k % 16) (by omega)
  rw [show 16 * (k / 16) + k % 16 = k by omega] at this
  exact this
theorem J6_bits {h : HP} {x : Nat} (hx : x < 2 ^ 8) : f_J6_bitCount_0f7a4 (nI x) h = some (nI (pop x 8), h) := by
  rw [← bc_ok x (by omega)]
  rfl
theorem X6_fewer {h : HP} {x y : Nat} (hx : x < 2 ^ 8) (hy : y < 2 ^ 8) : f_X6_fewer (nI x) (nI y) h = some (if pop x 8 < pop y 8 then 1 else 0, h) := by
  have l1 := pop_le x 8
  have l2 := pop_le y 8
  unfold f_X6_fewer
  rw [e_bnd (J6_bits hx), e_bnd (J6_bits hy), ifa]
  by_cases c : pop x 8 < pop y 8
  · rw [if_pos c, if_neg (fun q => absurd ((nI_leI (by omega) (by omega)).mp q) (by omega))]
    rfl
  · rw [if_neg c, if_pos ((nI_leI (by omega) (by omega)).mpr (by omega))]
    rfl
def iso (n p set : Nat) : Bool := decide (¬ set = 0) && decide (wo set (ot n p) = 0)
theorem X7_isOf {h : HP} {n p set : Nat} (e : h.1 110 8 = nI n) (hn : n ≤ 7) (hp : p < 31) (hs : set < 2 ^ 31) : f_X7_isOf 110 (nI set) (nI p) h = some (if iso n p set then 1 else 0, h) := by
  have l1 := ot_lt n p
  have := pow_le7 hn
  unfold f_X7_isOf iso
  rw [ifa]
  by_cases c : set = 0
  · subst c
    rfl
  · rw [if_neg (nI_ne0 (by omega) hs), c110, e_bnd (X7_others e hn hp), nI_wo hs (by omega), ifa]
    by_cases d : wo set (ot n p) = 0
    · rw [d, if_neg (fun q => q rfl)]
      simp [c, d, retZ]
    · rw [if_pos (nI_ne0 (by omega) (wo_lt hs))]
      simp [c, d, retZ]
theorem iso_lt {n p set : Nat} (h : iso n p set = true) : set < 2 ^ n ∧ ¬ set = 0 := by
  unfold iso at h
  rw [Bool.and_eq_true, decide_eq_true_eq, decide_eq_true_eq] at h
  exact ⟨wo_sub h.2 (ot_lt n p), h.1⟩
theorem iso_le {n p set : Nat} (h : iso n p set = true) : set ≤ ot n p := by
  unfold iso at h
  rw [Bool.and_eq_true, decide_eq_true_eq, decide_eq_true_eq] at h
  exact wo_le h.2
/-- how far what they say of p is from the truth -/
def eo (A : AV) (p set : Nat) : Nat := ds (mn A set (A.1 2 p)) (A.1 2 p)
theorem mn_le {A : AV} (G : GoodA A) {p set : Nat} (hp : p < 7) (hs : set < 2 ^ A.2.1) (h0 : ¬ set = 0) : mn A set (A.1 2 p) ≤ 99 := by
  have := bw_le G hp hs
  unfold bw at this
  rw [if_neg h0] at this
  exact this
theorem eo_le {A : AV} (G : GoodA A) {p set : Nat} (hp : p < 7) (hs : set < 2 ^ A.2.1) (h0 : ¬ set = 0) : eo A p set ≤ 99 := by
  have := mn_le G hp hs h0
  have := (G.2 p hp).2.2.1
  unfold eo ds
  omega
theorem X0_meanS {h : HP} {b set p : Nat} {A : AV} (H : FB h.2 b) (F : FolkIs h b A) (G : GoodA A) (hp : p < 7) (hs : set < 2 ^ A.2.1) (h0 : ¬ set = 0) : f_X0_mean b (nI set) (nI (A.1 2 p)) h = some (nI (mn A set (A.1 2 p)), h) := by
  rw [X0_mean H F G (lt31 hs (by have := G.1.1; omega)) (G.2 p hp).2.2.1, if_neg (pop_pos hs h0)]
theorem X6_errorBySet {h : HP} {p set : Nat} {A : AV} (R : RefOk h.2) (F : FolkIs h 2 A) (G : GoodA A) (hp : p < 7) (hs : set < 2 ^ A.2.1) (h0 : ¬ set = 0) : f_X6_errorBySet 0 (nI p) (nI set) h = some (nI (eo A p set), h) := by
  have B := FB.of R (b := 2) (by decide)
  have l1 := mn_le G hp hs h0
  have l2 := (G.2 p hp).2.2.1
  unfold f_X6_errorBySet
  rw [x_gr0 R, bR5 B, bA3 B hp, F.2.2.2.1 p hp, x_gr0 R, bC B, e_bnd (X0_meanS B F G hp hs h0), mabs_sub (by omega) (by omega)]
  rfl
theorem X7_errorOf {h : HP} {p set : Nat} {A : AV} (R : RefOk h.2) (F : ModIs h A) (G : GoodA A) (hp : p < 7) (hs : set < 2 ^ A.2.1) (h0 : ¬ set = 0) : f_X7_errorOf 110 (nI p) (nI set) h = some (nI (eo A p set), h) := by
  have l1 := mn_le G hp hs h0
  have l2 := (G.2 p hp).2.2.1
  unfold f_X7_errorOf
  rw [c110, e_bnd (X7_mean R F G hp hs)]
  unfold bw
  rw [if_neg h0, g110_3 R, a114 hp, F.2.2.2.1 p hp, e_bnd (X7_far (by omega) (by omega))]
  rfl
