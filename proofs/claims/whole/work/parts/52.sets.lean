/-! SETS OF OTHERS: BITS, MEANS -/
theorem pop_ext {x n m : Nat} (hx : x < 2 ^ n) (hm : n ≤ m) : pop x m = pop x n := by
  induction m with
  | zero =>
    have : n = 0 := by omega
    rw [this]
  | succ m ih =>
    rcases Nat.lt_or_ge n (m + 1) with c | c
    · show pop x m + (if tb x m then 1 else 0) = _
      rw [ih (by omega), tb_lt hx (by omega)]
      rfl
    · have : n = m + 1 := by omega
      rw [this]
/-- is a set of others than p: not empty, of n people -/
def isO (n p set : Nat) : Prop := ¬ set = 0 ∧ wo set (ot n p) = 0
theorem wo_zero {x y : Nat} : wo x y = 0 ↔ ∀ k, tb x k = true → tb y k = true := by
  constructor
  · intro e k h
    have := tb_wo x y k
    rw [e, tb_zero, h] at this
    cases z : tb y k
    · rw [z] at this
      cases this
    · rfl
  · intro H
    refine tb_ext fun k => ?_
    rw [tb_wo, tb_zero]
    cases z : tb x k
    · rfl
    · rw [H k z]
      rfl
theorem wo_sub {x y n : Nat} (h : wo x y = 0) (hy : y < 2 ^ n) : x < 2 ^ n := by
  apply Nat.lt_pow_two_of_testBit
  intro i hi
  rw [← tb_t]
  cases z : tb x i
  · rfl
  · have := wo_zero.mp h i z
    rw [tb_lt hy hi] at this
    cases this
theorem wo_le {x y : Nat} (h : wo x y = 0) : x ≤ y := by
  have e : x &&& y = x := tb_ext fun k => by
    rw [tb_and]
    cases z : tb x k
    · rfl
    · rw [wo_zero.mp h k z]
      rfl
  rw [← e]
  exact Nat.and_le_right
/-! the library's count of bits -/
def bc1 (x : Int32) : Int32 := x - (ushr x 1 &&& 1431655765)
def bc2 (x : Int32) : Int32 := (x &&& 858993459) + (ushr x 2 &&& 858993459)
def bc3 (x : Int32) : Int32 := (x + ushr x 4) &&& 252645135
def bc4 (x : Int32) : Int32 := x + ushr x 8
def bc5 (x : Int32) : Int32 := (x + ushr x 16) &&& 63
def bc (x : Int32) : Int32 := bc5 (bc4 (bc3 (bc2 (bc1 x))))
set_option maxRecDepth 20000 in
theorem bc_ok0 : ∀ k, k < 16 → ∀ j, j < 16 → bc (nI (16 * k + j)) = nI (pop (16 * k + j) 8) := by decide
theorem bc_ok : ∀ k, k < 256 → bc (nI k) = nI (pop k 8) := fun k hk => by
  have := bc_ok0 (k / 16) (by omega) (k % 16) (by omega)
  rw [show 16 * (k / 16) + k % 16 = k by omega] at this
  exact this
theorem J6_bits {h : HP} {x : Nat} (hx : x < 2 ^ 8) : f_J6_bitCount_0f7a4 (nI x) h = some (nI (pop x 8), h) := by
  rw [← bc_ok x (by omega)]
  rfl
