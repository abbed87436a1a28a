/-! SETS OF OTHERS: BITS, MEANS -/
theorem pop_ext {x n m : Nat} (hx : x < 2 ^ n) (hm : n ≤ m) : pop x m = pop x n := by
  induction m with
  | zero =>
    have : n = 0 := by omega
    rw [this]
  | succ m ih =>
    rcases Nat.lt_or_ge n (m + 1) with c | c
    · show pop x m + (if tb x m then 1 else 0) = _
      rw [ih (by omega), tb_lt hx (by omega)]
      rfl
    · have : n = m + 1 := by omega
      rw [this]
/-- is a set of others than p: not empty, of n people -/
def isO (n p set : Nat) : Prop := ¬ set = 0 ∧ wo set (ot n p) = 0
theorem wo_zero {x y : Nat} : wo x y = 0 ↔ ∀ k, tb x k = true → tb y k = true := by
  constructor
  · intro e k h
    have := tb_wo x y k
    rw [e, tb_zero, h] at this
    cases z : tb y k
    · rw [z] at this
      cases this
    · rfl
  · intro H
    refine tb_ext fun k => ?_
    rw [tb_wo, tb_zero]
    cases z : tb x k
    · rfl
    · rw [H k z]
      rfl
theorem wo_sub {x y n : Nat} (h : wo x y = 0) (hy : y < 2 ^ n) : x < 2 ^ n := by
  apply Nat.lt_pow_two_of_testBit
  intro i hi
  rw [← tb_t]
  cases z : tb x i
  · rfl
  · have := wo_zero.mp h i z
    rw [tb_lt hy hi] at this
    cases this
theorem wo_le {x y : Nat} (h : wo x y = 0) : x ≤ y := by
  have e : x &&& y = x := tb_ext fun k => by
    rw [tb_and]
    cases z : tb x k
    · rfl
    · rw [wo_zero.mp h k z]
      rfl
  rw [← e]
  exact Nat.and_le_right
