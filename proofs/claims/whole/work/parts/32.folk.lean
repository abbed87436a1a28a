/-! WHAT PEOPLE ARE: rows (kinds, figures, looks, beliefs, asked), how many, weeks -/
abbrev AV : Type := (Nat → Nat → Nat) × Nat × Nat
def FolkIs (h : HP) (b : Nat) (A : AV) : Prop := (h.1 b 0 = nI A.2.1 ∧ h.1 b 1 = nI A.2.2) ∧ (∀ k, k < 7 → h.1 (b + 1) k = nI (A.1 0 k)) ∧ (∀ k, k < 7 → h.1 (b + 2) k = nI (A.1 1 k)) ∧ (∀ k, k < 7 → h.1 (b + 3) k = nI (A.1 2 k)) ∧ (∀ k, k < 7 → h.1 (b + 4) k = nI (A.1 3 k)) ∧ ∀ k, k < 7 → h.1 (b + 5) k = nI (A.1 4 k)
/-- the same people in the reference's object -/
def ModIs (h : HP) (A : AV) : Prop := (h.1 110 8 = nI A.2.1 ∧ h.1 110 9 = nI A.2.2) ∧ (∀ k, k < 7 → h.1 112 k = nI (A.1 0 k)) ∧ (∀ k, k < 7 → h.1 113 k = nI (A.1 1 k)) ∧ (∀ k, k < 7 → h.1 114 k = nI (A.1 2 k)) ∧ (∀ k, k < 7 → h.1 115 k = nI (A.1 3 k)) ∧ ∀ k, k < 7 → h.1 116 k = nI (A.1 4 k)
def GoodA (A : AV) : Prop := (A.2.1 ≤ 7 ∧ A.2.2 ≤ 100000) ∧ ∀ k, k < 7 → A.1 0 k ≤ 5 ∧ A.1 1 k ≤ 9 ∧ A.1 2 k ≤ 99 ∧ A.1 3 k ≤ 99 ∧ A.1 4 k < 2 ^ A.2.1
theorem ifa {α : Type} {P : Prop} [Decidable P] {A B : M α} {h : HP} : (if P then A else B) h = if P then A h else B h := by split <;> rfl
theorem ite_t {α : Type} {P : Prop} [Decidable P] {a b c : α} (h : P) (e : a = c) : (if P then a else b) = c := by rw [if_pos h, e]
theorem ite_f {α : Type} {P : Prop} [Decidable P] {a b c : α} (h : ¬ P) (e : b = c) : (if P then a else b) = c := by rw [if_neg h, e]
theorem b_div {β : Type} {f : Int32 → M β} {h : HP} {x y : Nat} (hx : x < 2 ^ 31) (h0 : 0 < y) (hy : y < 2 ^ 31) : bnd (divM (nI x) (nI y)) f h = f (nI (x / y)) h := e_bnd (e_div hx h0 hy)
theorem b_rem {β : Type} {f : Int32 → M β} {h : HP} {x y : Nat} (hx : x < 2 ^ 31) (h0 : 0 < y) (hy : y < 2 ^ 31) : bnd (remM (nI x) (nI y)) f h = f (nI (x % y)) h := e_bnd (e_rem hx h0 hy)
/-- what one says of a look -/
def wd (A : AV) (p v : Nat) : Nat :=
  if A.1 0 p = 1 then min 99 (v + A.1 1 p)
  else if A.1 0 p = 2 then v - 2 * A.1 1 p
  else if A.1 0 p = 3 then (min 99 (v + A.1 1 p) + A.1 3 p) / 2
  else if A.1 0 p = 4 then A.1 3 p - 2 * A.1 1 p
  else if A.1 0 p = 5 then 99 - v else v
theorem wd_le {A : AV} {p v : Nat} (G : GoodA A) (hp : p < 7) (hv : v ≤ 99) : wd A p v ≤ 99 := by
  obtain ⟨-, -, -, g, -⟩ := G.2 p hp
  unfold wd
  repeat' split
  all_goals omega
theorem X0_word {h : HP} {b p v : Nat} {A : AV} (H : FB h.2 b) (F : FolkIs h b A) (G : GoodA A) (hp : p < 7) (hv : v ≤ 99) : f_X0_word b (nI p) (nI v) h = some (nI (wd A p v), h) := by
  obtain ⟨-, f0, f1, f2, f3, f4⟩ := F
  obtain ⟨g0, g1, g2, g3, g4⟩ := G.2 p hp
  have e0 := f0 p hp
  have e1 := f1 p hp
  have e3 := f3 p hp
  unfold f_X0_word wd
  simp only [jn, bR3 H, bR4 H, bR5 H, bR6 H, bR7 H, bR8 H, bI H, bC H, bA1 H hp, bA2 H hp, bA3 H hp, bA4 H hp, bA5 H hp, bA6 H hp, e0, e1, e3, ifa, rt]
  generalize A.1 0 p = k at *
  generalize A.1 1 p = f at *
  generalize A.1 3 p = w at *
  simp (disch := omega) only [nI_add, pk_mul, le_nI, lt_nI, eq_nI, n0, n1, n2, n3, n4, n5, n6, n7, n8, n9, n99]
  repeat' split
  all_goals first | (exfalso; omega) | skip
  all_goals (try simp (disch := omega) only [b_div, b_rem, pk_sub, rt])
  all_goals first | rfl | (congr 3; omega) | (congr 2; omega)
theorem X7_held {h : HP} {x : Nat} (hx : x < 2 ^ 31) : f_X7_held (nI x) h = some (nI (min 99 x), h) := by
  unfold f_X7_held
  simp only [ifa, rt]
  simp (disch := omega) only [nI_add, pk_mul, le_nI, lt_nI, eq_nI, n0, n1, n2, n3, n4, n5, n6, n7, n8, n9, n99]
  repeat' split
  all_goals first | (exfalso; omega) | skip
  all_goals (try simp (disch := omega) only [b_div, b_rem, pk_sub, rt])
  all_goals first | rfl | (congr 3; omega) | (congr 2; omega)
theorem X7_heldS {h : HP} {x y : Nat} (hx : x < 1000) (hy : y < 1000) : f_X7_held (nI x - nI y) h = some (nI (min 99 (x - y)), h) := by
  by_cases c : y ≤ x
  · rw [pk_sub c]
    exact X7_held (by omega)
  · unfold f_X7_held
    have := pk_sneg (a := x) (b := y) (by omega) (by omega)
    rw [if_neg (fun q => absurd this (Int32.not_lt.mpr q))]
    have e : min 99 (x - y) = 0 := by omega
    rw [e]
    rfl
theorem X7_said {h : HP} {p v : Nat} {A : AV} (R : RefOk h.2) (F : ModIs h A) (G : GoodA A) (hp : p < 7) (hv : v ≤ 99) : f_X7_saidOf 110 (nI p) (nI v) h = some (nI (wd A p v), h) := by
  obtain ⟨-, f0, f1, f2, f3, f4⟩ := F
  obtain ⟨g0, g1, g2, g3, g4⟩ := G.2 p hp
  have e0 := f0 p hp
  have e1 := f1 p hp
  have e3 := f3 p hp
  unfold f_X7_saidOf wd
  simp only [g110_1 R, g110_2 R, g110_4 R, a112 hp, a113 hp, a115 hp, e0, e1, e3, ifa, rt]
  generalize A.1 0 p = k at *
  generalize A.1 1 p = f at *
  generalize A.1 3 p = w at *
  simp (disch := omega) only [nI_add, pk_mul, le_nI, lt_nI, eq_nI, n0, n1, n2, n3, n4, n5, n6, n7, n8, n9, n99]
  repeat' split
  all_goals first | (exfalso; omega) | skip
  all_goals (try simp (disch := omega) only [e_bnd (X7_held (h := h) (x := v + f) (by omega)), e_bnd (X7_heldS (h := h) (x := v) (y := 2 * f) (by omega) (by omega)), e_bnd (X7_heldS (h := h) (x := w) (y := 2 * f) (by omega) (by omega)), g110_1 R, g110_2 R, g110_4 R, a112 hp, a113 hp, a115 hp, e3, nI_add, b_div, b_rem, pk_sub, rt])
  all_goals first | rfl | (congr 3; omega) | (congr 2; omega)
/-! bits -/
def tb (x k : Nat) : Bool := x / 2 ^ k % 2 == 1
theorem X6_holds {h : HP} {x k : Nat} (hx : x < 2 ^ 31) (hk : k < 31) : f_X6_holds (nI x) (nI k) h = some (if tb x k then 1 else 0, h) := by
  unfold f_X6_holds tb
  rw [shr_nI hx (by omega), and1 (Nat.lt_of_le_of_lt (Nat.div_le_self _ _) hx)]
  have : x / 2 ^ k % 2 = 0 ∨ x / 2 ^ k % 2 = 1 := by omega
  rcases this with e | e <;> rw [e]
  · rw [if_pos (show nI 0 = 0 from rfl)]
    rfl
  · rw [if_neg (show ¬ nI 1 = 0 by decide)]
    rfl
theorem X7_has {h : HP} {x k : Nat} (hx : x < 2 ^ 31) (hk : k < 31) : f_X7_has (nI x) (nI k) h = some (if tb x k then 1 else 0, h) := by
  unfold f_X7_has tb
  rw [shr_nI hx (by omega), and1 (Nat.lt_of_le_of_lt (Nat.div_le_self _ _) hx)]
  have : x / 2 ^ k % 2 = 0 ∨ x / 2 ^ k % 2 = 1 := by omega
  rcases this with e | e <;> rw [e]
  · rw [if_pos (by decide)]
    rfl
  · rw [if_neg (by decide)]
    rfl
theorem tb_if {b : Bool} {α : Type} {x y : α} : (if (if b then (1 : Int32) else 0) = 0 then x else y) = if b then y else x := by cases b <;> rfl
theorem tb_ifn {b : Bool} {α : Type} {x y : α} : (if ¬ (if b then (1 : Int32) else 0) = 0 then x else y) = if b then x else y := by cases b <;> rfl
/-- how many bits -/
def pop (x : Nat) : Nat → Nat
  | 0 => 0
  | n + 1 => pop x n + if tb x n then 1 else 0
theorem pop_le (x n : Nat) : pop x n ≤ n := by
  induction n with
  | zero => exact Nat.le_refl 0
  | succ n ih => unfold pop; split <;> omega
theorem X7_bits {h : HP} {x : Nat} (hx : x < 2 ^ 31) : f_X7_bits (nI x) h = some (nI (pop x 31), h) := by
  unfold f_X7_bits
  refine lp_pure (s := fun i => (nI (pop x i), nI i)) 31 (nf_lt (by decide)) (fun i hi k => ?_) (fun k => ?_)
  · show (if (31 : Int32) ≤ nI i then _ else k (nI (pop x i) + (nI x >>> (nI i &&& 31) &&& 1), nI i + 1)) h = _
    rw [if_neg (show ¬ (31 : Int32) ≤ nI i from nI_ge (b := 31) hi (by decide)), shr_nI hx (by omega), and1 (Nat.lt_of_le_of_lt (Nat.div_le_self _ _) hx), nI_add, nI_1]
    congr 3
    show pop x i + x / 2 ^ i % 2 = pop x i + if tb x i then 1 else 0
    unfold tb
    have : x / 2 ^ i % 2 = 0 ∨ x / 2 ^ i % 2 = 1 := by omega
    rcases this with e | e <;> rw [e] <;> rfl
  · rfl
/-- what a set says of a look, together -/
def sm (A : AV) (set v : Nat) : Nat → Nat
  | 0 => 0
  | q + 1 => sm A set v q + if tb set q then wd A q v else 0
theorem sm_le {A : AV} (G : GoodA A) {set v q : Nat} (hq : q ≤ 7) (hv : v ≤ 99) : sm A set v q ≤ 99 * q := by
  induction q with
  | zero => exact Nat.le_refl 0
  | succ q ih =>
    unfold sm
    have := wd_le G (p := q) (by omega) hv
    have := ih (by omega)
    split <;> omega
/-- the mean of what a set says of a look; of none: 0 -/
def mn (A : AV) (set v : Nat) : Nat := sm A set v A.2.1 / pop set A.2.1
theorem X0_mean {h : HP} {b set v : Nat} {A : AV} (H : FB h.2 b) (F : FolkIs h b A) (G : GoodA A) (hs : set < 2 ^ 31) (hv : v ≤ 99) : f_X0_mean b (nI set) (nI v) h = some (if pop set A.2.1 = 0 then -9 else nI (mn A set v), h) := by
  have hn := G.1.1
  have f0 := F.1.1
  unfold f_X0_mean
  refine lp_pure (s := fun i => (nI (sm A set v i), nI (pop set i), nI i)) A.2.1 (nf_lt (by omega)) (fun i hi k => ?_) (fun k => ?_)
  · simp only [bI H, f0]
    rw [if_neg (nI_ge hi (by omega)), e_bnd (X6_holds hs (by omega)), tb_if]
    simp only [sm, pop]
    by_cases c : tb set i = true
    · simp only [c, if_true, bC H]
      rw [e_bnd (X0_word H F G (by omega) hv), nI_add, nI_1, nI_1]
    · simp only [c, Bool.false_eq_true, if_false, Nat.add_zero]
      rw [nI_1]
  · simp only [bI H, f0]
    rw [if_pos (nI_le (Nat.le_refl _) (by omega))]
    have := pop_le set A.2.1
    have := sm_le G (set := set) hn hv
    by_cases c : pop set A.2.1 = 0
    · rw [c]
      rfl
    · rw [if_pos (nI_ne0 (by omega) (by omega)), b_div (by omega) (by omega) (by omega), if_neg c]
      rfl
theorem tb_lt {x n k : Nat} (hx : x < 2 ^ n) (hk : n ≤ k) : tb x k = false := by
  have h : x < 2 ^ k := Nat.lt_of_lt_of_le hx (Nat.pow_le_pow_right (by decide) hk)
  unfold tb
  rw [Nat.div_eq_of_lt h]
  rfl
theorem pop_more {x n : Nat} (hx : x < 2 ^ n) (d : Nat) : pop x (n + d) = pop x n := by
  induction d with
  | zero => rfl
  | succ d ih =>
    show pop x (n + d) + (if tb x (n + d) then 1 else 0) = _
    rw [tb_lt hx (by omega), ih]
    rfl
theorem pop_31 {x n : Nat} (hx : x < 2 ^ n) (hn : n ≤ 31) : pop x 31 = pop x n := by
  have := pop_more hx (31 - n)
  rw [show n + (31 - n) = 31 by omega] at this
  exact this
theorem pop_0 {x n : Nat} (h : pop x n = 0) (hx : x < 2 ^ n) : x = 0 := by
  induction n generalizing x with
  | zero => simp at hx; exact hx
  | succ n ih =>
    have h1 : pop x n = 0 ∧ tb x n = false := by
      have : pop x n + (if tb x n then 1 else 0) = 0 := h
      cases c : tb x n
      · rw [c] at this; simp at this; exact ⟨this, rfl⟩
      · rw [c] at this; simp at this
    have h2 : x < 2 ^ n := by
      have h3 := h1.2
      unfold tb at h3
      have h4 : x / 2 ^ n < 2 := by
        rw [Nat.div_lt_iff_lt_mul (Nat.two_pow_pos n)]
        rw [Nat.pow_succ] at hx
        omega
      have h5 : x / 2 ^ n = 0 := by
        have : x / 2 ^ n = 0 ∨ x / 2 ^ n = 1 := by
          revert h4
          generalize x / 2 ^ n = z
          intro h4
          omega
        rcases this with e | e
        · exact e
        · rw [e] at h3; cases h3
      exact (Nat.div_eq_zero_iff_lt (Nat.two_pow_pos n)).mp h5
    exact ih h1.1 h2
theorem pop_pos {x n : Nat} (hx : x < 2 ^ n) (h : ¬ x = 0) : ¬ pop x n = 0 := fun q => h (pop_0 q hx)
/-- what one believes behind a week, if he asks this set -/
def bw (A : AV) (p set : Nat) : Nat := if set = 0 then A.1 3 p else mn A set (A.1 2 p)
theorem X7_mean {h : HP} {p set : Nat} {A : AV} (R : RefOk h.2) (F : ModIs h A) (G : GoodA A) (hp : p < 7) (hs : set < 2 ^ A.2.1) : f_X7_meanOf 110 (nI p) (nI set) h = some (nI (bw A p set), h) := by
  have hn := G.1.1
  have hs2 : set < 2 ^ 7 := Nat.lt_of_lt_of_le hs (Nat.pow_le_pow_right (by decide) hn)
  have hs1 : set < 2 ^ 31 := by omega
  obtain ⟨g0, g1, g2, g3, g4⟩ := G.2 p hp
  have f0 := F.1.1
  have e2 := F.2.2.2.1 p hp
  have e3 := F.2.2.2.2.1 p hp
  unfold f_X7_meanOf
  refine lp_pure (s := fun i => (nI (sm A set (A.1 2 p) i), nI i)) A.2.1 (nf_lt (by omega)) (fun i hi k => ?_) (fun k => ?_)
  · simp only [g110_8, f0]
    rw [if_neg (nI_ge hi (by omega)), e_bnd (X7_has hs1 (by omega)), tb_if]
    simp only [sm]
    by_cases c : tb set i = true
    · simp only [c, if_true, g110_3 R, a114 hp, e2, c110]
      rw [e_bnd (X7_said R F G (by omega) g2), nI_add, nI_1]
    · simp only [c, Bool.false_eq_true, if_false, n0]
      rw [nI_1, nI_add]
  · simp only [g110_8, f0]
    rw [if_pos (nI_le (Nat.le_refl _) (by omega))]
    have := pop_le set A.2.1
    have := sm_le G (set := set) hn g2
    unfold bw
    by_cases c : set = 0
    · subst c
      rw [if_neg (by decide)]
      simp only [g110_4 R, a115 hp, e3]
      rfl
    · have c2 := pop_pos hs c
      rw [if_pos (nI_ne0 (by omega) hs1), e_bnd (X7_bits hs1), pop_31 hs (by omega), b_div (by omega) (by omega) (by omega), if_neg c]
      rfl
