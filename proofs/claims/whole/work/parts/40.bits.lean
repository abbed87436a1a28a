/-! SETS AS BITS -/
theorem tb_t (x k : Nat) : tb x k = Nat.testBit x k := by
  rw [Nat.testBit_eq_decide_div_mod_eq]
  rfl
theorem nI_nat {x : Nat} (h : x < 2 ^ 31) : (nI x).toBitVec.toNat = x := by
  unfold nI
  exact Nat.mod_eq_of_lt (by omega)
theorem i32_ext {a b : Int32} (h : a.toBitVec.toNat = b.toBitVec.toNat) : a = b := Int32.toBitVec_inj.mp (BitVec.eq_of_toNat_eq h)
theorem nI_or {x y : Nat} (hx : x < 2 ^ 31) (hy : y < 2 ^ 31) : nI x ||| nI y = nI (x ||| y) := by
  apply i32_ext
  rw [Int32.toBitVec_or, BitVec.toNat_or, nI_nat hx, nI_nat hy, nI_nat (Nat.or_lt_two_pow hx hy)]
theorem nI_and {x y : Nat} (hx : x < 2 ^ 31) (hy : y < 2 ^ 31) : nI x &&& nI y = nI (x &&& y) := by
  apply i32_ext
  rw [Int32.toBitVec_and, BitVec.toNat_and, nI_nat hx, nI_nat hy, nI_nat (Nat.and_lt_two_pow _ hy)]
theorem nI_xor {x y : Nat} (hx : x < 2 ^ 31) (hy : y < 2 ^ 31) : nI x ^^^ nI y = nI (x ^^^ y) := by
  apply i32_ext
  rw [Int32.toBitVec_xor, BitVec.toNat_xor, nI_nat hx, nI_nat hy, nI_nat (Nat.xor_lt_two_pow hx hy)]
/-- x without y -/
def wo (x y : Nat) : Nat := x ^^^ (x &&& y)
theorem wo_lt {x y n : Nat} (hx : x < 2 ^ n) : wo x y < 2 ^ n := Nat.xor_lt_two_pow hx (Nat.lt_of_le_of_lt Nat.and_le_left hx)
theorem tb_wo (x y k : Nat) : tb (wo x y) k = (tb x k && !tb y k) := by
  simp only [tb_t, wo, Nat.testBit_xor, Nat.testBit_and]
  cases Nat.testBit x k <;> cases Nat.testBit y k <;> rfl
theorem tb_or (x y k : Nat) : tb (x ||| y) k = (tb x k || tb y k) := by simp only [tb_t, Nat.testBit_or]
theorem tb_and (x y k : Nat) : tb (x &&& y) k = (tb x k && tb y k) := by simp only [tb_t, Nat.testBit_and]
theorem tb_xor (x y k : Nat) : tb (x ^^^ y) k = (tb x k ^^ tb y k) := by simp only [tb_t, Nat.testBit_xor]
theorem tb_pow (j k : Nat) : tb (2 ^ j) k = decide (j = k) := by simp only [tb_t, Nat.testBit_two_pow]
theorem tb_ones (n k : Nat) : tb (2 ^ n - 1) k = decide (k < n) := by simp only [tb_t, Nat.testBit_two_pow_sub_one]
theorem tb_zero (k : Nat) : tb 0 k = false := by simp only [tb_t, Nat.zero_testBit]
theorem tb_ext {x y : Nat} (h : ∀ k, tb x k = tb y k) : x = y := Nat.eq_of_testBit_eq fun k => by rw [← tb_t, ← tb_t, h k]
theorem tb_extn {x y n : Nat} (hx : x < 2 ^ n) (hy : y < 2 ^ n) (h : ∀ k, k < n → tb x k = tb y k) : x = y := tb_ext fun k => by
  rcases Nat.lt_or_ge k n with c | c
  · exact h k c
  · rw [tb_lt hx c, tb_lt hy c]
theorem tb_ne {x n : Nat} (hx : x < 2 ^ n) (h : ¬ x = 0) : ∃ k, k < n ∧ tb x k = true := by
  apply Classical.byContradiction
  intro q
  refine h (tb_extn hx (Nat.two_pow_pos n) fun k hk => ?_)
  rw [tb_zero]
  cases c : tb x k
  · rfl
  · exact absurd ⟨k, hk, c⟩ q
theorem nI_wo {x y : Nat} (hx : x < 2 ^ 31) (hy : y < 2 ^ 31) : nI x &&& (nI y ^^^ (-1)) = nI (wo x y) := by
  apply i32_ext
  rw [Int32.toBitVec_and, BitVec.toNat_and, Int32.toBitVec_xor, BitVec.toNat_xor, nI_nat hx, nI_nat hy, nI_nat (wo_lt hx)]
  apply Nat.eq_of_testBit_eq
  intro k
  rw [← tb_t (wo x y), tb_wo, Nat.testBit_and, Nat.testBit_xor, tb_t, tb_t]
  rcases Nat.lt_or_ge k 32 with c | c
  · rw [show (-1 : Int32).toBitVec.toNat = 2 ^ 32 - 1 from rfl, Nat.testBit_two_pow_sub_one]
    simp [c]
  · have : Nat.testBit x k = false := by rw [← tb_t]; exact tb_lt hx (by omega)
    rw [this]
    rfl
theorem nI_shl1 {k : Nat} (hk : k < 31) : (1 : Int32) <<< (nI k &&& 31) = nI (2 ^ k) := by
  have h : 2 ^ k < 2 ^ 31 := Nat.pow_lt_pow_right (by decide) hk
  have := shl_nI (x := 1) (k := k) (by omega) (by omega)
  rw [Nat.one_mul] at this
  exact this
theorem pow_lt31 {k n : Nat} (hk : k < n) : 2 ^ k < 2 ^ n := Nat.pow_lt_pow_right (by decide) hk
theorem lt31 {x n : Nat} (h : x < 2 ^ n) (hn : n ≤ 31) : x < 2 ^ 31 := Nat.lt_of_lt_of_le h (Nat.pow_le_pow_right (by decide) hn)
theorem or_new {x p : Nat} (hx : x < 2 ^ p) : x ||| 2 ^ p = x + 2 ^ p := by
  have := Nat.two_pow_add_eq_or_of_lt hx 1
  rw [Nat.mul_one] at this
  rw [Nat.or_comm, ← this, Nat.add_comm]
/-! the least of a set -/
theorem fnd_at {P : Nat → Prop} [DecidablePred P] {d lo i : Nat} (h1 : lo ≤ i) (h2 : i < lo + d) (hp : P i) (hn : ∀ j, lo ≤ j → j < i → ¬ P j) : fnd P d lo = some i := by
  cases c : fnd P d lo with
  | none => exact absurd hp (fnd_none c i h1 h2)
  | some m =>
    obtain ⟨⟨a, b⟩, q, e⟩ := fnd_some c
    rcases Nat.lt_trichotomy m i with t | t | t
    · exact absurd q (hn m a t)
    · rw [t]
    · exact absurd hp (e i h1 t)
theorem fnd_all {P : Nat → Prop} [DecidablePred P] {d lo : Nat} (hn : ∀ j, lo ≤ j → j < lo + d → ¬ P j) : fnd P d lo = none := by
  cases c : fnd P d lo with
  | none => rfl
  | some m =>
    obtain ⟨⟨a, b⟩, q, e⟩ := fnd_some c
    exact absurd q (hn m a b)
theorem fnd_congr {P Q : Nat → Prop} [DecidablePred P] [DecidablePred Q] {d lo : Nat} (h : ∀ j, lo ≤ j → j < lo + d → (P j ↔ Q j)) : fnd P d lo = fnd Q d lo := by
  cases c : fnd Q d lo with
  | none => exact fnd_all fun j a b q => fnd_none c j a b ((h j a b).mp q)
  | some m =>
    obtain ⟨⟨a, b⟩, q, e⟩ := fnd_some c
    exact fnd_at a b ((h m a b).mpr q) fun j a1 b1 r => e j a1 b1 ((h j a1 (by omega)).mp r)
/-- a loop that ends at the first that is so -/
theorem wp_first {β : Type} {B : Int32 → (Int32 → M β) → M β} {Q : β → HP → Prop} (P : Nat → Prop) [DecidablePred P] (lo d : Nat) (I : Nat → HP → Prop) (hd : d < 1000000) (miss : ∀ i, lo ≤ i → i < lo + d → ¬ P i → ∀ h, I i h → ∀ k, (∀ h', I (i + 1) h' → wp (k (nI (i + 1))) h' Q) → wp (B (nI i) k) h Q) (hit : ∀ i, lo ≤ i → i < lo + d → P i → fnd P d lo = some i → ∀ h, I i h → ∀ k, wp (B (nI i) k) h Q) (fin : fnd P d lo = none → ∀ h, I (lo + d) h → ∀ k, wp (B (nI (lo + d)) k) h Q) {h : HP} (h0 : I lo h) : wp (loopK NF B (nI lo)) h Q := by
  have key : ∀ e N i h, i + e = lo + d → e < N → lo ≤ i → (∀ j, lo ≤ j → j < i → ¬ P j) → I i h → wp (loopK N B (nI i)) h Q := by
    intro e
    induction e with
    | zero =>
      intro N i h hi hN hl hj hI
      cases N with
      | zero => omega
      | succ N =>
        have : i = lo + d := by omega
        subst this
        exact fin (fnd_all hj) h hI _
    | succ e ih =>
      intro N i h hi hN hl hj hI
      cases N with
      | zero => omega
      | succ N =>
        by_cases c : P i
        · exact hit i hl (by omega) c (fnd_at hl (by omega) c hj) h hI _
        · refine miss i hl (by omega) c h hI _ fun h' hI' => ih N (i + 1) h' (by omega) (by omega) (by omega) (fun j a b => ?_) hI'
          rcases Nat.lt_or_ge j i with t | t
          · exact hj j a t
          · have : j = i := by omega
            rw [this]; exact c
  exact key d NF lo h rfl (nf_lt hd) (Nat.le_refl _) (fun j a b => by omega) h0
/-- the same where the heap stays -/
theorem lp_first {β : Type} {B : Int32 → (Int32 → M β) → M β} {h : HP} {z : Option (β × HP)} (P : Nat → Prop) [DecidablePred P] (lo d : Nat) (hd : d < 1000000) (miss : ∀ i, lo ≤ i → i < lo + d → ¬ P i → ∀ k, B (nI i) k h = k (nI (i + 1)) h) (hit : ∀ i, lo ≤ i → i < lo + d → P i → fnd P d lo = some i → ∀ k, B (nI i) k h = z) (fin : fnd P d lo = none → ∀ k, B (nI (lo + d)) k h = z) : loopK NF B (nI lo) h = z := by
  have key : ∀ e N i, i + e = lo + d → e < N → lo ≤ i → (∀ j, lo ≤ j → j < i → ¬ P j) → loopK N B (nI i) h = z := by
    intro e
    induction e with
    | zero =>
      intro N i hi hN hl hj
      cases N with
      | zero => omega
      | succ N =>
        have : i = lo + d := by omega
        subst this
        exact fin (fnd_all hj) _
    | succ e ih =>
      intro N i hi hN hl hj
      cases N with
      | zero => omega
      | succ N =>
        by_cases c : P i
        · exact hit i hl (by omega) c (fnd_at hl (by omega) c hj) _
        · refine (miss i hl (by omega) c _).trans (ih N (i + 1) (by omega) (by omega) (by omega) (fun j a b => ?_))
          rcases Nat.lt_or_ge j i with t | t
          · exact hj j a t
          · have : j = i := by omega
            rw [this]; exact c
  exact key d NF lo rfl (nf_lt hd) (Nat.le_refl _) (fun j a b => by omega)
def lb (x : Nat) : Nat := (fnd (fun k => tb x k = true) 31 0).getD 0
theorem X6_leastOf {h : HP} {x : Nat} (hx : x < 2 ^ 7) (h0 : ¬ x = 0) : f_X6_leastOf (nI x) h = some (nI (lb x), h) := by
  have hx' := lt31 hx (by omega)
  obtain ⟨k0, hk0, ek0⟩ := tb_ne hx h0
  unfold f_X6_leastOf
  refine lp_first (fun k => tb x k = true) 0 7 (by omega) (fun i _ hi c k => ?_) (fun i _ hi c e k => ?_) (fun e k => absurd ek0 (fnd_none e k0 (Nat.zero_le _) (by omega)))
  · rw [ifa, if_neg (show ¬ (7 : Int32) ≤ nI i from nI_ge (b := 7) (by omega) (by decide)), e_bnd (X6_holds hx' (by omega)), tb_if, if_neg c, nI_1]
  · rw [ifa, if_neg (show ¬ (7 : Int32) ≤ nI i from nI_ge (b := 7) (by omega) (by decide)), e_bnd (X6_holds hx' (by omega)), tb_if, if_pos c]
    obtain ⟨-, q, r⟩ := fnd_some e
    unfold lb
    rw [fnd_at (Nat.zero_le i) (by omega) q r]
    rfl
theorem X7_first {h : HP} {x : Nat} (hx : x < 2 ^ 7) (h0 : ¬ x = 0) : f_X7_first (nI x) h = some (nI (lb x), h) := by
  have hx' := lt31 hx (by omega)
  obtain ⟨k0, hk0, ek0⟩ := tb_ne hx h0
  unfold f_X7_first
  refine lp_first (fun k => tb x k = true) 0 7 (by omega) (fun i _ hi c k => ?_) (fun i _ hi c e k => ?_) (fun e k => absurd ek0 (fnd_none e k0 (Nat.zero_le _) (by omega)))
  · rw [e_bnd (X7_has hx' (by omega)), tb_ifn, if_neg c, nI_1]
  · rw [e_bnd (X7_has hx' (by omega)), tb_ifn, if_pos c]
    obtain ⟨-, q, r⟩ := fnd_some e
    unfold lb
    rw [fnd_at (Nat.zero_le i) (by omega) q r]
    rfl
