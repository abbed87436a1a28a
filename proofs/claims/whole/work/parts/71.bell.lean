/-! CHEAPEST WAYS: rounds of relaxing -/
def bdG (V : Nat → Nat) (c : Nat → Nat) (d : Nat → Nat) (v u b : Nat) : Nat := if tb (V u) v = true then min b (d u + c v) else b
def bD (V : Nat → Nat) (c : Nat → Nat) (s B a : Nat) : Nat → Nat → Nat
  | 0, v => if v = a then s else B
  | k + 1, v => fold (bdG V c (bD V c s B a k) v) 8 (bD V c s B a k v)
theorem bD_s (V : Nat → Nat) (c : Nat → Nat) (s B a k v : Nat) : bD V c s B a (k + 1) v = fold (bdG V c (bD V c s B a k) v) 8 (bD V c s B a k v) := rfl
theorem bdF_le (V : Nat → Nat) (c d : Nat → Nat) (v n b : Nat) : fold (bdG V c d v) n b ≤ b := by
  induction n with
  | zero => exact Nat.le_refl b
  | succ n ih =>
    show bdG V c d v n (fold (bdG V c d v) n b) ≤ b
    unfold bdG
    unfold bdG at ih
    split
    · exact Nat.le_trans (Nat.min_le_left _ _) ih
    · exact ih
theorem bdF_edge {V : Nat → Nat} {c d : Nat → Nat} {v n b u : Nat} (hu : u < n) (h : tb (V u) v = true) : fold (bdG V c d v) n b ≤ d u + c v := by
  induction n with
  | zero => omega
  | succ n ih =>
    show bdG V c d v n (fold (bdG V c d v) n b) ≤ _
    by_cases e : u = n
    · subst e
      unfold bdG
      rw [if_pos h]
      exact Nat.min_le_right _ _
    · have := ih (by omega)
      unfold bdG
      unfold bdG at this
      split
      · exact Nat.le_trans (Nat.min_le_left _ _) this
      · exact this
theorem bdF_att {V : Nat → Nat} {c d : Nat → Nat} {v n b : Nat} : fold (bdG V c d v) n b = b ∨ ∃ u, u < n ∧ tb (V u) v = true ∧ fold (bdG V c d v) n b = d u + c v := by
  induction n with
  | zero => exact Or.inl rfl
  | succ n ih =>
    have e : fold (bdG V c d v) (n + 1) b = bdG V c d v n (fold (bdG V c d v) n b) := rfl
    rw [e]
    by_cases t : tb (V n) v = true
    · have e2 : bdG V c d v n (fold (bdG V c d v) n b) = min (fold (bdG V c d v) n b) (d n + c v) := if_pos t
      rw [e2]
      by_cases q : fold (bdG V c d v) n b ≤ d n + c v
      · rw [Nat.min_eq_left q]
        rcases ih with h | ⟨u, h1, h2, h3⟩
        · exact Or.inl h
        · exact Or.inr ⟨u, by omega, h2, h3⟩
      · rw [Nat.min_eq_right (by omega)]
        exact Or.inr ⟨n, by omega, t, rfl⟩
    · have e2 : bdG V c d v n (fold (bdG V c d v) n b) = fold (bdG V c d v) n b := if_neg t
      rw [e2]
      rcases ih with h | ⟨u, h1, h2, h3⟩
      · exact Or.inl h
      · exact Or.inr ⟨u, by omega, h2, h3⟩
section BELL
variable {V : Nat → Nat} {c : Nat → Nat} {s B a : Nat}
theorem bD_le (k v : Nat) : bD V c s B a (k + 1) v ≤ bD V c s B a k v := bdF_le _ _ _ _ _ _
theorem bD_mono (k d v : Nat) : bD V c s B a (k + d) v ≤ bD V c s B a k v := by
  induction d with
  | zero => exact Nat.le_refl _
  | succ d ih => exact Nat.le_trans (bD_le (k + d) v) ih
theorem bD_edge {k u v : Nat} (hu : u < 8) (h : tb (V u) v = true) : bD V c s B a (k + 1) v ≤ bD V c s B a k u + c v := bdF_edge hu h
theorem bD_att (k v : Nat) : bD V c s B a (k + 1) v = bD V c s B a k v ∨ ∃ u, u < 8 ∧ tb (V u) v = true ∧ bD V c s B a (k + 1) v = bD V c s B a k u + c v := bdF_att
theorem bD_cap (hs : s ≤ B) (k v : Nat) : bD V c s B a k v ≤ B := by
  induction k with
  | zero =>
    show (if v = a then s else B) ≤ B
    split <;> omega
  | succ k ih => exact Nat.le_trans (bD_le k v) ih
/-- the chain of those that got better, one in each round -/
theorem bD_chain (hc : ∀ v, 0 < c v) (k : Nat) : ∀ v S, v < 8 → bD V c s B a (k + 1) v < bD V c s B a k v → (∀ x, tb S x = true → ∃ i, k + 1 ≤ i ∧ bD V c s B a (k + 1) v < bD V c s B a i x) → k + 2 + pop S 8 ≤ 8 := by
  have nin : ∀ {k i v x : Nat}, k ≤ i → bD V c s B a k v < bD V c s B a i x → ¬ x = v := fun {k i v x} h1 h2 q => by
    subst q
    have := bD_mono (V := V) (c := c) (s := s) (B := B) (a := a) k (i - k) x
    rw [show k + (i - k) = i by omega] at this
    omega
  induction k with
  | zero =>
    intro v S hv h H
    rcases bD_att (V := V) (c := c) (s := s) (B := B) (a := a) 0 v with e | ⟨u, u1, u2, u3⟩
    · omega
    · have cv := hc v
      have hS : tb S v = false := by
        cases z : tb S v
        · rfl
        · obtain ⟨i, i1, i2⟩ := H v z
          exact absurd rfl (nin (by omega) i2)
      have huv : ¬ v = u := fun q => by
        subst q
        omega
      have hu : tb (S ||| 2 ^ v) u = false := by
        rw [tb_or, tb_pow, decide_eq_false huv, Bool.or_false]
        cases z : tb S u
        · rfl
        · obtain ⟨i, i1, i2⟩ := H u z
          exact absurd rfl (nin (k := 0) (i := i) (v := u) (x := u) (by omega) (by omega))
      have p1 := pop_or hS 8
      have p2 := pop_or hu 8
      rw [if_pos hv] at p1
      rw [if_pos u1] at p2
      have := pop_le (S ||| 2 ^ v ||| 2 ^ u) 8
      omega
  | succ k ih =>
    intro v S hv h H
    rcases bD_att (V := V) (c := c) (s := s) (B := B) (a := a) (k + 1) v with e | ⟨u, u1, u2, u3⟩
    · omega
    · have cv := hc v
      have hS : tb S v = false := by
        cases z : tb S v
        · rfl
        · obtain ⟨i, i1, i2⟩ := H v z
          exact absurd rfl (nin (by omega) i2)
      have lt : bD V c s B a (k + 1) u < bD V c s B a k u := by
        have l1 := bD_le (V := V) (c := c) (s := s) (B := B) (a := a) k u
        have l2 := bD_edge (V := V) (c := c) (s := s) (B := B) (a := a) (k := k) u1 u2
        omega
      have := ih u (S ||| 2 ^ v) u1 lt fun x hx => by
        rw [tb_or, tb_pow, Bool.or_eq_true, decide_eq_true_eq] at hx
        rcases hx with hx | hx
        · obtain ⟨i, i1, i2⟩ := H x hx
          exact ⟨i, by omega, by omega⟩
        · subst hx
          exact ⟨k + 1 + 1, by omega, by omega⟩
      have p1 := pop_or hS 8
      rw [if_pos hv] at p1
      omega
theorem bD_78 (hc : ∀ v, 0 < c v) {v : Nat} (hv : v < 8) : bD V c s B a 8 v = bD V c s B a 7 v := by
  have l := bD_le (V := V) (c := c) (s := s) (B := B) (a := a) 7 v
  refine Nat.le_antisymm l (Nat.not_lt.mp fun q => ?_)
  have := bD_chain (V := V) (c := c) (s := s) (B := B) (a := a) hc 7 v 0 hv q (fun x hx => by rw [tb_zero] at hx; cases hx)
  omega
theorem bD_fix (hc : ∀ v, 0 < c v) {u v : Nat} (hu : u < 8) (hv : v < 8) (h : tb (V u) v = true) : bD V c s B a 7 v ≤ bD V c s B a 7 u + c v := by
  rw [← bD_78 hc hv]
  exact bD_edge hu h
end BELL
/-- one edge after the other, in place -/
def rx (V c : Nat → Nat) (i : Nat) (d : Nat → Nat) : Nat → Nat := if tb (V (i / 8)) (i % 8) = true then fun x => if x = i % 8 then min (d x) (d (i / 8) + c x) else d x else d
theorem rx_le (V c : Nat → Nat) (i : Nat) (d : Nat → Nat) (x : Nat) : rx V c i d x ≤ d x := by
  unfold rx
  split
  · dsimp only
    split
    · exact Nat.min_le_left _ _
    · exact Nat.le_refl _
  · exact Nat.le_refl _
theorem rxF_le (V c : Nat → Nat) (n j : Nat) (d : Nat → Nat) (x : Nat) : fold (rx V c) (n + j) d x ≤ fold (rx V c) n d x := by
  induction j with
  | zero => exact Nat.le_refl _
  | succ j ih => exact Nat.le_trans (rx_le V c (n + j) _ x) ih
theorem rxF_edge {V c : Nat → Nat} {d : Nat → Nat} {u v : Nat} (hu : u < 8) (hv : v < 8) (h : tb (V u) v = true) : fold (rx V c) 64 d v ≤ d u + c v := by
  have e := rxF_le V c (8 * u + v + 1) (64 - (8 * u + v + 1)) d v
  rw [show 8 * u + v + 1 + (64 - (8 * u + v + 1)) = 64 by omega] at e
  refine Nat.le_trans e ?_
  show rx V c (8 * u + v) (fold (rx V c) (8 * u + v) d) v ≤ _
  have e2 := rxF_le V c 0 (8 * u + v) d u
  rw [Nat.zero_add] at e2
  have e3 : fold (rx V c) 0 d u = d u := rfl
  unfold rx
  rw [show (8 * u + v) / 8 = u by omega, show (8 * u + v) % 8 = v by omega, if_pos h]
  try dsimp only
  rw [if_pos rfl]
  unfold rx at e2
  unfold rx at e3
  omega
def itf (f : (Nat → Nat) → Nat → Nat) : Nat → (Nat → Nat) → Nat → Nat
  | 0, d => d
  | k + 1, d => f (itf f k d)
theorem itf_s (f : (Nat → Nat) → Nat → Nat) (k : Nat) (d : Nat → Nat) : itf f (k + 1) d = f (itf f k d) := rfl
theorem rx_low {V c : Nat → Nat} {E d : Nat → Nat} {n : Nat} (hf : ∀ u v, u < 8 → v < 8 → tb (V u) v = true → E v ≤ E u + c v) (hn : n ≤ 64) (h : ∀ v, v < 8 → E v ≤ d v) : ∀ v, v < 8 → E v ≤ fold (rx V c) n d v := by
  induction n with
  | zero => exact h
  | succ n ih =>
    intro v hv
    have ih := ih (by omega)
    show E v ≤ rx V c n (fold (rx V c) n d) v
    generalize fold (rx V c) n d = d2 at ih
    have i1 := ih v hv
    have i2 := ih (n / 8) (by omega)
    unfold rx
    split
    · rename_i q
      dsimp only
      split
      · rename_i e
        subst e
        have := hf (n / 8) (n % 8) (by omega) hv q
        omega
      · exact i1
    · exact i1
def bF (V c : Nat → Nat) (s B a N : Nat) : Nat → Nat := itf (fold (rx V c) 64) N fun v => if v = a then s else B
theorem bF_s (V c : Nat → Nat) (s B a N : Nat) : bF V c s B a (N + 1) = fold (rx V c) 64 (bF V c s B a N) := rfl
theorem bF_up (V c : Nat → Nat) (s B a N : Nat) : ∀ v, v < 8 → bF V c s B a N v ≤ bD V c s B a N v := by
  induction N with
  | zero => exact fun v _ => Nat.le_refl _
  | succ N ih =>
    intro v hv
    rw [bF_s]
    rcases bD_att (V := V) (c := c) (s := s) (B := B) (a := a) N v with e | ⟨u, u1, u2, u3⟩
    · rw [e]
      have e2 := rxF_le V c 0 64 (bF V c s B a N) v
      rw [Nat.zero_add] at e2
      exact Nat.le_trans e2 (ih v hv)
    · rw [u3]
      exact Nat.le_trans (rxF_edge u1 hv u2) (Nat.add_le_add_right (ih u u1) _)
theorem bF_low {V c : Nat → Nat} {s B a : Nat} (hc : ∀ v, 0 < c v) (N : Nat) : ∀ v, v < 8 → bD V c s B a 7 v ≤ bF V c s B a N v := by
  induction N with
  | zero =>
    intro v hv
    have := bD_mono (V := V) (c := c) (s := s) (B := B) (a := a) 0 7 v
    exact this
  | succ N ih =>
    rw [bF_s]
    exact rx_low (fun u v hu hv h => bD_fix hc hu hv h) (Nat.le_refl _) ih
theorem bF_7 {V c : Nat → Nat} {s B a : Nat} (hc : ∀ v, 0 < c v) {v : Nat} (hv : v < 8) : bF V c s B a 7 v = bD V c s B a 7 v := Nat.le_antisymm (bF_up V c s B a 7 v hv) (bF_low hc 7 v hv)
theorem bF_8 {V c : Nat → Nat} {s B a : Nat} (hc : ∀ v, 0 < c v) {v : Nat} (hv : v < 8) : bF V c s B a 8 v = bD V c s B a 7 v := Nat.le_antisymm (by rw [← bD_78 hc hv]; exact bF_up V c s B a 8 v hv) (bF_low hc 8 v hv)
theorem rxF_cap {V c : Nat → Nat} {B : Nat} {d : Nat → Nat} (n : Nat) (h : ∀ v, d v ≤ B) : ∀ v, fold (rx V c) n d v ≤ B := fun v => by
  have := rxF_le V c 0 n d v
  rw [Nat.zero_add] at this
  exact Nat.le_trans this (h v)
theorem bF_cap {V c : Nat → Nat} {s B a : Nat} (hs : s ≤ B) (N : Nat) : ∀ v, bF V c s B a N v ≤ B := by
  induction N with
  | zero =>
    intro v
    show (if v = a then s else B) ≤ B
    split <;> omega
  | succ N ih =>
    rw [bF_s]
    exact rxF_cap 64 ih
/-! two ways of writing glances and steps in one number -/
def cvx (x : Nat) : Nat := if x = 1000000 then 1000000000 else 1000 * (x / 16) + x % 16
def fin16 (k x : Nat) : Prop := x = 1000000 ∨ (x ≤ 128 * (k + 1) ∧ x % 16 ≤ k)
theorem cvx_min {k x y : Nat} (hk : k ≤ 8) (hx : fin16 k x) (hy : fin16 k y) : cvx (min x y) = min (cvx x) (cvx y) := by
  unfold fin16 at hx hy
  unfold cvx
  rcases hx with hx | ⟨hx, -⟩ <;> rcases hy with hy | ⟨hy, -⟩
  · subst hx
    subst hy
    rfl
  · subst hx
    rw [Nat.min_eq_right (by omega), if_pos rfl, if_neg (by omega), Nat.min_eq_right (by omega)]
  · subst hy
    rw [Nat.min_eq_left (by omega), if_pos rfl, if_neg (by omega), Nat.min_eq_left (by omega)]
  · rw [if_neg (by omega), if_neg (by omega), if_neg (by omega)]
    by_cases c : x ≤ y
    · rw [Nat.min_eq_left c, Nat.min_eq_left (by omega)]
    · rw [Nat.min_eq_right (by omega), Nat.min_eq_right (by omega)]
theorem bD_cvx {V w : Nat → Nat} {a : Nat} (hw : ∀ v, v < 8 → w v ≤ 7) (ha : a < 8) (k : Nat) (hk : k ≤ 7) : ∀ v, v < 8 → fin16 k (bD V (fun v => 16 * w v + 1) (16 * w a) 1000000 a k v) ∧ bD V (fun v => 1000 * w v + 1) (1000 * w a) 1000000000 a k v = cvx (bD V (fun v => 16 * w v + 1) (16 * w a) 1000000 a k v) := by
  induction k with
  | zero =>
    intro v hv
    have := hw a ha
    show fin16 0 (if v = a then 16 * w a else 1000000) ∧ (if v = a then 1000 * w a else 1000000000) = cvx (if v = a then 16 * w a else 1000000)
    by_cases c : v = a
    · rw [if_pos c, if_pos c]
      unfold fin16 cvx
      refine ⟨Or.inr ⟨by omega, by omega⟩, ?_⟩
      rw [if_neg (by omega)]
      omega
    · rw [if_neg c, if_neg c]
      exact ⟨Or.inl rfl, rfl⟩
  | succ k ih =>
    intro v hv
    have ih := ih (by omega)
    rw [bD_s, bD_s]
    have key : ∀ n, n ≤ 8 → fin16 (k + 1) (fold (bdG V (fun v => 16 * w v + 1) (bD V (fun v => 16 * w v + 1) (16 * w a) 1000000 a k) v) n (bD V (fun v => 16 * w v + 1) (16 * w a) 1000000 a k v)) ∧ fold (bdG V (fun v => 1000 * w v + 1) (bD V (fun v => 1000 * w v + 1) (1000 * w a) 1000000000 a k) v) n (bD V (fun v => 1000 * w v + 1) (1000 * w a) 1000000000 a k v) = cvx (fold (bdG V (fun v => 16 * w v + 1) (bD V (fun v => 16 * w v + 1) (16 * w a) 1000000 a k) v) n (bD V (fun v => 16 * w v + 1) (16 * w a) 1000000 a k v)) := by
      intro n
      induction n with
      | zero =>
        intro _
        have := ih v hv
        refine ⟨?_, this.2⟩
        have := this.1
        show fin16 (k + 1) (bD V (fun v => 16 * w v + 1) (16 * w a) 1000000 a k v)
        unfold fin16 at this ⊢
        omega
      | succ n ih2 =>
        intro hn
        obtain ⟨i1, i2⟩ := ih2 (by omega)
        obtain ⟨j1, j2⟩ := ih n (by omega)
        have e1 : ∀ (c d : Nat → Nat) b, fold (bdG V c d v) (n + 1) b = bdG V c d v n (fold (bdG V c d v) n b) := fun _ _ _ => rfl
        rw [e1, e1, i2]
        generalize fold (bdG V (fun v => 16 * w v + 1) (bD V (fun v => 16 * w v + 1) (16 * w a) 1000000 a k) v) n (bD V (fun v => 16 * w v + 1) (16 * w a) 1000000 a k v) = x at i1 ⊢
        unfold bdG
        by_cases t : tb (V n) v = true
        · rw [if_pos t, if_pos t, j2]
          generalize bD V (fun v => 16 * w v + 1) (16 * w a) 1000000 a k n = y at j1 ⊢
          have hwv := hw v hv
          by_cases q : y = 1000000
          · subst q
            have hx : x ≤ 1000000 := by
              unfold fin16 at i1
              omega
            rw [Nat.min_eq_left (by omega)]
            refine ⟨i1, Nat.min_eq_left ?_⟩
            unfold cvx
            unfold fin16 at i1
            rw [if_pos rfl]
            split
            · omega
            · omega
          · have hy : fin16 (k + 1) (y + (16 * w v + 1)) := by
              unfold fin16 at j1 ⊢
              omega
            have hy2 : cvx y + (1000 * w v + 1) = cvx (y + (16 * w v + 1)) := by
              unfold fin16 at j1
              unfold cvx
              rw [if_neg q, if_neg (by omega)]
              omega
            dsimp only
            rw [hy2, cvx_min (k := k + 1) (by omega) i1 hy]
            refine ⟨?_, rfl⟩
            by_cases z : x ≤ y + (16 * w v + 1)
            · rw [Nat.min_eq_left z]
              exact i1
            · rw [Nat.min_eq_right (by omega)]
              exact hy
        · rw [if_neg t, if_neg t]
          exact ⟨i1, rfl⟩
    exact key 8 (Nat.le_refl _)
/-! steps: the same rounds count them -/
theorem bD_steps {V : Nat → Nat} {B a : Nat} (hV : ∀ k, k < 8 → V k < 2 ^ 8) (hB : 100 ≤ B) (ha : a < 8) (k : Nat) (hk : k ≤ 20) : ∀ v, (∀ d, d ≤ k → tb (rs V top 8 d (2 ^ a)) v = true → bD V (fun _ => 1) 0 B a k v ≤ d) ∧ (bD V (fun _ => 1) 0 B a k v < B → bD V (fun _ => 1) 0 B a k v ≤ k ∧ tb (rs V top 8 (bD V (fun _ => 1) 0 B a k v) (2 ^ a)) v = true) := by
  have lp := pow_lt31 ha
  have gr := grow_rs (M := top) (m := 8) (e := 8) (W := V) (s := 2 ^ a) (by omega) hV lp
  induction k with
  | zero =>
    intro v
    have e : bD V (fun _ => 1) 0 B a 0 v = if v = a then 0 else B := rfl
    rw [e]
    by_cases c : v = a
    · rw [if_pos c]
      refine ⟨fun d hd _ => by omega, fun _ => ⟨Nat.le_refl _, ?_⟩⟩
      show tb (2 ^ a) v = true
      rw [tb_pow, c]
      simp
    · rw [if_neg c]
      refine ⟨fun d hd h => ?_, fun q => by omega⟩
      have : d = 0 := by omega
      subst this
      have h : tb (2 ^ a) v = true := h
      rw [tb_pow, decide_eq_true_eq] at h
      exact absurd h.symm c
  | succ k ih =>
    have ih := ih (by omega)
    intro v
    refine ⟨fun d hd h => ?_, fun q => ?_⟩
    · by_cases e : d ≤ k
      · exact Nat.le_trans (bD_le k v) ((ih v).1 d e h)
      · have : d = k + 1 := by omega
        subst this
        rw [rs_s, tb_or, Bool.or_eq_true] at h
        rcases h with h | h
        · have := Nat.le_trans (bD_le k v) ((ih v).1 k (Nat.le_refl _) h)
          omega
        · rw [tb_flt (nxt_lt hV), Bool.and_eq_true] at h
          obtain ⟨u, u1, u2, u3⟩ := tb_nxt.mp h.1
          have := bD_edge (V := V) (c := fun _ => 1) (s := 0) (B := B) (a := a) (k := k) u1 u3
          have := (ih u).1 k (Nat.le_refl _) u2
          omega
    · rcases bD_att (V := V) (c := fun _ => 1) (s := 0) (B := B) (a := a) k v with e | ⟨u, u1, u2, u3⟩
      · rw [e] at q ⊢
        have := (ih v).2 q
        exact ⟨by omega, this.2⟩
      · have q1 : bD V (fun _ => 1) 0 B a k u < B := by omega
        have := (ih u).2 q1
        refine ⟨by omega, ?_⟩
        rw [u3]
        exact gr.2.1 _ u v this.2 ⟨u1, u2, rfl⟩
