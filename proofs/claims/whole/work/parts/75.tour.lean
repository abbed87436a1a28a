/-! TOUR: walks, what they have seen, and that they need not be long -/
def Tw (V : Nat → Nat) (u : Nat) : Nat → Nat → Nat → Prop
  | 0, s, p => s = 2 ^ u ∧ p = u
  | k + 1, s, p => ∃ s' q, Tw V u k s' q ∧ tb (V q) p = true ∧ s = s' ||| 2 ^ p
theorem Tw_s {V : Nat → Nat} {u k s p : Nat} : Tw V u (k + 1) s p ↔ ∃ s' q, Tw V u k s' q ∧ tb (V q) p = true ∧ s = s' ||| 2 ^ p := Iff.rfl
theorem Tw_end {V : Nat → Nat} {u k s p : Nat} (h : Tw V u k s p) : tb s p = true := by
  cases k with
  | zero =>
    obtain ⟨rfl, rfl⟩ := h
    rw [tb_pow]
    simp
  | succ k =>
    obtain ⟨s', q, -, -, rfl⟩ := Tw_s.mp h
    rw [tb_or, tb_pow]
    simp
theorem Tw_start {V : Nat → Nat} {u k s p : Nat} (h : Tw V u k s p) : tb s u = true := by
  induction k generalizing s p with
  | zero =>
    obtain ⟨rfl, rfl⟩ := h
    rw [tb_pow]
    simp
  | succ k ih =>
    obtain ⟨s', q, h1, -, rfl⟩ := Tw_s.mp h
    rw [tb_or, ih h1, Bool.true_or]
theorem Tw_lt {V : Nat → Nat} {u k s p : Nat} (hV : ∀ k, k < 8 → V k < 2 ^ 8) (hu : u < 8) (h : Tw V u k s p) : s < 2 ^ 8 ∧ p < 8 := by
  induction k generalizing s p with
  | zero =>
    obtain ⟨rfl, rfl⟩ := h
    exact ⟨pow_lt31 hu, hu⟩
  | succ k ih =>
    obtain ⟨s', q, h1, h2, rfl⟩ := Tw_s.mp h
    obtain ⟨i1, i2⟩ := ih h1
    have := tb_bit (hV q i2) h2
    exact ⟨or_lt i1 this, this⟩
theorem Tw_cat {V : Nat → Nat} {u m j k s r p : Nat} (h1 : Tw V u j s m) (h2 : Tw V m k r p) : Tw V u (j + k) (s ||| r) p := by
  induction k generalizing r p with
  | zero =>
    obtain ⟨rfl, rfl⟩ := h2
    have : s ||| 2 ^ p = s := tb_ext fun v => by
      rw [tb_or, tb_pow]
      by_cases c : p = v
      · subst c
        rw [Tw_end h1]
        rfl
      · simp [c]
    rw [this]
    exact h1
  | succ k ih =>
    obtain ⟨r', q, a, b, rfl⟩ := Tw_s.mp h2
    exact Tw_s.mpr ⟨_, q, ih a, b, by rw [Nat.or_assoc]⟩
theorem Tw_cut {V : Nat → Nat} {u k s p m : Nat} (h : Tw V u k s p) (hm : tb s m = true) : ∃ j1 j2 s1 s2, Tw V u j1 s1 m ∧ Tw V m j2 s2 p ∧ j1 + j2 = k ∧ s = s1 ||| s2 := by
  induction k generalizing s p with
  | zero =>
    obtain ⟨rfl, rfl⟩ := h
    rw [tb_pow] at hm
    have : p = m := of_decide_eq_true hm
    subst this
    exact ⟨0, 0, _, _, ⟨rfl, rfl⟩, ⟨rfl, rfl⟩, rfl, (Nat.or_self _).symm⟩
  | succ k ih =>
    have h0 := h
    obtain ⟨s', q, a, b, rfl⟩ := Tw_s.mp h
    cases z : tb s' m
    · rw [tb_or, z, tb_pow, Bool.false_or] at hm
      have : p = m := of_decide_eq_true hm
      subst this
      refine ⟨k + 1, 0, _, 2 ^ p, h0, ⟨rfl, rfl⟩, rfl, ?_⟩
      rw [Nat.or_assoc, Nat.or_self]
    · obtain ⟨j1, j2, s1, s2, c1, c2, c3, c4⟩ := ih a z
      refine ⟨j1, j2 + 1, s1, s2 ||| 2 ^ p, c1, Tw_s.mpr ⟨s2, q, c2, b, rfl⟩, by omega, ?_⟩
      rw [c4, Nat.or_assoc]
/-- who has seen s can see it on a round of two steps for each new place -/
theorem Tw_round {V : Nat → Nat} {u k s p : Nat} (hV : ∀ k, k < 8 → V k < 2 ^ 8) (sy : ∀ x y, x < 8 → y < 8 → tb (V x) y = true → tb (V y) x = true) (hu : u < 8) (h : Tw V u k s p) : ∃ j, j + 2 = 2 * pop s 8 ∧ Tw V u j s u := by
  induction k generalizing s p with
  | zero =>
    obtain ⟨rfl, rfl⟩ := h
    exact ⟨0, by rw [pop_one, if_pos hu], ⟨rfl, rfl⟩⟩
  | succ k ih =>
    obtain ⟨s', q, a, b, rfl⟩ := Tw_s.mp h
    obtain ⟨j, j1, j2⟩ := ih a
    have lq := (Tw_lt hV hu a).2
    have lp := tb_bit (hV q lq) b
    cases z : tb s' p
    · obtain ⟨k1, k2, s1, s2, c1, c2, c3, c4⟩ := Tw_cut j2 (Tw_end a)
      have d1 : Tw V q 1 (2 ^ q ||| 2 ^ p) p := Tw_s.mpr ⟨_, q, ⟨rfl, rfl⟩, b, rfl⟩
      have d2 : Tw V p 1 (2 ^ p ||| 2 ^ q) q := Tw_s.mpr ⟨_, p, ⟨rfl, rfl⟩, sy q p lq lp b, rfl⟩
      have e := Tw_cat (Tw_cat (Tw_cat c1 d1) d2) c2
      have t1 := Tw_end c1
      refine ⟨k1 + 1 + 1 + k2, ?_, ?_⟩
      · rw [pop_or z, if_pos lp]
        omega
      · have es : s1 ||| (2 ^ q ||| 2 ^ p) ||| (2 ^ p ||| 2 ^ q) ||| s2 = s' ||| 2 ^ p := tb_ext fun v => by
          rw [c4]
          simp only [tb_or, tb_pow]
          by_cases x1 : q = v
          · subst x1
            rw [t1]
            simp
          · by_cases x2 : p = v
            · simp [x2]
            · simp [x1, x2]
        rw [← es]
        exact e
    · have es : s' ||| 2 ^ p = s' := tb_ext fun v => by
        rw [tb_or, tb_pow]
        by_cases c : p = v
        · subst c
          rw [z]
          rfl
        · simp [c]
      rw [es]
      exact ⟨j, j1, j2⟩
theorem Tw_14 {V : Nat → Nat} {u k s p : Nat} (hV : ∀ k, k < 8 → V k < 2 ^ 8) (sy : ∀ x y, x < 8 → y < 8 → tb (V x) y = true → tb (V y) x = true) (hu : u < 8) (h : Tw V u k s p) : ∃ j, j ≤ 14 ∧ Tw V u j s u := by
  obtain ⟨j, j1, j2⟩ := Tw_round hV sy hu h
  have := pop_le s 8
  exact ⟨j, by omega, j2⟩
theorem Tw_28 {V : Nat → Nat} {u k s p : Nat} (hV : ∀ k, k < 8 → V k < 2 ^ 8) (sy : ∀ x y, x < 8 → y < 8 → tb (V x) y = true → tb (V y) x = true) (hu : u < 8) (h : Tw V u k s p) : ∃ j, j ≤ 28 ∧ Tw V u j s p := by
  obtain ⟨j, j1, j2⟩ := Tw_14 hV sy hu h
  obtain ⟨k1, k2, s1, s2, c1, c2, c3, c4⟩ := Tw_cut j2 (Tw_end h)
  refine ⟨j + k1, by omega, ?_⟩
  have e := Tw_cat j2 c1
  have es : s ||| s1 = s := by
    rw [c4]
    exact tb_ext fun v => by
      simp only [tb_or]
      cases tb s1 v <;> cases tb s2 v <;> rfl
  rw [es] at e
  exact e
/-! the class's rows: after k steps, where one may stand who has seen s -/
def smG (V g : Nat → Nat) (s v : Nat) (m : Nat → Nat) : Nat → Nat := if tb (nxt V (g s) 8) v = true then fun y => if y = s ||| 2 ^ v then m y ||| 2 ^ v else m y else m
def smv (V g : Nat → Nat) (s n : Nat) (m : Nat → Nat) : Nat → Nat := fold (smG V g s) n m
theorem smv_s (V g : Nat → Nat) (s n : Nat) (m : Nat → Nat) : smv V g s (n + 1) m = smG V g s n (smv V g s n m) := rfl
theorem tb_smv {V g : Nat → Nat} {s n : Nat} {m : Nat → Nat} {y w : Nat} : tb (smv V g s n m y) w = true ↔ tb (m y) w = true ∨ (w < n ∧ tb (nxt V (g s) 8) w = true ∧ y = s ||| 2 ^ w) := by
  induction n with
  | zero => exact ⟨fun h => Or.inl h, fun h => by rcases h with h | h; exact h; omega⟩
  | succ n ih =>
    rw [smv_s]
    unfold smG
    by_cases c : tb (nxt V (g s) 8) n = true
    · rw [if_pos c]
      try dsimp only
      by_cases d : y = s ||| 2 ^ n
      · rw [if_pos d, tb_or, tb_pow, Bool.or_eq_true, ih, decide_eq_true_eq]
        constructor
        · rintro ((h | h) | h)
          · exact Or.inl h
          · exact Or.inr ⟨by omega, h.2⟩
          · subst h
            exact Or.inr ⟨by omega, c, d⟩
        · rintro (h | h)
          · exact Or.inl (Or.inl h)
          · by_cases e : n = w
            · exact Or.inr e
            · exact Or.inl (Or.inr ⟨by omega, h.2⟩)
      · rw [if_neg d, ih]
        constructor
        · rintro (h | h)
          · exact Or.inl h
          · exact Or.inr ⟨by omega, h.2⟩
        · rintro (h | h)
          · exact Or.inl h
          · by_cases e : n = w
            · subst e
              exact absurd h.2.2 d
            · exact Or.inr ⟨by omega, h.2⟩
    · rw [if_neg c, ih]
      constructor
      · rintro (h | h)
        · exact Or.inl h
        · exact Or.inr ⟨by omega, h.2⟩
      · rintro (h | h)
        · exact Or.inl h
        · by_cases e : n = w
          · subst e
            exact absurd h.2.1 c
          · exact Or.inr ⟨by omega, h.2⟩
def smF (V g : Nat → Nat) (i : Nat) : Nat → Nat := fold (fun s m => smv V g s 8 m) i fun _ => 0
theorem smF_s (V g : Nat → Nat) (i : Nat) : smF V g (i + 1) = smv V g i 8 (smF V g i) := rfl
theorem tb_smF {V g : Nat → Nat} {i y w : Nat} : tb (smF V g i y) w = true ↔ ∃ s, s < i ∧ w < 8 ∧ tb (nxt V (g s) 8) w = true ∧ y = s ||| 2 ^ w := by
  induction i with
  | zero =>
    show tb 0 w = true ↔ _
    rw [tb_zero]
    exact ⟨fun h => (by cases h), fun ⟨s, h, _⟩ => by omega⟩
  | succ i ih =>
    rw [smF_s, tb_smv, ih]
    constructor
    · rintro (⟨s, h1, h2⟩ | ⟨h1, h2, h3⟩)
      · exact ⟨s, by omega, h2⟩
      · exact ⟨i, by omega, h1, h2, h3⟩
    · rintro ⟨s, h1, h2⟩
      by_cases e : s = i
      · subst e
        exact Or.inr h2
      · exact Or.inl ⟨s, by omega, h2⟩
def stK (V : Nat → Nat) (a : Nat) : Nat → Nat → Nat
  | 0 => fun s => if s = 2 ^ a then 2 ^ a else 0
  | k + 1 => smF V (stK V a k) 256
theorem stK_s (V : Nat → Nat) (a k : Nat) : stK V a (k + 1) = smF V (stK V a k) 256 := rfl
theorem tb_stK {V : Nat → Nat} {a : Nat} (hV : ∀ k, k < 8 → V k < 2 ^ 8) (ha : a < 8) (k s p : Nat) : tb (stK V a k s) p = true ↔ Tw V a k s p := by
  induction k generalizing s p with
  | zero =>
    show tb (if s = 2 ^ a then 2 ^ a else 0) p = true ↔ s = 2 ^ a ∧ p = a
    by_cases c : s = 2 ^ a
    · rw [if_pos c, tb_pow, decide_eq_true_eq]
      exact ⟨fun h => ⟨c, h.symm⟩, fun h => h.2.symm⟩
    · rw [if_neg c, tb_zero]
      exact ⟨fun h => (by cases h), fun h => absurd h.1 c⟩
  | succ k ih =>
    rw [stK_s, tb_smF, Tw_s]
    constructor
    · rintro ⟨s', h1, h2, h3, h4⟩
      obtain ⟨q, q1, q2, q3⟩ := tb_nxt.mp h3
      exact ⟨s', q, (ih s' q).mp q2, q3, h4⟩
    · rintro ⟨s', q, h1, h2, h3⟩
      obtain ⟨l1, l2⟩ := Tw_lt hV ha h1
      exact ⟨s', l1, tb_bit (hV q l2) h2, tb_nxt.mpr ⟨q, l2, (ih s' q).mpr h1, h2⟩, h3⟩
theorem stK_lt {V : Nat → Nat} {a : Nat} (hV : ∀ k, k < 8 → V k < 2 ^ 8) (ha : a < 8) (k s : Nat) : stK V a k s < 2 ^ 8 := by
  apply Nat.lt_pow_two_of_testBit
  intro i hi
  rw [← tb_t]
  cases z : tb (stK V a k s) i
  · rfl
  · have := (Tw_lt hV ha ((tb_stK hV ha k s i).mp z)).2
    omega
def seP (V : Nat → Nat) (a t k s : Nat) : Bool := !decide (stK V a k s = 0) && decide (wo t s = 0)
def se (V : Nat → Nat) (a t k : Nat) : Bool := (fnd (fun s => seP V a t k s = true) 256 0).isSome
theorem se_iff {V : Nat → Nat} {a : Nat} (hV : ∀ k, k < 8 → V k < 2 ^ 8) (ha : a < 8) (t k : Nat) : se V a t k = true ↔ ∃ s p, Tw V a k s p ∧ wo t s = 0 := by
  unfold se
  constructor
  · intro h
    cases e : fnd (fun s => seP V a t k s = true) 256 0 with
    | none =>
      rw [e] at h
      cases h
    | some m =>
      have := (fnd_some e).2.1
      unfold seP at this
      rw [Bool.and_eq_true, decide_eq_true_eq] at this
      have nz : ¬ stK V a k m = 0 := by simpa using this.1
      obtain ⟨p, p1, p2⟩ := tb_ne (stK_lt hV ha k m) nz
      exact ⟨m, p, (tb_stK hV ha k m p).mp p2, this.2⟩
  · rintro ⟨s, p, h1, h2⟩
    have l := (Tw_lt hV ha h1).1
    have t1 := (tb_stK hV ha k s p).mpr h1
    have nz : ¬ stK V a k s = 0 := fun q => by
      rw [q, tb_zero] at t1
      cases t1
    cases e : fnd (fun s => seP V a t k s = true) 256 0 with
    | none => exact absurd (show seP V a t k s = true by unfold seP; simp [nz, h2]) (fnd_none e s (by omega) (by omega))
    | some m => rfl
def trS (V : Nat → Nat) (a t : Nat) : Int32 := match fnd (fun k => se V a t k = true) 15 0 with
  | none => -9
  | some k => nI k
