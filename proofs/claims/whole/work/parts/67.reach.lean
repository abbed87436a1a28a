/-! GRAPHS OF AT MOST EIGHT: steps, closures -/
def nxtG (W : Nat → Nat) (s i a : Nat) : Nat := if tb s i = true then a ||| W i else a
def nxt (W : Nat → Nat) (s m : Nat) : Nat := fold (nxtG W s) m 0
theorem nxt_s (W : Nat → Nat) (s m : Nat) : nxt W s (m + 1) = nxtG W s m (nxt W s m) := rfl
theorem tb_nxt {W : Nat → Nat} {s m v : Nat} : tb (nxt W s m) v = true ↔ ∃ i, i < m ∧ tb s i = true ∧ tb (W i) v = true := by
  induction m with
  | zero =>
    constructor
    · intro h
      have : tb 0 v = true := h
      rw [tb_zero] at this
      cases this
    · rintro ⟨i, hi, -⟩
      omega
  | succ m ih =>
    rw [nxt_s]
    unfold nxtG
    constructor
    · intro h
      by_cases c : tb s m = true
      · rw [if_pos c, tb_or, Bool.or_eq_true] at h
        rcases h with h | h
        · obtain ⟨i, h1, h2, h3⟩ := ih.mp h
          exact ⟨i, by omega, h2, h3⟩
        · exact ⟨m, by omega, c, h⟩
      · rw [if_neg c] at h
        obtain ⟨i, h1, h2, h3⟩ := ih.mp h
        exact ⟨i, by omega, h2, h3⟩
    · rintro ⟨i, h1, h2, h3⟩
      by_cases d : i = m
      · subst d
        rw [if_pos h2, tb_or, h3, Bool.or_true]
      · have := ih.mpr ⟨i, by omega, h2, h3⟩
        split
        · rw [tb_or, this, Bool.true_or]
        · exact this
theorem nxt_lt {W : Nat → Nat} {s m e : Nat} (h : ∀ i, i < m → W i < 2 ^ e) : nxt W s m < 2 ^ e := by
  induction m with
  | zero => exact Nat.two_pow_pos e
  | succ m ih =>
    rw [nxt_s]
    unfold nxtG
    split
    · exact Nat.or_lt_two_pow (ih fun i hi => h i (by omega)) (h m (by omega))
    · exact ih fun i hi => h i (by omega)
theorem tb_bit {v m : Nat} {x : Nat} (hx : x < 2 ^ m) (h : tb x v = true) : v < m := by
  refine Classical.byContradiction fun q => ?_
  rw [tb_lt hx (by omega)] at h
  cases h
/-- what a mask lets through -/
def flt (M : Nat → Bool) (x : Nat) : Nat := fold (mk fun v => tb x v && M v) 8 0
theorem tb_flt {M : Nat → Bool} {x v : Nat} (hx : x < 2 ^ 8) : tb (flt M x) v = (tb x v && M v) := by
  unfold flt
  rw [tb_mk, tb_zero]
  by_cases c : v < 8
  · simp [c]
  · simp [tb_lt hx (show 8 ≤ v by omega)]
theorem mk_lt8 (g : Nat → Bool) {n m : Nat} (hn : n ≤ 8) (hm : m < 2 ^ 8) : fold (mk g) n m < 2 ^ 8 := by
  induction n with
  | zero => exact hm
  | succ n ih =>
    show mk g n (fold (mk g) n m) < _
    unfold mk
    split
    · exact Nat.or_lt_two_pow (ih (by omega)) (Nat.pow_lt_pow_right (by decide) (by omega))
    · exact ih (by omega)
theorem flt_lt (M : Nat → Bool) (x : Nat) : flt M x < 2 ^ 8 := mk_lt8 _ (Nat.le_refl 8) (by decide)
def MaskIs (a : Int32) (M : Nat → Bool) : Prop := ∀ x, x < 2 ^ 8 → nI x &&& a = nI (flt M x)
def top (_ : Nat) : Bool := true
theorem flt_top {x : Nat} (hx : x < 2 ^ 8) : flt top x = x := tb_ext fun v => by
  rw [tb_flt hx]
  show (tb x v && true) = _
  rw [Bool.and_true]
theorem and_m1 (x : Int32) : x &&& -1 = x := Int32.and_neg_one
theorem mask_m1 : MaskIs (-1) top := fun x hx => by rw [and_m1, flt_top hx]
theorem mask_nI {y : Nat} (hy : y < 2 ^ 8) : MaskIs (nI y) (tb y) := fun x hx => by
  rw [nI_and (by omega) (by omega)]
  congr 1
  exact tb_ext fun v => by rw [tb_and, tb_flt hx]
theorem mask_255 : MaskIs (nI 255) top := fun x hx => by
  rw [nI_and (by omega) (by omega), flt_top hx]
  congr 1
  refine tb_ext fun v => ?_
  rw [tb_and, show (255 : Nat) = 2 ^ 8 - 1 from rfl, tb_ones]
  by_cases c : v < 8
  · simp [c]
  · simp [tb_lt hx (show 8 ≤ v by omega)]
theorem mask_wo {y : Nat} (hy : y < 2 ^ 31) : MaskIs (nI y ^^^ (-1)) (fun v => !tb y v) := fun x hx => by
  rw [nI_wo (by omega) hy]
  congr 1
  exact tb_ext fun v => by rw [tb_wo, tb_flt hx]
/-- round after round -/
def rs (W : Nat → Nat) (M : Nat → Bool) (m : Nat) : Nat → Nat → Nat
  | 0, s => s
  | k + 1, s => rs W M m k s ||| flt M (nxt W (rs W M m k s) m)
theorem rs_s (W : Nat → Nat) (M : Nat → Bool) (m k s : Nat) : rs W M m (k + 1) s = rs W M m k s ||| flt M (nxt W (rs W M m k s) m) := rfl
theorem rs_lt {W : Nat → Nat} {M : Nat → Bool} {m s : Nat} (hs : s < 2 ^ 8) (k : Nat) : rs W M m k s < 2 ^ 8 := by
  induction k with
  | zero => exact hs
  | succ k ih => exact Nat.or_lt_two_pow ih (flt_lt _ _)
theorem flt_ltm {M : Nat → Bool} {x m : Nat} (hm : m ≤ 8) (hx : x < 2 ^ m) : flt M x < 2 ^ m := by
  apply Nat.lt_pow_two_of_testBit
  intro i hi
  rw [← tb_t, tb_flt (Nat.lt_of_lt_of_le hx (Nat.pow_le_pow_right (by decide) hm)), tb_lt hx hi]
  rfl
theorem rs_ltm {W : Nat → Nat} {M : Nat → Bool} {m e s : Nat} (he : e ≤ 8) (hW : ∀ i, i < m → W i < 2 ^ e) (hs : s < 2 ^ e) (k : Nat) : rs W M m k s < 2 ^ e := by
  induction k with
  | zero => exact hs
  | succ k ih => exact Nat.or_lt_two_pow ih (flt_ltm he (nxt_lt hW))
theorem X2_next {h : HP} {a m s : Nat} {W : Nat → Nat} (hs : SHF[a]? = some (1, m)) (hm : m ≤ 8) (hr : ∀ k, k < m → h.1 a k = nI (W k)) (hW : ∀ k, k < m → W k < 2 ^ 8) (h2 : s < 2 ^ 31) : f_X2_next a (nI s) h = some (nI (nxt W s m), h) := by
  unfold f_X2_next
  refine lp_pure (s := fun i => (nI (nxt W s i), nI i)) m (nf_lt (by omega)) (fun i hi k => ?_) (fun k => ?_)
  · have l := nxt_lt (W := W) (s := s) (m := i) (e := 8) fun j hj => hW j (by omega)
    have lw := hW i hi
    dsimp only
    rw [e_bnd (e_len hs), ifa, if_neg (nI_ge hi (by omega)), e_bnd (X6_holds h2 (by omega)), tb_if, nI_1, nxt_s]
    unfold nxtG
    by_cases c : tb s i = true
    · rw [if_pos c, if_pos c, e_bnd (e_aI hs hi (by omega)), hr i hi, nI_or (by omega) (by omega)]
    · rw [if_neg c, if_neg c]
  · dsimp only
    rw [e_bnd (e_len hs), ifa, if_pos (nI_le (Nat.le_refl _) (by omega))]
    rfl
theorem X2_reach {h : HP} {a m s : Nat} {z : Int32} {W : Nat → Nat} {M : Nat → Bool} (hs : SHF[a]? = some (1, m)) (hm : m ≤ 8) (hr : ∀ k, k < m → h.1 a k = nI (W k)) (hW : ∀ k, k < m → W k < 2 ^ 8) (hM : MaskIs z M) (h2 : s < 2 ^ 8) : f_X2_reach a (nI s) z h = some (nI (rs W M m m s), h) := by
  unfold f_X2_reach
  refine lp_pure (s := fun i => (nI (rs W M m i s), nI i)) m (nf_lt (by omega)) (fun i hi k => ?_) (fun k => ?_)
  · have l := rs_lt (W := W) (M := M) (m := m) h2 i
    have l2 := nxt_lt (W := W) (s := rs W M m i s) (m := m) (e := 8) hW
    have l3 := flt_lt M (nxt W (rs W M m i s) m)
    dsimp only
    rw [e_bnd (e_len hs), ifa, if_neg (nI_ge hi (by omega)), e_bnd (X2_next hs hm hr hW (by omega)), hM _ l2, nI_or (by omega) (by omega), nI_1, rs_s]
  · dsimp only
    rw [e_bnd (e_len hs), ifa, if_pos (nI_le (Nat.le_refl _) (by omega))]
    rfl
/-- closures are stable soon and unique -/
theorem pop_sub {x y m : Nat} (h : ∀ v, tb x v = true → tb y v = true) : pop x m ≤ pop y m := by
  induction m with
  | zero => exact Nat.le_refl 0
  | succ m ih =>
    unfold pop
    by_cases c : tb x m = true
    · rw [if_pos c, if_pos (h m c)]
      omega
    · rw [if_neg c]
      omega
theorem pop_sub_lt {x y m v : Nat} (h : ∀ v, tb x v = true → tb y v = true) (hv : v < m) (h1 : tb x v = false) (h2 : tb y v = true) : pop x m < pop y m := by
  induction m with
  | zero => omega
  | succ m ih =>
    unfold pop
    by_cases e : v = m
    · subst e
      rw [h1, h2, if_neg (by decide), if_pos rfl]
      have := pop_sub (m := v) h
      omega
    · have := ih (by omega)
      by_cases c : tb x m = true
      · rw [if_pos c, if_pos (h m c)]
        omega
      · rw [if_neg c]
        omega
def Clo (E : Nat → Nat → Prop) (D : Nat) : Prop := ∀ u v, tb D u = true → E u v → tb D v = true
def Sub (x y : Nat) : Prop := ∀ v, tb x v = true → tb y v = true
def Grow (m : Nat) (c : Nat → Nat) (E : Nat → Nat → Prop) : Prop := (∀ k, Sub (c k) (c (k + 1))) ∧ (∀ k u v, tb (c k) u = true → E u v → tb (c (k + 1)) v = true) ∧ (∀ D, Sub (c 0) D → Clo E D → ∀ k, Sub (c k) D) ∧ (∀ k, c k < 2 ^ m) ∧ ∀ u v, E u v → v < m
theorem Sub.rf (x : Nat) : Sub x x := fun _ h => h
theorem Sub.tr {x y z : Nat} (a : Sub x y) (b : Sub y z) : Sub x z := fun v h => b v (a v h)
theorem Sub.eq {x y : Nat} (a : Sub x y) (b : Sub y x) : x = y := tb_ext fun k => by
  cases e : tb x k
  · cases f : tb y k
    · rfl
    · rw [b k f] at e
      cases e
  · exact (a k e).symm
theorem Grow.mono {m : Nat} {c : Nat → Nat} {E : Nat → Nat → Prop} (g : Grow m c E) (k d : Nat) : Sub (c k) (c (k + d)) := by
  induction d with
  | zero => exact Sub.rf _
  | succ d ih => exact ih.tr (g.1 (k + d))
theorem Grow.clo {m N : Nat} {c : Nat → Nat} {E : Nat → Nat → Prop} (g : Grow m c E) (hN : m ≤ N + pop (c 0) m) : Clo E (c N) := by
  have P : ∀ j, (∃ k, k < j ∧ c (k + 1) = c k) ∨ j + pop (c 0) m ≤ pop (c j) m := by
    intro j
    induction j with
    | zero => exact Or.inr (by omega)
    | succ j ih =>
      rcases ih with ⟨k, h1, h2⟩ | h
      · exact Or.inl ⟨k, by omega, h2⟩
      · by_cases e : c (j + 1) = c j
        · exact Or.inl ⟨j, by omega, e⟩
        · refine Or.inr ?_
          have : ∃ v, tb (c j) v = false ∧ tb (c (j + 1)) v = true := Classical.byContradiction fun q => e (Sub.eq (fun v hv => by
            cases z : tb (c j) v
            · exact absurd ⟨v, z, hv⟩ q
            · rfl) (g.1 j))
          obtain ⟨v, h1, h2⟩ := this
          have := pop_sub_lt (m := m) (g.1 j) (tb_bit (g.2.2.2.1 (j + 1)) h2) h1 h2
          omega
  rcases P N with ⟨k, h1, h2⟩ | h
  · have ck : Clo E (c k) := fun u v hu he => by
      have := g.2.1 k u v hu he
      rw [h2] at this
      exact this
    have e : c N = c k := Sub.eq (g.2.2.1 (c k) (by have := g.mono 0 k; rwa [Nat.zero_add] at this) ck N) (by have := g.mono k (N - k); rwa [show k + (N - k) = N by omega] at this)
    rw [e]
    exact ck
  · have hp := pop_le (c N) m
    have := pop_all (s := c N) (m := m) (by omega)
    exact fun u v _ he => this v (g.2.2.2.2 u v he)
theorem Grow.uniq {m m' N N' : Nat} {c c' : Nat → Nat} {E : Nat → Nat → Prop} (g : Grow m c E) (g' : Grow m' c' E) (e : c 0 = c' 0) (h : Clo E (c N)) (h' : Clo E (c' N')) : c N = c' N' := by
  refine Sub.eq (g.2.2.1 _ ?_ h' N) (g'.2.2.1 _ ?_ h N')
  · rw [e]
    have := g'.mono 0 N'
    rwa [Nat.zero_add] at this
  · rw [← e]
    have := g.mono 0 N
    rwa [Nat.zero_add] at this
/-- the edges of a masked graph -/
def Ed (W : Nat → Nat) (M : Nat → Bool) (m u v : Nat) : Prop := u < m ∧ tb (W u) v = true ∧ M v = true
theorem grow_rs {W : Nat → Nat} {M : Nat → Bool} {m e s : Nat} (he : e ≤ 8) (hW : ∀ i, i < m → W i < 2 ^ e) (hs : s < 2 ^ e) : Grow e (fun k => rs W M m k s) (Ed W M m) := by
  have h8 : ∀ k, nxt W (rs W M m k s) m < 2 ^ 8 := fun k => nxt_lt fun i hi => Nat.lt_of_lt_of_le (hW i hi) (Nat.pow_le_pow_right (by decide) he)
  refine ⟨fun k v h => ?_, fun k u v h1 h2 => ?_, fun D h1 h2 k => ?_, rs_ltm he hW hs, fun u v h => tb_bit (hW u h.1) h.2.1⟩
  · dsimp only
    rw [rs_s, tb_or, h, Bool.true_or]
  · dsimp only
    rw [rs_s, tb_or, tb_flt (h8 k), tb_nxt.mpr ⟨u, h2.1, h1, h2.2.1⟩, h2.2.2, Bool.and_self, Bool.or_true]
  · induction k with
    | zero => exact h1
    | succ k ih =>
      intro v hv
      dsimp only at hv
      rw [rs_s, tb_or, tb_flt (h8 k), Bool.or_eq_true, Bool.and_eq_true] at hv
      rcases hv with hv | ⟨a, b⟩
      · exact ih v hv
      · obtain ⟨i, i1, i2, i3⟩ := tb_nxt.mp a
        exact h2 i v (ih i i2) ⟨i1, i3, b⟩
/-- rounds that let in at once whom they find -/
def itr (f : Nat → Nat) : Nat → Nat → Nat
  | 0, s => s
  | k + 1, s => f (itr f k s)
theorem itr_s (f : Nat → Nat) (k s : Nat) : itr f (k + 1) s = f (itr f k s) := rfl
theorem fold_sub {g : Nat → Nat → Nat} {N a : Nat} (h : ∀ i a, Sub a (g i a)) (j : Nat) : Sub (fold g N a) (fold g (N + j) a) := by
  induction j with
  | zero => exact Sub.rf _
  | succ j ih => exact ih.tr (h (N + j) _)
theorem grow_ip {g : Nat → Nat → Nat} {E : Nat → Nat → Prop} {m N s : Nat} (ha : ∀ i a, Sub a (g i a)) (hb : ∀ i a D, i < N → Clo E D → Sub a D → Sub (g i a) D) (hc : ∀ u v, E u v → ∃ i, i < N ∧ ∀ a, tb a u = true → tb (g i a) v = true) (hd : ∀ i a, i < N → a < 2 ^ m → g i a < 2 ^ m) (hs : s < 2 ^ m) (he : ∀ u v, E u v → v < m) : Grow m (fun k => itr (fold g N) k s) E := by
  have up : ∀ a i, Sub a (fold g i a) := fun a i => by
    have := fold_sub (g := g) (N := 0) (a := a) ha i
    rw [Nat.zero_add] at this
    exact this
  refine ⟨fun k => up _ N, fun k u v h1 h2 => ?_, fun D h1 h2 k => ?_, fun k => ?_, he⟩
  · obtain ⟨i, hi, H⟩ := hc u v h2
    dsimp only
    rw [itr_s]
    have h3 : tb (fold g (i + 1) (itr (fold g N) k s)) v = true := H _ (up _ i u h1)
    have := fold_sub (N := i + 1) (a := itr (fold g N) k s) ha (N - (i + 1)) v h3
    rwa [show i + 1 + (N - (i + 1)) = N by omega] at this
  · induction k with
    | zero => exact h1
    | succ k ih =>
      dsimp only
      rw [itr_s]
      have : ∀ j, j ≤ N → Sub (fold g j (itr (fold g N) k s)) D := by
        intro j
        induction j with
        | zero => exact fun _ => ih
        | succ j ih2 => exact fun hj => hb j _ D (by omega) h2 (ih2 (by omega))
      exact this N (Nat.le_refl _)
  · induction k with
    | zero => exact hs
    | succ k ih =>
      dsimp only
      rw [itr_s]
      have : ∀ j, j ≤ N → fold g j (itr (fold g N) k s) < 2 ^ m := by
        intro j
        induction j with
        | zero => exact fun _ => ih
        | succ j ih2 => exact fun hj => hd j _ (by omega) (ih2 (by omega))
      exact this N (Nat.le_refl _)
theorem pop_bit {a m : Nat} (h : a < m) : pop (2 ^ a) m = 1 := by rw [pop_one, if_pos h]
