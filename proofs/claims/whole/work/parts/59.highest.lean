/-! HIGHEST: the best over sets is the best over single people, for a mean lies between its words -/
def bo : Option Nat → Int32
  | none => -9
  | some m => nI m
def mg (w : Int32) (v : Nat) : Option Nat → Option Nat
  | none => some v
  | some m => some (if w = 0 then max m v else min m v)
def bsG (g : Nat → Bool) (f : Nat → Nat) (w : Int32) (i : Nat) (b : Option Nat) : Option Nat := if g i = true then mg w (f i) b else b
theorem bs_spec (g : Nat → Bool) (f : Nat → Nat) (w : Int32) (N : Nat) : (fold (bsG g f w) N none = none ∧ ∀ i, i < N → g i = false) ∨ ∃ m, fold (bsG g f w) N none = some m ∧ (∃ i, i < N ∧ g i = true ∧ f i = m) ∧ ∀ i, i < N → g i = true → if w = 0 then f i ≤ m else m ≤ f i := by
  induction N with
  | zero => exact Or.inl ⟨rfl, fun i hi => by omega⟩
  | succ N ih =>
    have e : fold (bsG g f w) (N + 1) none = bsG g f w N (fold (bsG g f w) N none) := rfl
    rw [e]
    unfold bsG
    by_cases c : g N = true
    · rw [if_pos c]
      rcases ih with ⟨h1, h2⟩ | ⟨m, h1, ⟨i, hi, gi, fi⟩, h3⟩
      · refine Or.inr ⟨f N, by unfold bsG at h1; rw [h1]; rfl, ⟨N, by omega, c, rfl⟩, fun i hi gi => ?_⟩
        by_cases d : i = N
        · subst d
          split <;> exact Nat.le_refl _
        · rw [h2 i (by omega)] at gi
          cases gi
      · unfold bsG at h1
        rw [h1]
        refine Or.inr ⟨_, rfl, ?_, fun i hi gi => ?_⟩
        · by_cases w0 : w = 0
          · rw [if_pos w0]
            by_cases d : m ≤ f N
            · exact ⟨N, by omega, c, by omega⟩
            · exact ⟨i, by omega, gi, by omega⟩
          · rw [if_neg w0]
            by_cases d : f N ≤ m
            · exact ⟨N, by omega, c, by omega⟩
            · exact ⟨i, by omega, gi, by omega⟩
        · by_cases d : i = N
          · subst d
            by_cases w0 : w = 0
            · rw [if_pos w0, if_pos w0]; omega
            · rw [if_neg w0, if_neg w0]; omega
          · have := h3 i (by omega) gi
            by_cases w0 : w = 0
            · rw [if_pos w0] at this ⊢; rw [if_pos w0]; omega
            · rw [if_neg w0] at this ⊢; rw [if_neg w0]; omega
    · rw [if_neg c]
      rcases ih with ⟨h1, h2⟩ | ⟨m, h1, ⟨i, hi, gi, fi⟩, h3⟩
      · refine Or.inl ⟨by unfold bsG at h1; exact h1, fun i hi => ?_⟩
        by_cases d : i = N
        · subst d
          simpa using c
        · exact h2 i (by omega)
      · refine Or.inr ⟨m, by unfold bsG at h1; exact h1, ⟨i, by omega, gi, fi⟩, fun i hi gi => ?_⟩
        by_cases d : i = N
        · subst d
          exact absurd gi c
        · exact h3 i (by omega) gi
theorem sm_up {A : AV} {set v M : Nat} {q : Nat} (h : ∀ k, k < q → tb set k = true → wd A k v ≤ M) : sm A set v q ≤ M * pop set q := by
  induction q with
  | zero => exact Nat.le_refl 0
  | succ q ih =>
    have i1 := ih fun k hk => h k (by omega)
    unfold sm pop
    by_cases c : tb set q = true
    · have := h q (by omega) c
      rw [if_pos c, if_pos c, Nat.mul_add]
      omega
    · rw [if_neg c, if_neg c]
      omega
theorem sm_lo {A : AV} {set v M : Nat} {q : Nat} (h : ∀ k, k < q → tb set k = true → M ≤ wd A k v) : M * pop set q ≤ sm A set v q := by
  induction q with
  | zero => exact Nat.le_refl 0
  | succ q ih =>
    have i1 := ih fun k hk => h k (by omega)
    unfold sm pop
    by_cases c : tb set q = true
    · have := h q (by omega) c
      rw [if_pos c, if_pos c, Nat.mul_add]
      omega
    · rw [if_neg c, if_neg c]
      omega
theorem mn_low {A : AV} {set v : Nat} (hs : set < 2 ^ A.2.1) (h0 : ¬ set = 0) : ∃ k, k < A.2.1 ∧ tb set k = true ∧ wd A k v ≤ mn A set v := by
  have hp := pop_pos hs h0
  refine Classical.byContradiction fun H => ?_
  have := sm_lo (A := A) (set := set) (v := v) (M := mn A set v + 1) (q := A.2.1) fun k hk ht => Nat.succ_le_of_lt (Nat.not_le.mp fun q => H ⟨k, hk, ht, q⟩)
  have h2 := (Nat.le_div_iff_mul_le (show 0 < pop set A.2.1 by omega)).mpr this
  unfold mn at h2
  omega
theorem mn_high {A : AV} {set v : Nat} (hs : set < 2 ^ A.2.1) (h0 : ¬ set = 0) : ∃ k, k < A.2.1 ∧ tb set k = true ∧ mn A set v ≤ wd A k v := by
  have hp := pop_pos hs h0
  refine Classical.byContradiction fun H => ?_
  by_cases z : mn A set v = 0
  · obtain ⟨k, hk, ht⟩ := tb_ne hs h0
    exact H ⟨k, hk, ht, by omega⟩
  · have := sm_up (A := A) (set := set) (v := v) (M := mn A set v - 1) (q := A.2.1) fun k hk ht => by
      have := Nat.not_le.mp fun q => H ⟨k, hk, ht, q⟩
      omega
    have h2 : sm A set v A.2.1 / pop set A.2.1 ≤ mn A set v - 1 := by
      have := Nat.div_le_div_right (c := pop set A.2.1) this
      rwa [Nat.mul_div_cancel _ (by omega)] at this
    have h3 : mn A set v = sm A set v A.2.1 / pop set A.2.1 := rfl
    omega
theorem pop_one {i q : Nat} : pop (2 ^ i) q = if i < q then 1 else 0 := by
  induction q with
  | zero => rfl
  | succ q ih =>
    unfold pop
    rw [ih, tb_pow]
    by_cases c : i = q
    · subst c
      simp
    · by_cases d : i < q
      · simp [c, d, show i < q + 1 by omega]
      · simp [c, d, show ¬ i < q + 1 by omega]
theorem sm_one {A : AV} {i q v : Nat} : sm A (2 ^ i) v q = if i < q then wd A i v else 0 := by
  induction q with
  | zero => rfl
  | succ q ih =>
    unfold sm
    rw [ih, tb_pow]
    by_cases c : i = q
    · subst c
      simp
    · by_cases d : i < q
      · simp [c, d, show i < q + 1 by omega]
      · simp [c, d, show ¬ i < q + 1 by omega]
theorem mn_one {A : AV} {i v : Nat} (hi : i < A.2.1) : mn A (2 ^ i) v = wd A i v := by
  unfold mn
  rw [sm_one, pop_one, if_pos hi, if_pos hi, Nat.div_one]
theorem tb_ot (n p k : Nat) : tb (ot n p) k = (decide (k < n) && !decide (p = k)) := by
  unfold ot
  rw [tb_wo, tb_ones, tb_pow]
theorem iso_one {n p i : Nat} (hi : i < n) (h : ¬ i = p) : iso n p (2 ^ i) = true := by
  have := Nat.two_pow_pos i
  unfold iso
  rw [Bool.and_eq_true, decide_eq_true_eq, decide_eq_true_eq]
  refine ⟨by omega, wo_zero.mpr fun k hk => ?_⟩
  rw [tb_pow] at hk
  have : i = k := of_decide_eq_true hk
  subst this
  rw [tb_ot]
  simp [hi, show ¬ p = i from fun q => h q.symm]
theorem iso_in {n p set k : Nat} (h : iso n p set = true) (hk : tb set k = true) : k < n ∧ ¬ k = p := by
  unfold iso at h
  rw [Bool.and_eq_true, decide_eq_true_eq, decide_eq_true_eq] at h
  have := wo_zero.mp h.2 k hk
  rw [tb_ot] at this
  simp at this
  exact ⟨this.1, fun q => this.2 q.symm⟩
def hiB (A : AV) (p : Nat) (w : Int32) (i : Nat) : Option Nat := fold (bsG (fun i => decide (¬ i = p)) (fun i => wd A i (A.1 2 p)) w) i none
def hiC (A : AV) (p : Nat) (w : Int32) (i : Nat) : Option Nat := fold (bsG (fun i => iso A.2.1 p (i + 1)) (fun i => mn A (i + 1) (A.1 2 p)) w) i none
theorem hi_eq {A : AV} {p : Nat} {w : Int32} : hiC A p w (2 ^ A.2.1 - 1) = hiB A p w A.2.1 := by
  have hpos := Nat.two_pow_pos A.2.1
  rcases bs_spec (fun i => iso A.2.1 p (i + 1)) (fun i => mn A (i + 1) (A.1 2 p)) w (2 ^ A.2.1 - 1) with ⟨c1, c2⟩ | ⟨m, c1, ⟨j, j1, j2, j3⟩, c3⟩
  · rcases bs_spec (fun i => decide (¬ i = p)) (fun i => wd A i (A.1 2 p)) w A.2.1 with ⟨d1, d2⟩ | ⟨m', d1, ⟨i, i1, i2, i3⟩, d3⟩
    · exact c1.trans d1.symm
    · have hl := pow_lt31 i1
      have := Nat.two_pow_pos i
      have := c2 (2 ^ i - 1) (by omega)
      rw [show 2 ^ i - 1 + 1 = 2 ^ i by omega, iso_one i1 (of_decide_eq_true i2)] at this
      cases this
  · have hj := iso_lt j2
    rcases bs_spec (fun i => decide (¬ i = p)) (fun i => wd A i (A.1 2 p)) w A.2.1 with ⟨d1, d2⟩ | ⟨m', d1, ⟨i, i1, i2, i3⟩, d3⟩
    · obtain ⟨k, hk, ht⟩ := tb_ne hj.1 hj.2
      have := d2 k hk
      have := (iso_in j2 ht).2
      simp_all
    · refine c1.trans (Eq.trans ?_ d1.symm)
      have hl := pow_lt31 i1
      have := Nat.two_pow_pos i
      have q1 := c3 (2 ^ i - 1) (by omega) (by rw [show 2 ^ i - 1 + 1 = 2 ^ i by omega]; exact iso_one i1 (of_decide_eq_true i2))
      rw [show 2 ^ i - 1 + 1 = 2 ^ i by omega, mn_one i1] at q1
      try dsimp only at i3
      obtain ⟨k1, a1, a2, a3⟩ := mn_low (v := A.1 2 p) hj.1 hj.2
      obtain ⟨k2, b1, b2, b3⟩ := mn_high (v := A.1 2 p) hj.1 hj.2
      have r1 := d3 k1 a1 (decide_eq_true (iso_in j2 a2).2)
      have r2 := d3 k2 b1 (decide_eq_true (iso_in j2 b2).2)
      congr 1
      by_cases w0 : w = 0
      · rw [if_pos w0] at q1 r1 r2
        omega
      · rw [if_neg w0] at q1 r1 r2
        omega
def hiS (A : AV) (p : Nat) (w : Int32) : Int32 := bo (hiB A p w A.2.1)
def lo99 (b : Option Nat) : Prop := ∀ m, b = some m → m ≤ 99
theorem bs99 {g : Nat → Bool} {f : Nat → Nat} {w : Int32} {N : Nat} (h : ∀ i, i < N → g i = true → f i ≤ 99) : lo99 (fold (bsG g f w) N none) := by
  intro m e
  rcases bs_spec g f w N with ⟨c1, -⟩ | ⟨m', c1, ⟨j, j1, j2, j3⟩, -⟩
  · rw [c1] at e
    cases e
  · rw [c1] at e
    cases e
    rw [← j3]
    exact h j j1 j2
theorem m9_eq {x : Nat} (hx : x < 2 ^ 31) : ¬ nI x = -9 := by
  intro q
  have e1 := nI_toInt hx
  rw [q] at e1
  have : (-9 : Int32).toInt = -9 := rfl
  omega
/-- the choice that both programs make -/
theorem mg0 {w : Int32} {v m : Nat} (h : w = 0) : mg w v (some m) = some (max m v) := congrArg some (if_pos h)
theorem mg1 {w : Int32} {v m : Nat} (h : ¬ w = 0) : mg w v (some m) = some (min m v) := congrArg some (if_neg h)
theorem mg_step {h : HP} {w : Int32} {v i : Nat} {b : Option Nat} {z : Option (Int32 × HP)} {k : Int32 × Int32 → M Int32} (hb : lo99 b) (hv : v ≤ 99) (H : k (bo (mg w v b), nI (i + 1)) h = z) : ((b = none → k (nI v, nI (i + 1)) h = z) ∧ ∀ m, b = some m → (if ¬ w = 0 then if nI m ≤ nI v then k (nI m, nI (i + 1)) h else k (nI v, nI (i + 1)) h else if nI v ≤ nI m then k (nI m, nI (i + 1)) h else k (nI v, nI (i + 1)) h) = z) := by
  refine ⟨fun e => by subst e; exact H, fun m e => ?_⟩
  subst e
  have := hb m rfl
  by_cases w0 : w = 0
  · rw [if_neg (fun q => q w0)]
    rw [mg0 w0] at H
    by_cases c : v ≤ m
    · rw [if_pos ((nI_leI (by omega) (by omega)).mpr c)]
      rw [Nat.max_eq_left c] at H
      exact H
    · rw [if_neg (fun q => c ((nI_leI (by omega) (by omega)).mp q))]
      rw [Nat.max_eq_right (by omega)] at H
      exact H
  · rw [if_pos w0]
    rw [mg1 w0] at H
    by_cases c : m ≤ v
    · rw [if_pos ((nI_leI (by omega) (by omega)).mpr c)]
      rw [Nat.min_eq_left c] at H
      exact H
    · rw [if_neg (fun q => c ((nI_leI (by omega) (by omega)).mp q))]
      rw [Nat.min_eq_right (by omega)] at H
      exact H
theorem QX_highest {h : HP} {A : AV} {x w : Int32} (R : RefOk h.2) (F : FolkIs h 2 A) (G : GoodA A) : wp (f_X6_highest 0 x w) h (OutX h (fs (np A.2.1 x) (nc 2 w)) (hiS A (ix x) w)) := by
  unfold f_X6_highest
  refine wp_call (noP R F.1.1) (wp_call (X6_noChoice (m := 2)) (wp_call X6_first (gX R (fs_no np_no nc_no) fun e => ?_)))
  have hn := G.1.1
  obtain ⟨p, hp, rfl⟩ := np_ix (fs_z e).1 (by omega)
  rw [ix_nI (by omega)]
  have p7 : p < 7 := by omega
  have B := FB.of R (b := 2) (by decide)
  have l2 := (G.2 p p7).2.2.1
  refine ⟨_, h, ?_, rfl, Same.rfl'⟩
  refine lp_pure (s := fun i => (bo (hiB A p w i), nI i)) A.2.1 (nf_lt (by omega)) (fun i hi k => ?_) (fun k => ?_)
  · have es : hiB A p w (i + 1) = bsG (fun i => decide (¬ i = p)) (fun i => wd A i (A.1 2 p)) w i (hiB A p w i) := rfl
    have l9 : lo99 (hiB A p w i) := bs99 fun j hj _ => wd_le G (by omega) l2
    rw [es]
    generalize hiB A p w i = b at l9 ⊢
    dsimp only
    have se : nI i + 1 = nI (i + 1) := nI_1 _
    rw [x_gr0 R, bI B, F.1.1, ifa, if_neg (nI_ge hi (by omega)), ifa, se]
    unfold bsG
    by_cases c : i = p
    · subst c
      rw [if_neg (fun q => q rfl), if_neg (by simp)]
    · have wl := wd_le G (p := i) (v := A.1 2 p) (by omega) l2
      rw [if_pos (fun q => c ((nI_eq (by omega) (by omega)).mp q)), if_pos (decide_eq_true c), x_gr0 R, x_gr0 R, bR5 B, bA3 B p7, F.2.2.2.1 p p7, bC B, e_bnd (X0_word B F G (by omega) l2), ifa]
      have st := mg_step (h := h) (w := w) (i := i) (k := k) l9 wl rfl
      cases b with
      | none => rw [if_pos (show bo none = -9 from rfl)]; exact st.1 rfl
      | some m =>
        rw [show bo (some m) = nI m from rfl, if_neg (m9_eq (by have := l9 m rfl; omega))]
        simp only [ifa]
        exact st.2 m rfl
  · dsimp only
    rw [x_gr0 R, bI B, F.1.1, ifa, if_pos (nI_le (Nat.le_refl _) (by omega))]
    rfl
theorem QY_highest {h : HP} {A : AV} {x w : Int32} (R : RefOk h.2) (F : ModIs h A) (G : GoodA A) : wp (f_X7_highest 110 x w) h (OutY h (fs (np A.2.1 x) (nc 2 w)) (hiS A (ix x) w)) := by
  unfold f_X7_highest
  refine gu_pi (m := 1) F.1.1 (by decide) (gY R (fs_no np_no nc_no) fun e => ?_)
  have hn := G.1.1
  obtain ⟨p, hp, rfl⟩ := np_ix (fs_z e).1 (by omega)
  rw [ix_nI (by omega)]
  have p7 : p < 7 := by omega
  have h7 := pow_le7 hn
  have h0 := Nat.two_pow_pos A.2.1
  refine ⟨_, h, ?_, rfl, LvY.rf⟩
  unfold hiS
  rw [← hi_eq]
  refine lp_pure (s := fun i => (bo (hiC A p w i), nI (i + 1))) (2 ^ A.2.1 - 1) (nf_lt (by omega)) (fun i hi k => ?_) (fun k => ?_)
  · have es : hiC A p w (i + 1) = bsG (fun i => iso A.2.1 p (i + 1)) (fun i => mn A (i + 1) (A.1 2 p)) w i (hiC A p w i) := rfl
    have l9 : lo99 (hiC A p w i) := bs99 fun j hj _ => mn_le G p7 (by omega) (by omega)
    rw [es]
    generalize hiC A p w i = b at l9 ⊢
    dsimp only
    have hs7 : i + 1 < 2 ^ A.2.1 := by omega
    have se : nI (i + 1) + 1 = nI (i + 1 + 1) := nI_1 _
    have l2 := mn_le G p7 hs7 (by omega)
    rw [c110, e_bnd (X7_all F.1.1 hn), ifa, if_neg (show ¬ nI (2 ^ A.2.1 - 1) < nI (i + 1) from fun q => absurd ((nI_ltI (by omega) (by omega)).mp q) (by omega)), c110, e_bnd (X7_isOf F.1.1 hn (by omega) (by omega)), tb_ifn, se]
    unfold bsG
    rw [ifa]
    by_cases z : ¬ iso A.2.1 p (i + 1) = true
    · rw [if_neg z, if_neg z]
    · have z := Classical.not_not.mp z
      rw [if_pos z, if_pos z, c110, e_bnd (X7_mean R F G p7 hs7), ifa]
      unfold bw
      rw [if_neg (show ¬ i + 1 = 0 by omega)]
      have st := mg_step (h := h) (w := w) (i := i + 1) (k := k) l9 l2 rfl
      cases b with
      | none => rw [if_pos (show bo none < 0 by decide)]; exact st.1 rfl
      | some m =>
        rw [show bo (some m) = nI m from rfl, if_neg (nI_pos (by have := l9 m rfl; omega))]
        simp only [ifa]
        exact st.2 m rfl
  · dsimp only
    rw [c110, e_bnd (X7_all F.1.1 hn), ifa, if_pos (show nI (2 ^ A.2.1 - 1) < nI (2 ^ A.2.1 - 1 + 1) from (nI_ltI (by omega) (by omega)).mpr (by omega))]
    rfl
