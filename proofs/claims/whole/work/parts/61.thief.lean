/-! THE TOLD ROW; WHO FITS IT; THIEF -/
def RowX (h : HP) (L : Nat × (Nat → Nat)) : Prop := h.1 0 8 = nI L.1 ∧ ∀ k, k < 12 → h.1 104 k = nI (L.2 k)
def RowY (h : HP) (L : Nat × (Nat → Nat)) : Prop := h.1 110 25 = nI L.1 ∧ ∀ k, k < 12 → h.1 126 k = nI (L.2 k)
def GoodL (L : Nat × (Nat → Nat)) : Prop := L.1 ≤ 12 ∧ ∀ k, k < 12 → L.2 k ≤ 99
def fiP (A : AV) (L : Nat × (Nat → Nat)) (v k : Nat) : Bool := decide (L.2 k = 99) || decide (wd A k v = L.2 k)
def fi (A : AV) (L : Nat × (Nat → Nat)) (v : Nat) : Bool := (fnd (fun k => fiP A L v k = false) L.1 0).isNone
theorem X6_fitsRow {h : HP} {A : AV} {L : Nat × (Nat → Nat)} {v : Nat} (R : RefOk h.2) (F : FolkIs h 2 A) (G : GoodA A) (T : RowX h L) (GL : GoodL L) (hL : L.1 ≤ A.2.1) (hv : v ≤ 99) : f_X6_fitsRow 0 (nI v) h = some (if fi A L v = true then 1 else 0, h) := by
  have hn := G.1.1
  have B := FB.of R (b := 2) (by decide)
  unfold f_X6_fitsRow
  refine lp_first (fun k => fiP A L v k = false) 0 L.1 (by omega) (fun i _ hi c k => ?_) (fun i _ hi c e k => ?_) (fun e k => ?_)
  · have hw := wd_le G (p := i) (v := v) (by omega) hv
    have hl := GL.2 i (by omega)
    rw [g0_8, T.1, ifa, if_neg (nI_ge (show i < L.1 by omega) (by omega)), g0_7 R, a104 (show i < 12 by omega), T.2 i (by omega), ifa, nI_1]
    unfold fiP at c
    by_cases d : L.2 i = 99
    · rw [if_pos (show nI (L.2 i) = 99 by rw [d]; rfl)]
    · rw [if_neg (show ¬ nI (L.2 i) = 99 from fun q => d ((nI_eq (b := 99) (by omega) (by omega)).mp q)), x_gr0 R, bC B, e_bnd (X0_word B F G (by omega) hv), g0_7 R, a104 (show i < 12 by omega), T.2 i (by omega), ifa]
      by_cases w : wd A i v = L.2 i
      · rw [if_pos (by rw [w])]
      · simp [d, w] at c
  · have hw := wd_le G (p := i) (v := v) (by omega) hv
    have hl := GL.2 i (by omega)
    unfold fiP at c
    rw [Bool.or_eq_false_iff, decide_eq_false_iff_not, decide_eq_false_iff_not] at c
    rw [g0_8, T.1, ifa, if_neg (nI_ge (show i < L.1 by omega) (by omega)), g0_7 R, a104 (show i < 12 by omega), T.2 i (by omega), ifa, if_neg (show ¬ nI (L.2 i) = 99 from fun q => c.1 ((nI_eq (b := 99) (by omega) (by omega)).mp q)), x_gr0 R, bC B, e_bnd (X0_word B F G (by omega) hv), g0_7 R, a104 (show i < 12 by omega), T.2 i (by omega), ifa, if_neg (fun q => c.2 ((nI_eq (by omega) (by omega)).mp q))]
    unfold fi
    rw [e]
    rfl
  · rw [Nat.zero_add, g0_8, T.1, ifa, if_pos (nI_le (Nat.le_refl _) (by omega))]
    unfold fi
    rw [e]
    rfl
theorem X7_fits {h : HP} {A : AV} {L : Nat × (Nat → Nat)} {v : Nat} (R : RefOk h.2) (F : ModIs h A) (G : GoodA A) (T : RowY h L) (GL : GoodL L) (hL : L.1 ≤ A.2.1) (hv : v ≤ 99) : f_X7_fits 110 (nI v) h = some (if fi A L v = true then 1 else 0, h) := by
  have hn := G.1.1
  unfold f_X7_fits
  refine lp_first (fun k => fiP A L v k = false) 0 L.1 (by omega) (fun i _ hi c k => ?_) (fun i _ hi c e k => ?_) (fun e k => ?_)
  · have hw := wd_le G (p := i) (v := v) (by omega) hv
    have hl := GL.2 i (by omega)
    rw [g110_25, T.1, ifa, if_neg (nI_ge (show i < L.1 by omega) (by omega)), g110_24 R, a126 (show i < 12 by omega), T.2 i (by omega), ifa, nI_1]
    unfold fiP at c
    by_cases d : L.2 i = 99
    · rw [if_pos (show nI (L.2 i) = 99 by rw [d]; rfl)]
    · rw [if_neg (show ¬ nI (L.2 i) = 99 from fun q => d ((nI_eq (b := 99) (by omega) (by omega)).mp q)), c110, e_bnd (X7_said R F G (by omega) hv), g110_24 R, a126 (show i < 12 by omega), T.2 i (by omega), ifa]
      by_cases w : wd A i v = L.2 i
      · rw [if_pos (by rw [w])]
      · simp [d, w] at c
  · have hw := wd_le G (p := i) (v := v) (by omega) hv
    have hl := GL.2 i (by omega)
    unfold fiP at c
    rw [Bool.or_eq_false_iff, decide_eq_false_iff_not, decide_eq_false_iff_not] at c
    rw [g110_25, T.1, ifa, if_neg (nI_ge (show i < L.1 by omega) (by omega)), g110_24 R, a126 (show i < 12 by omega), T.2 i (by omega), ifa, if_neg (show ¬ nI (L.2 i) = 99 from fun q => c.1 ((nI_eq (b := 99) (by omega) (by omega)).mp q)), c110, e_bnd (X7_said R F G (by omega) hv), g110_24 R, a126 (show i < 12 by omega), T.2 i (by omega), ifa, if_neg (fun q => c.2 ((nI_eq (by omega) (by omega)).mp q))]
    unfold fi
    rw [e]
    rfl
  · rw [Nat.zero_add, g110_25, T.1, ifa, if_pos (nI_le (Nat.le_refl _) (by omega))]
    unfold fi
    rw [e]
    rfl
def rl (A : AV) (L : Nat × (Nat → Nat)) : Int32 := if L.1 ≤ A.2.1 then 0 else -3
theorem rl_no {A : AV} {L : Nat × (Nat → Nat)} : rl A L = 0 ∨ IsNo (rl A L) := by
  unfold rl
  split
  · exact Or.inl rfl
  · exact Or.inr (Or.inr (Or.inr (Or.inl rfl)))
theorem rl_z {A : AV} {L : Nat × (Nat → Nat)} (e : rl A L = 0) : L.1 ≤ A.2.1 := by
  unfold rl at e
  by_cases c : L.1 ≤ A.2.1
  · exact c
  · rw [if_neg c] at e
    exact absurd e (by decide)
theorem X6_rowTooLong {h : HP} {A : AV} {L : Nat × (Nat → Nat)} (R : RefOk h.2) (F : FolkIs h 2 A) (G : GoodA A) (T : RowX h L) (GL : GoodL L) : cv 5 0 (f_X6_rowTooLong 0) h = some (rl A L, h) := by
  have hn := G.1.1
  have hl := GL.1
  have B := FB.of R (b := 2) (by decide)
  show f_X6_rowTooLong 0 h = _
  unfold f_X6_rowTooLong rl
  rw [g0_8, T.1, x_gr0 R, bI B, F.1.1, ifa]
  by_cases c : L.1 ≤ A.2.1
  · rw [if_pos (nI_le c (by omega)), if_pos c]
    rfl
  · rw [if_neg (fun q => c ((nI_leI (by omega) (by omega)).mp q)), if_neg c]
    rfl
/-- sets: one bit after the other -/
def mk (g : Nat → Bool) (k m : Nat) : Nat := if g k = true then m ||| 2 ^ k else m
theorem tb_mk (g : Nat → Bool) (n m j : Nat) : tb (fold (mk g) n m) j = (tb m j || (decide (j < n) && g j)) := by
  induction n with
  | zero =>
    show tb m j = _
    simp
  | succ n ih =>
    show tb (mk g n (fold (mk g) n m)) j = _
    unfold mk
    by_cases c : g n = true
    · rw [if_pos c, tb_or, tb_pow]
      unfold mk at ih
      rw [ih]
      by_cases d : n = j
      · subst d
        simp [c]
      · have : (j < n + 1) = (j < n) := by rw [eq_iff_iff]; omega
        simp [d, this]
    · rw [if_neg c]
      unfold mk at ih
      rw [ih]
      by_cases d : n = j
      · subst d
        simp [c]
      · have : (j < n + 1) = (j < n) := by rw [eq_iff_iff]; omega
        simp [this]
theorem mk_lt (g : Nat → Bool) {n m : Nat} (hn : n ≤ 7) (hm : m < 2 ^ 7) : fold (mk g) n m < 2 ^ 7 := by
  induction n with
  | zero => exact hm
  | succ n ih =>
    show mk g n (fold (mk g) n m) < _
    unfold mk
    split
    · exact Nat.or_lt_two_pow (ih (by omega)) (Nat.pow_lt_pow_right (by decide) (by omega))
    · exact ih (by omega)
def suM (A : AV) (L : Nat × (Nat → Nat)) : Nat := fold (mk fun k => fi A L (A.1 2 k)) A.2.1 0
theorem X6_suspects {h : HP} {A : AV} {L : Nat × (Nat → Nat)} (R : RefOk h.2) (F : FolkIs h 2 A) (G : GoodA A) (T : RowX h L) (GL : GoodL L) (hL : L.1 ≤ A.2.1) : f_X6_suspects 0 h = some (nI (suM A L), h) := by
  have hn := G.1.1
  have B := FB.of R (b := 2) (by decide)
  unfold f_X6_suspects
  refine lp_pure (s := fun i => (nI (fold (mk fun k => fi A L (A.1 2 k)) i 0), nI i)) A.2.1 (nf_lt (by omega)) (fun i hi k => ?_) (fun k => ?_)
  · have lm := mk_lt (fun k => fi A L (A.1 2 k)) (n := i) (m := 0) (by omega) (by decide)
    have es : fold (mk fun k => fi A L (A.1 2 k)) (i + 1) 0 = mk (fun k => fi A L (A.1 2 k)) i (fold (mk fun k => fi A L (A.1 2 k)) i 0) := rfl
    rw [es]
    generalize fold (mk fun k => fi A L (A.1 2 k)) i 0 = m at lm ⊢
    dsimp only
    have i7 : i < 7 := by omega
    have lp := pow_lt31 i7
    rw [x_gr0 R, bI B, F.1.1, ifa, if_neg (nI_ge hi (by omega)), x_gr0 R, bR5 B, bA3 B i7, F.2.2.2.1 i i7, show bnd (cv 5 0 (f_X6_fitsRow 0 (nI (A.1 2 i)))) _ h = _ from e_bnd (X6_fitsRow R F G T GL hL (G.2 i i7).2.2.1), ifa, one_if, nI_1, nI_shl1 (by omega), nI_or (by omega) (by omega)]
    unfold mk
    split <;> rfl
  · dsimp only
    rw [x_gr0 R, bI B, F.1.1, ifa, if_pos (nI_le (Nat.le_refl _) (by omega))]
    rfl
def thG (A : AV) (L : Nat × (Nat → Nat)) (i : Nat) (s : Int32 × Int32) : Int32 × Int32 := if fi A L (99 - i) = true then (s.1 + 1, nI (99 - i)) else s
def thS (A : AV) (L : Nat × (Nat → Nat)) (w : Int32) : Int32 := if w = 2 then nI (suM A L) else if w = 0 then (fold (thG A L) 100 (0, -9)).1 else (fold (thG A L) 100 (0, -9)).2
theorem QX_thief {h : HP} {A : AV} {L : Nat × (Nat → Nat)} {w : Int32} (R : RefOk h.2) (F : FolkIs h 2 A) (G : GoodA A) (T : RowX h L) (GL : GoodL L) : wp (f_X6_thief 0 w) h (OutX h (fs (nc 3 w) (rl A L)) (thS A L w)) := by
  unfold f_X6_thief
  refine wp_call (X6_noChoice (m := 3)) (wp_call (X6_rowTooLong R F G T GL) (wp_call X6_first (gX R (fs_no nc_no rl_no) fun e => ?_)))
  have hL := rl_z (fs_z e).2
  unfold thS
  by_cases c : w = 2
  · rw [if_neg (fun q => q c), if_pos c]
    exact wp_call (show cv 5 0 (f_X6_suspects 0) h = _ from X6_suspects R F G T GL hL) (wp_rt ⟨rfl, Same.rfl'⟩)
  · rw [if_pos c, if_neg c]
    refine ⟨_, h, ?_, rfl, Same.rfl'⟩
    refine lp_pure (s := fun i => ((fold (thG A L) i (0, -9)).1, (fold (thG A L) i (0, -9)).2, dn i)) 100 (nf_lt (by omega)) (fun i hi k => ?_) (fun k => ?_)
    · have es : fold (thG A L) (i + 1) (0, -9) = thG A L i (fold (thG A L) i (0, -9)) := rfl
      rw [es]
      generalize fold (thG A L) i (0, -9) = b
      dsimp only
      rw [← dn_s i hi, dn_at hi, ifa, if_neg (nI_pos (by omega)), show bnd (cv 5 0 (f_X6_fitsRow 0 (nI (99 - i)))) _ h = _ from e_bnd (X6_fitsRow R F G T GL hL (by omega)), ifa, one_if]
      unfold thG
      split <;> rfl
    · dsimp only
      rw [ifa, if_pos (show dn 100 < 0 by decide), ifa]
      by_cases z : w = 0
      · rw [if_neg (fun q => q z), if_pos z]
        rfl
      · rw [if_pos z, if_neg z]
        rfl
/-- the reference gathers the looks one number after the other -/
def thM (A : AV) (L : Nat × (Nat → Nat)) (i m : Nat) : Nat := if fi A L (99 - i) = true then fold (mk fun k => decide (A.1 2 k = 99 - i)) A.2.1 m else m
theorem tb_thM {A : AV} {L : Nat × (Nat → Nat)} (G : GoodA A) (i j : Nat) (hi : i ≤ 100) : tb (fold (thM A L) i 0) j = (decide (j < A.2.1) && (decide (99 < A.1 2 j + i) && fi A L (A.1 2 j))) := by
  have hn := G.1.1
  induction i with
  | zero =>
    show tb 0 j = _
    rw [tb_zero]
    by_cases c : j < A.2.1
    · have := (G.2 j (by omega)).2.2.1
      have : ¬ 99 < A.1 2 j := by omega
      simp [this]
    · simp [c]
  | succ i ih =>
    have ih := ih (by omega)
    show tb (thM A L i (fold (thM A L) i 0)) j = _
    unfold thM
    by_cases c : j < A.2.1
    · have g := (G.2 j (by omega)).2.2.1
      by_cases f : fi A L (99 - i) = true
      · rw [if_pos f, tb_mk]
        unfold thM at ih
        rw [ih]
        by_cases d : A.1 2 j = 99 - i
        · have h1 : 99 < A.1 2 j + (i + 1) := by omega
          rw [d] at h1
          simp [c, d, f, h1]
        · have h1 : (99 < A.1 2 j + (i + 1)) = (99 < A.1 2 j + i) := by rw [eq_iff_iff]; omega
          simp [c, d, h1]
      · rw [if_neg f]
        unfold thM at ih
        rw [ih]
        by_cases d : A.1 2 j = 99 - i
        · simp at f
          simp [d, f]
        · have h1 : (99 < A.1 2 j + (i + 1)) = (99 < A.1 2 j + i) := by rw [eq_iff_iff]; omega
          simp [h1]
    · split
      · rw [tb_mk]
        unfold thM at ih
        rw [ih]
        simp [c]
      · unfold thM at ih
        rw [ih]
        simp [c]
theorem th_eq {A : AV} {L : Nat × (Nat → Nat)} (G : GoodA A) : fold (thM A L) 100 0 = suM A L := by
  refine tb_ext fun j => ?_
  unfold suM
  rw [tb_thM G 100 j (Nat.le_refl _), tb_mk, tb_zero]
  have : 99 < A.1 2 j + 100 := by omega
  simp [this]
theorem thM_lt {A : AV} {L : Nat × (Nat → Nat)} (G : GoodA A) {i : Nat} : fold (thM A L) i 0 < 2 ^ 7 := by
  have hn := G.1.1
  induction i with
  | zero => exact Nat.two_pow_pos 7
  | succ i ih =>
    show thM A L i (fold (thM A L) i 0) < _
    unfold thM
    split
    · exact mk_lt _ hn ih
    · exact ih
theorem QY_thief {h : HP} {A : AV} {L : Nat × (Nat → Nat)} {w : Int32} (R : RefOk h.2) (F : ModIs h A) (G : GoodA A) (T : RowY h L) (GL : GoodL L) : wp (f_X7_thief 110 w) h (OutY h (fs (nc 3 w) (rl A L)) (thS A L w)) := by
  have hn := G.1.1
  have hl := GL.1
  unfold f_X7_thief
  refine wp_call (X7_isIn (m := 2) (by decide)) ?_
  have H2 : ∀ K : Int32 → M Int32, wp (K (fs (nc 3 w) (rl A L))) h (OutY h (fs (nc 3 w) (rl A L)) (thS A L w)) → wp (jn (fun k4 => if ¬ (if pn (2 + 1) w = true then (1 : Int32) else 0) = (0 : Int32) then bnd (gI 6 25 110) fun t17 => bnd (gI 6 8 110) fun t18 => if t17 ≤ t18 then k4 (0 : Int32) else k4 (-3 : Int32) else k4 (-2 : Int32)) K) h (OutY h (fs (nc 3 w) (rl A L)) (thS A L w)) := fun K H => by
    unfold jn
    dsimp only
    rw [tb_ifn]
    unfold fs nc rl at H ⊢
    cases z : pn 3 w
    · simp only [z, Bool.false_eq_true, if_false] at H ⊢
      exact H
    · simp only [z, if_true] at H ⊢
      refine wp_eq g110_25 (wp_eq g110_8 ?_)
      rw [T.1, F.1.1]
      by_cases c : L.1 ≤ A.2.1
      · rw [if_pos (nI_le c (by omega))]
        simp only [c, if_true] at H ⊢
        exact H
      · rw [if_neg (fun q => c ((nI_leI (by omega) (by omega)).mp q))]
        simp only [c, if_false] at H ⊢
        exact H
  refine H2 _ (gY R (fs_no nc_no rl_no) fun e => ?_)
  have hL := rl_z (fs_z e).2
  refine ⟨_, h, ?_, rfl, LvY.rf⟩
  refine lp_pure (s := fun i => ((fold (thG A L) i (0, -9)).1, (fold (thG A L) i (0, -9)).2, nI (fold (thM A L) i 0), dn i)) 100 (nf_lt (by omega)) (fun i hi k => ?_) (fun k => ?_)
  · have es : fold (thG A L) (i + 1) (0, -9) = thG A L i (fold (thG A L) i (0, -9)) := rfl
    have em : fold (thM A L) (i + 1) 0 = thM A L i (fold (thM A L) i 0) := rfl
    have lm := thM_lt (L := L) (i := i) G
    rw [es, em]
    generalize fold (thG A L) i (0, -9) = b
    generalize fold (thM A L) i 0 = m at lm ⊢
    dsimp only
    rw [← dn_s i hi, dn_at hi, ifa, if_neg (nI_pos (by omega)), c110, e_bnd (X7_fits R F G T GL hL (by omega)), ifa, tb_ifn]
    unfold thG thM
    cases z : fi A L (99 - i)
    · simp only [Bool.false_eq_true, if_false]
    · simp only [if_true]
      refine lp_pure (s := fun j => (nI (fold (mk fun k => decide (A.1 2 k = 99 - i)) j m), nI j)) A.2.1 (nf_lt (by omega)) (fun j hj k2 => ?_) (fun k2 => ?_)
      · have lm2 := mk_lt (fun k => decide (A.1 2 k = 99 - i)) (n := j) (m := m) (by omega) lm
        have es2 : fold (mk fun k => decide (A.1 2 k = 99 - i)) (j + 1) m = mk (fun k => decide (A.1 2 k = 99 - i)) j (fold (mk fun k => decide (A.1 2 k = 99 - i)) j m) := rfl
        rw [es2]
        generalize fold (mk fun k => decide (A.1 2 k = 99 - i)) j m = m2 at lm2 ⊢
        dsimp only
        have j7 : j < 7 := by omega
        have lp := pow_lt31 j7
        have g := (G.2 j j7).2.2.1
        rw [g110_8, F.1.1, ifa, if_neg (nI_ge hj (by omega)), g110_3 R, a114 j7, F.2.2.2.1 j j7, ifa, or0, nI_1, nI_shl1 (by omega), nI_or (by omega) (by omega)]
        unfold mk
        by_cases c : A.1 2 j = 99 - i
        · rw [if_neg (fun q => q (by rw [c])), if_pos (decide_eq_true c)]
        · rw [if_pos (fun q => c ((nI_eq (by omega) (by omega)).mp q)), if_neg (by simp [c])]
      · dsimp only
        rw [g110_8, F.1.1, ifa, if_pos (nI_le (Nat.le_refl _) (by omega))]
  · dsimp only
    rw [th_eq G, ifa, if_pos (show dn 100 < 0 by decide), ifa]
    obtain ⟨j, hj, rfl⟩ := nc_ix (fs_z e).1 (by omega)
    unfold thS
    rcases (show j = 0 ∨ j = 1 ∨ j = 2 by omega) with rfl | rfl | rfl
    · rfl
    · rfl
    · rfl
