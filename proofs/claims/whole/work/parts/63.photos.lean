/-! PHOTOS: the cheapest share, from the full set downwards -/
def dm (N i : Nat) : Int32 := if i = N then -1 else nI (N - 1 - i)
theorem nI_p1 (k : Nat) : nI (k + 1) + -1 = nI k := by
  rw [← nI_1, Int32.add_assoc, show (1 : Int32) + -1 = 0 from rfl, Int32.add_zero]
theorem dm_s {N i : Nat} (h : i < N) : dm N i + -1 = dm N (i + 1) := by
  unfold dm
  rw [if_neg (by omega)]
  by_cases c : i + 1 = N
  · rw [if_pos c, show N - 1 - i = 0 by omega]
    rfl
  · rw [if_neg c, show N - 1 - i = (N - 1 - (i + 1)) + 1 by omega, nI_p1]
theorem dm_at {N i : Nat} (h : i < N) : dm N i = nI (N - 1 - i) := if_neg (by omega)
theorem dm_end (N : Nat) : dm N N = -1 := if_pos rfl
theorem dm_0 (N : Nat) : dm N 0 = nI N - 1 := by
  unfold dm
  by_cases c : 0 = N
  · rw [if_pos c, ← c]
    rfl
  · rw [if_neg c]
    have := nI_p1 (N - 1)
    rw [show N - 1 + 1 = N by omega] at this
    rw [Int32.sub_eq_add_neg, show -(1 : Int32) = -1 from rfl, this]
    rfl
theorem pop_or {s j : Nat} (h : tb s j = false) (m : Nat) : pop (s ||| 2 ^ j) m = pop s m + if j < m then 1 else 0 := by
  induction m with
  | zero => rfl
  | succ m ih =>
    unfold pop
    rw [ih, tb_or, tb_pow]
    by_cases c : j = m
    · subst c
      simp [h]
    · by_cases d : j < m
      · simp [c, d, show j < m + 1 by omega]
        omega
      · simp [c, d, show ¬ j < m + 1 by omega]
theorem pop_all {s m : Nat} (h : pop s m = m) : ∀ j, j < m → tb s j = true := by
  induction m with
  | zero => intro j hj; omega
  | succ m ih =>
    intro j hj
    have h2 : pop s m + (if tb s m = true then 1 else 0) = m + 1 := h
    have := pop_le s m
    by_cases c : tb s m = true
    · rw [if_pos c] at h2
      by_cases d : j = m
      · rw [d]
        exact c
      · exact ih (by omega) j (by omega)
    · rw [if_neg c] at h2
      omega
theorem pop_full {s m : Nat} (h : ∀ j, j < m → tb s j = true) : pop s m = m := by
  induction m with
  | zero => rfl
  | succ m ih =>
    unfold pop
    rw [ih fun j hj => h j (by omega), if_pos (h m (by omega))]
theorem pop_lt {s n : Nat} (h : s < 2 ^ n) (hf : ¬ s = 2 ^ n - 1) : pop s n < n := by
  have := pop_le s n
  refine Nat.lt_of_le_of_ne this fun q => hf ?_
  have hp := Nat.two_pow_pos n
  refine tb_extn h (by omega) fun k hk => ?_
  rw [pop_all q k hk, tb_ones]
  simp [hk]
theorem or_gt {s j : Nat} (h : tb s j = false) : s < s ||| 2 ^ j := by
  refine Nat.lt_of_le_of_ne Nat.left_le_or fun q => ?_
  have : tb s j = tb (s ||| 2 ^ j) j := by rw [← q]
  rw [tb_or, tb_pow, h] at this
  simp at this
theorem or_lt {s j n : Nat} (hs : s < 2 ^ n) (hj : j < n) : s ||| 2 ^ j < 2 ^ n := Nat.or_lt_two_pow hs (pow_lt31 hj)
theorem bsG_t {g : Nat → Bool} {f : Nat → Nat} {w : Int32} {i : Nat} {b : Option Nat} (h : g i = true) : bsG g f w i b = mg w (f i) b := if_pos h
theorem bsG_f {g : Nat → Bool} {f : Nat → Nat} {w : Int32} {i : Nat} {b : Option Nat} (h : g i = false) : bsG g f w i b = b := if_neg (by rw [h]; decide)
def ct (A : AV) (L : Nat × (Nat → Nat)) : Nat → Nat → Nat
  | 0, _ => 0
  | d + 1, s => (fold (bsG (fun j => !tb s j) (fun j => ds (A.1 2 (A.2.1 - (d + 1))) (L.2 j) + ct A L d (s ||| 2 ^ j)) 1) A.2.1 none).getD 0
theorem ct_s (A : AV) (L : Nat × (Nat → Nat)) (d s : Nat) : ct A L (d + 1) s = (fold (bsG (fun j => !tb s j) (fun j => ds (A.1 2 (A.2.1 - (d + 1))) (L.2 j) + ct A L d (s ||| 2 ^ j)) 1) A.2.1 none).getD 0 := rfl
theorem ct_le {A : AV} {L : Nat × (Nat → Nat)} (G : GoodA A) (GL : GoodL L) (d : Nat) : ∀ s, ct A L d s ≤ 99 * d := by
  have hn := G.1.1
  induction d with
  | zero => exact fun s => Nat.le_refl 0
  | succ d ih =>
    intro s
    rw [ct_s]
    rcases bs_spec (fun j => !tb s j) (fun j => ds (A.1 2 (A.2.1 - (d + 1))) (L.2 j) + ct A L d (s ||| 2 ^ j)) 1 A.2.1 with ⟨c1, -⟩ | ⟨m, c1, ⟨j, j1, j2, j3⟩, -⟩
    · rw [c1]
      exact Nat.zero_le _
    · rw [c1, ← j3]
      show ds _ _ + _ ≤ _
      have h1 := ih (s ||| 2 ^ j)
      have h2 := (G.2 (A.2.1 - (d + 1)) (by omega)).2.2.1
      have h3 := GL.2 j (by omega)
      unfold ds
      omega
def cs (A : AV) (L : Nat × (Nat → Nat)) (s : Nat) : Nat := ct A L (A.2.1 - pop s 8) s
theorem cs_le {A : AV} {L : Nat × (Nat → Nat)} (G : GoodA A) (GL : GoodL L) (s : Nat) : cs A L s ≤ 693 := by
  have hn := G.1.1
  have := ct_le G GL (A.2.1 - pop s 8) s
  unfold cs
  omega
/-- the best of the next shares -/
def cf (A : AV) (L : Nat × (Nat → Nat)) (s j : Nat) : Nat := ds (A.1 2 (pop s 8)) (L.2 j) + cs A L (s ||| 2 ^ j)
def cb (A : AV) (L : Nat × (Nat → Nat)) (s i : Nat) : Option Nat := fold (bsG (fun j => !tb s j) (cf A L s) 1) i none
theorem cf_le {A : AV} {L : Nat × (Nat → Nat)} (G : GoodA A) (GL : GoodL L) {s j : Nat} (hs : pop s 8 < 7) (hj : j < 7) : cf A L s j ≤ 999 := by
  have h1 := cs_le G GL (s ||| 2 ^ j)
  have h2 := (G.2 (pop s 8) hs).2.2.1
  have h3 := GL.2 j (by omega)
  unfold cf ds
  omega
theorem cs_cb {A : AV} {L : Nat × (Nat → Nat)} (G : GoodA A) {s : Nat} (hs : s < 2 ^ A.2.1) (hf : ¬ s = 2 ^ A.2.1 - 1) : cb A L s A.2.1 = some (cs A L s) ∧ ∃ j, j < A.2.1 ∧ tb s j = false ∧ cf A L s j = cs A L s := by
  have hn := G.1.1
  have hp := pop_lt hs hf
  rw [← pop_ext hs (show A.2.1 ≤ 8 by omega)] at hp
  have e : cs A L s = (cb A L s A.2.1).getD 0 := by
    unfold cs
    rw [show A.2.1 - pop s 8 = (A.2.1 - pop s 8 - 1) + 1 by omega, ct_s]
    congr 1
    refine fold_congr fun j hj a => ?_
    cases z : tb s j
    · rw [bsG_t (show (!tb s j) = true by rw [z]; rfl), bsG_t (show (!tb s j) = true by rw [z]; rfl)]
      congr 1
      unfold cf cs
      rw [pop_or z 8, if_pos (by omega), show A.2.1 - (A.2.1 - pop s 8 - 1 + 1) = pop s 8 by omega, show A.2.1 - (pop s 8 + 1) = A.2.1 - pop s 8 - 1 by omega]
    · rw [bsG_f (show (!tb s j) = false by rw [z]; rfl), bsG_f (show (!tb s j) = false by rw [z]; rfl)]
  rcases bs_spec (fun j => !tb s j) (cf A L s) 1 A.2.1 with ⟨c1, c2⟩ | ⟨m, c1, ⟨j, j1, j2, j3⟩, -⟩
  · exfalso
    have : pop s A.2.1 = A.2.1 := pop_full fun j hj => by
      have := c2 j hj
      simpa using this
    rw [pop_ext hs (show A.2.1 ≤ 8 by omega)] at hp
    omega
  · have c1 : cb A L s A.2.1 = some m := c1
    rw [c1] at e
    have em : cs A L s = m := e
    rw [em]
    exact ⟨c1, j, j1, by simpa using j2, j3⟩
theorem cb_s (A : AV) (L : Nat × (Nat → Nat)) (s i : Nat) : cb A L s (i + 1) = if tb s i = true then cb A L s i else mg 1 (cf A L s i) (cb A L s i) := by
  show bsG (fun j => !tb s j) (cf A L s) 1 i (cb A L s i) = _
  cases z : tb s i
  · rw [bsG_t (show (!tb s i) = true by rw [z]; rfl)]
    rfl
  · rw [bsG_f (show (!tb s i) = false by rw [z]; rfl)]
    rfl
theorem cb_le {A : AV} {L : Nat × (Nat → Nat)} (G : GoodA A) (GL : GoodL L) {s i : Nat} (hs : pop s 8 < 7) (hi : i ≤ 7) : (cb A L s i).getD 0 ≤ 999 := by
  rcases bs_spec (fun j => !tb s j) (cf A L s) 1 i with ⟨c1, c2⟩ | ⟨m, c1, ⟨j, j1, j2, j3⟩, -⟩
  · have c1 : cb A L s i = none := c1
    rw [c1]
    exact Nat.zero_le _
  · have c1 : cb A L s i = some m := c1
    rw [c1, ← j3]
    exact cf_le G GL hs (by omega)
theorem gd_le {b : Option Nat} {B : Nat} (h : b.getD 0 ≤ 999) (hB : 999 ≤ B) : b.getD B ≤ B := by
  cases b with
  | none => exact Nat.le_refl _
  | some m =>
    have : m ≤ 999 := h
    show m ≤ B
    omega
theorem gd_min {b : Option Nat} {B v : Nat} (hv : v ≤ B) : min (b.getD B) v = (mg 1 v b).getD B := by
  cases b with
  | none => exact Nat.min_eq_right hv
  | some m => rfl
theorem X6_costWith {h : HP} {A : AV} {L : Nat × (Nat → Nat)} {s j i : Nat} (R : RefOk h.2) (F : FolkIs h 2 A) (G : GoodA A) (T : RowX h L) (GL : GoodL L) (hs : s < 2 ^ A.2.1) (hj : j < A.2.1) (hp : pop s 8 = i) (hi : i < 7) (hc : h.1 107 (s ||| 2 ^ j) = nI (cs A L (s ||| 2 ^ j))) : cv 5 0 (f_X6_costWith 0 (nI i) (nI j) (nI s)) h = some (nI (cf A L s j), h) := by
  have hn := G.1.1
  have h7 := pow_le7 hn
  have B := FB.of R (b := 2) (by decide)
  have ho := or_lt hs hj
  have lp := pow_lt31 hj
  have g2 := (G.2 i hi).2.2.1
  have gl := GL.2 j (by omega)
  subst hp
  show f_X6_costWith 0 (nI (pop s 8)) (nI j) (nI s) h = _
  unfold f_X6_costWith
  rw [x_gr0 R, bR5 B, bA3 B hi, F.2.2.2.1 _ hi, g0_7 R, a104 (by omega), T.2 j (by omega), g0_11 R, nI_shl1 (by omega), nI_or (by omega) (by omega), a107 (by omega), hc, mabs_sub (by omega) (by omega), nI_add]
  rfl
theorem X6_fillCosts {h : HP} {A : AV} {L : Nat × (Nat → Nat)} (R : RefOk h.2) (F : FolkIs h 2 A) (G : GoodA A) (T : RowX h L) (GL : GoodL L) (hL : L.1 = A.2.1) : wp (cv 5 0 (f_X6_fillCosts 0)) h fun _ h' => (∀ s, s < 2 ^ A.2.1 → h'.1 107 s = nI (cs A L s)) ∧ Same (fun a => a = 107) h h' := by
  have hn := G.1.1
  have h7 := pow_le7 hn
  have hpos := Nat.two_pow_pos A.2.1
  show wp (f_X6_fillCosts 0) h _
  unfold f_X6_fillCosts
  refine wp_eq g0_8 ?_
  rw [T.1, hL, nI_shl1 (by omega), n1, pk_sub (by omega)]
  refine wp_eq (g0_11 R) (wp_eq (s107 (by omega)) ?_)
  rw [← n1, ← dm_0]
  refine wp_loop (fun i s h' => s = dm (2 ^ A.2.1 - 1) i ∧ (∀ s, 2 ^ A.2.1 - 1 - i ≤ s → s < 2 ^ A.2.1 → h'.1 107 s = nI (cs A L s)) ∧ Same (fun a => a = 107) h h') (2 ^ A.2.1 - 1) (nf_lt (by omega)) (fun i hi s h' q k K => ?_) (fun s h' k q => ?_) ⟨rfl, fun s h1 h2 => ?_, rfl, fun a ha => ?_⟩
  · obtain ⟨rfl, N1, S⟩ := q
    have SG : Same GX h h' := S.wide fun x q => by unfold GX; omega
    have R' := RefOk.same S R
    have F' := (x_stay SG R F).2
    have T' := T.same SG
    rw [← dm_s hi, dm_at hi] at K
    rw [dm_at hi]
    have hs : 2 ^ A.2.1 - 1 - 1 - i < 2 ^ A.2.1 := by omega
    have hf : ¬ 2 ^ A.2.1 - 1 - 1 - i = 2 ^ A.2.1 - 1 := by omega
    have N2 : ∀ j, 2 ^ A.2.1 - 1 - 1 - i < j → j < 2 ^ A.2.1 → h'.1 107 j = nI (cs A L j) := fun j a b => N1 j (by omega) b
    have N3 : ∀ j, 2 ^ A.2.1 - 1 - (i + 1) ≤ j → ¬ j = 2 ^ A.2.1 - 1 - 1 - i → 2 ^ A.2.1 - 1 - 1 - i < j := fun j a b => by omega
    generalize 2 ^ A.2.1 - 1 - 1 - i = s at hs hf N2 N3 K
    have hp := pop_lt hs hf
    rw [← pop_ext hs (show A.2.1 ≤ 8 by omega)] at hp
    rw [if_neg (nI_pos (by omega))]
    refine wp_call (J6_bits (show s < 2 ^ 8 by omega)) ?_
    refine wp_eq (lp_pure (s := fun j => (nI ((cb A L s j).getD 1000000), nI j)) A.2.1 (nf_lt (by omega)) (fun j hj k2 => ?_) (fun k2 => ?_)) (m' := bnd (sI 107 (nI s) (nI ((cb A L s A.2.1).getD 1000000))) fun _ => k (nI s + -1)) (h' := h') ?_
    · have lb := gd_le (B := 1000000) (cb_le (s := s) (i := j) G GL (by omega) (by omega)) (by omega)
      have lc := cf_le (s := s) (j := j) G GL (by omega) (by omega)
      dsimp only
      rw [g0_8, T'.1, hL, ifa, if_neg (nI_ge hj (by omega)), e_bnd (X6_holds (by omega) (by omega)), tb_ifn, nI_1, cb_s]
      cases z : tb s j
      · simp only [Bool.false_eq_true, if_false]
        rw [e_bnd (X6_costWith R' F' G T' GL hs hj rfl (by omega) (N2 _ (or_gt z) (or_lt hs hj))), mmin_nI (by omega) (by omega), gd_min (by omega)]
      · simp only [if_true]
    · dsimp only
      rw [g0_8, T'.1, hL, ifa, if_pos (nI_le (Nat.le_refl _) (by omega)), g0_11 R']
    · rw [(cs_cb G hs hf).1]
      refine wp_eq (s107 (by omega)) (K _ _ ⟨rfl, fun j h1 h2 => ?_, S.1, fun a ha => ?_⟩)
      · dsimp only
        rw [set_eq]
        by_cases c : j = s
        · subst c
          rw [upd_eq]
          rfl
        · rw [upd_ne _ _ c]
          exact N2 j (N3 j h1 c) h2
      · dsimp only
        rw [set_ne _ _ ha]
        exact S.2 a ha
  · obtain ⟨rfl, N1, S⟩ := q
    rw [dm_end, if_pos (by decide)]
    exact wp_rt ⟨fun s hs => N1 s (by omega) hs, S⟩
  · dsimp only
    have : s = 2 ^ A.2.1 - 1 := by omega
    subst this
    rw [set_eq, upd_eq]
    have : pop (2 ^ A.2.1 - 1) 8 = A.2.1 := by
      rw [pop_ext (show 2 ^ A.2.1 - 1 < 2 ^ A.2.1 by omega) (show A.2.1 ≤ 8 by omega)]
      exact pop_full fun j hj => by rw [tb_ones]; simp [hj]
    unfold cs
    rw [this, Nat.sub_self]
    rfl
  · dsimp only
    rw [set_ne _ _ ha]
