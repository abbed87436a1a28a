/-! PLACES: WAYS AND THINGS; UNSEEN, NARROWS -/
def PlX (h : HP) (P : (Nat → Nat) × (Nat → Nat)) : Prop := (∀ k, k < 8 → h.1 10 k = nI (P.1 k)) ∧ ∀ k, k < 8 → h.1 11 k = nI (P.2 k)
def PlY (h : HP) (P : (Nat → Nat) × (Nat → Nat)) : Prop := (∀ k, k < 8 → h.1 117 k = nI (P.1 k)) ∧ ∀ k, k < 8 → h.1 118 k = nI (P.2 k)
def GoodP (P : (Nat → Nat) × (Nat → Nat)) : Prop := ∀ k, k < 8 → P.1 k < 2 ^ 8 ∧ P.2 k ≤ 3
theorem PlX.same {h h' : HP} {P : (Nat → Nat) × (Nat → Nat)} (T : PlX h P) (S : Same GX h h') : PlX h' P := by
  unfold PlX
  rw [S.2 10 (by unfold GX; omega), S.2 11 (by unfold GX; omega)]
  exact T
theorem PlY.lv {h h' : HP} {P : (Nat → Nat) × (Nat → Nat)} (T : PlY h P) (S : LvY h h') : PlY h' P := by
  have e := S.2.2.2.2.1
  exact ⟨fun k hk => (e 117 (by omega) (by omega) k hk).trans (T.1 k hk), fun k hk => (e 118 (by omega) (by omega) k hk).trans (T.2 k hk)⟩
def gl (t : Nat) : Nat := if t = 3 then 7 else if t = 2 then 3 else t
theorem gl_le {t : Nat} (h : t ≤ 3) : gl t ≤ 7 := by
  unfold gl
  split
  · omega
  · split <;> omega
theorem gl_0 {t : Nat} : gl t = 0 ↔ t = 0 := by
  unfold gl
  split
  · omega
  · split <;> omega
theorem x_gr1 {β : Type} {h : HP} {f : Nat → M β} (R : RefOk h.2) : bnd (gR 5 0 0) (fun r => bnd (gR 4 1 r) f) h = f 9 h := by
  rw [g0_0 R]
  exact g1_1 R
theorem X4_glancesAt {h : HP} {P : (Nat → Nat) × (Nat → Nat)} {k : Nat} (R : RefOk h.2) (T : ∀ k, k < 8 → h.1 11 k = nI (P.2 k)) (GP : ∀ k, k < 8 → P.2 k ≤ 3) (hk : k < 8) : cv 3 9 (f_X4_glancesAt 9 (nI k)) h = some (nI (gl (P.2 k)), h) := by
  have g := GP k hk
  rw [e_cv sh9]
  unfold f_X4_glancesAt gl
  rw [g9_1 R, a11 hk, T k hk, ifa, ifa]
  generalize P.2 k = t at g ⊢
  rcases (show t = 0 ∨ t = 1 ∨ t = 2 ∨ t = 3 by omega) with rfl | rfl | rfl | rfl <;> rfl
theorem X7_glanceOf {h : HP} {t : Nat} (ht : t ≤ 3) : f_X7_glanceOf (nI t) h = some (nI (gl t), h) := by
  unfold f_X7_glanceOf gl
  rcases (show t = 0 ∨ t = 1 ∨ t = 2 ∨ t = 3 by omega) with rfl | rfl | rfl | rfl <;> rfl
def bare (P : (Nat → Nat) × (Nat → Nat)) : Nat := fold (mk fun k => decide (P.2 k = 0)) 8 0
theorem bare_lt (P : (Nat → Nat) × (Nat → Nat)) : bare P < 2 ^ 8 := mk_lt8 _ (Nat.le_refl 8) (by decide)
theorem tb_bare {P : (Nat → Nat) × (Nat → Nat)} {v : Nat} : tb (bare P) v = (decide (v < 8) && decide (P.2 v = 0)) := by
  unfold bare
  rw [tb_mk, tb_zero, Bool.false_or]
theorem X4_bare {h : HP} {P : (Nat → Nat) × (Nat → Nat)} (R : RefOk h.2) (T : PlX h P) (GP : GoodP P) : cv 3 9 (f_X4_bare 9) h = some (nI (bare P), h) := by
  rw [e_cv sh9]
  unfold f_X4_bare
  refine lp_pure (s := fun i => (nI (fold (mk fun k => decide (P.2 k = 0)) i 0), nI i)) 8 (nf_lt (by omega)) (fun i hi k => ?_) (fun k => ?_)
  · have l := mk_lt8 (fun k => decide (P.2 k = 0)) (n := i) (m := 0) (by omega) (by decide)
    have es : fold (mk fun k => decide (P.2 k = 0)) (i + 1) 0 = mk (fun k => decide (P.2 k = 0)) i (fold (mk fun k => decide (P.2 k = 0)) i 0) := rfl
    rw [es]
    generalize fold (mk fun k => decide (P.2 k = 0)) i 0 = m at l ⊢
    dsimp only
    have lp := pow_lt31 hi
    have lg := gl_le (GP i hi).2
    rw [ifa, if_neg (show ¬ (8 : Int32) ≤ nI i from nI_ge (b := 8) hi (by omega)), e_bnd (X4_glancesAt R T.2 (fun k hk => (GP k hk).2) hi), ifa, nI_1, nI_shl1 (by omega), nI_or (by omega) (by omega)]
    by_cases c : P.2 i = 0
    · rw [gl_0.mpr c, if_neg (show ¬ ¬ nI 0 = 0 from fun q => q rfl), mk_t (g := fun k => decide (P.2 k = 0)) (decide_eq_true c)]
    · rw [if_pos (nI_ne0 (by have : ¬ gl (P.2 i) = 0 := fun q => c (gl_0.mp q); omega) (by omega)), mk_f (g := fun k => decide (P.2 k = 0)) (decide_eq_false c)]
  · dsimp only
    rw [ifa, if_pos (show (8 : Int32) ≤ nI 8 by decide)]
    rfl
def pl (x : Int32) : Int32 := if pn 8 x then 0 else -1
def pl2 (x y : Int32) : Int32 := if pn 8 x && pn 8 y then 0 else -1
theorem pl_no {x : Int32} : pl x = 0 ∨ IsNo (pl x) := by
  unfold pl
  split
  · exact Or.inl rfl
  · exact Or.inr (Or.inl rfl)
theorem pl2_no {x y : Int32} : pl2 x y = 0 ∨ IsNo (pl2 x y) := by
  unfold pl2
  split
  · exact Or.inl rfl
  · exact Or.inr (Or.inl rfl)
theorem pl_z {x : Int32} (h : pl x = 0) : pn 8 x = true := by
  unfold pl at h
  cases z : pn 8 x
  · rw [z] at h
    exact absurd h (by decide)
  · rfl
theorem pl_c {x : Int32} (c : ¬ pl x = 0) : pn 8 x = false ∧ pl x = -1 := by
  unfold pl at c ⊢
  cases z : pn 8 x
  · exact ⟨rfl, rfl⟩
  · rw [z] at c
    exact absurd rfl c
theorem pl_ix {x : Int32} (h : pl x = 0) : ∃ k, k < 8 ∧ x = nI k := pn_ix (pl_z h) (by omega)
theorem pl2_z {x y : Int32} (h : pl2 x y = 0) : pn 8 x = true ∧ pn 8 y = true := by
  unfold pl2 at h
  cases z : pn 8 x
  · rw [z] at h
    simp at h
  · cases w : pn 8 y
    · rw [z, w] at h
      exact absurd h (by decide)
    · exact ⟨rfl, rfl⟩
theorem pl2_c {x y : Int32} (c : ¬ pl2 x y = 0) : (pn 8 x = false ∨ (pn 8 x = true ∧ pn 8 y = false)) ∧ pl2 x y = -1 := by
  unfold pl2 at c ⊢
  cases z : pn 8 x
  · exact ⟨Or.inl rfl, rfl⟩
  · cases w : pn 8 y
    · exact ⟨Or.inr ⟨rfl, rfl⟩, rfl⟩
    · rw [z, w] at c
      exact absurd rfl c
theorem pl2_ix {x y : Int32} (h : pl2 x y = 0) : ∃ a b, a < 8 ∧ b < 8 ∧ x = nI a ∧ y = nI b := by
  obtain ⟨a, ha, e⟩ := pn_ix (pl2_z h).1 (by omega)
  obtain ⟨b, hb, f⟩ := pn_ix (pl2_z h).2 (by omega)
  exact ⟨a, b, ha, hb, e, f⟩
/-- the reference's guard: is it a place? -/
theorem gu_pl {h : HP} {x am : Int32} {B : M Int32} (R : RefOk h.2) (H : pl x = 0 → wp B h fun v h' => v = am ∧ LvY h h') : wp (bnd (f_X7_isPlace x) fun t1 => if ¬ t1 = (0 : Int32) then B else bnd (cv 6 110 (f_X7_no 110 (-1 : Int32))) fun t => rt t) h (OutY h (pl x) am) := by
  refine wp_call X7_isPlace ?_
  rw [tb_ifn]
  by_cases c : pl x = 0
  · rw [pl_z c, c]
    simp only [if_true]
    exact wp_mono (H c) fun v h' q => oky q.1 q.2
  · rw [(pl_c c).1, (pl_c c).2]
    simp only [Bool.false_eq_true, if_false]
    exact yno R (Or.inl rfl)
def usS (P : (Nat → Nat) × (Nat → Nat)) (a : Nat) : Int32 := nI (rs P.1 (tb (bare P)) 8 8 (2 ^ a))
theorem QX_unseen {h : HP} {P : (Nat → Nat) × (Nat → Nat)} {x : Int32} (R : RefOk h.2) (T : PlX h P) (GP : GoodP P) : wp (f_X6_unseen 0 x) h (OutX h (pl x) (usS P (ix x))) := by
  unfold f_X6_unseen
  refine wp_call X6_noPlace (gX R pl_no fun e => ?_)
  obtain ⟨a, ha, rfl⟩ := pl_ix e
  rw [ix_nI (by omega), nI_shl1 (by omega)]
  have lp := pow_lt31 ha
  have hb := bare_lt P
  refine wp_eq (x_gr1 R) (wp_eq (g9_0 R) (wp_eq (x_gr1 R) (wp_call (X4_bare R T GP) ?_)))
  exact wp_call (X2_reach (m := 8) (M := tb (bare P)) rfl (by omega) T.1 (fun k hk => (GP k hk).1) (mask_nI hb) lp) (wp_rt ⟨rfl, Same.rfl'⟩)
def ipu (P : (Nat → Nat) × (Nat → Nat)) (i a : Nat) : Nat := if tb a (i / 8) = true ∧ tb (P.1 (i / 8)) (i % 8) = true ∧ P.2 (i % 8) = 0 then a ||| 2 ^ (i % 8) else a
theorem grow_u {P : (Nat → Nat) × (Nat → Nat)} {s : Nat} (GP : GoodP P) (hs : s < 2 ^ 8) : Grow 8 (fun k => itr (fold (ipu P) 64) k s) (Ed P.1 (tb (bare P)) 8) := by
  refine grow_ip (fun i a v hv => ?_) (fun i a D hi hD hs v hv => ?_) (fun u v h => ?_) (fun i a hi ha => ?_) hs (fun u v h => tb_bit (GP u h.1).1 h.2.1)
  · unfold ipu
    split
    · rw [tb_or, hv, Bool.true_or]
    · exact hv
  · unfold ipu at hv
    by_cases c : tb a (i / 8) = true ∧ tb (P.1 (i / 8)) (i % 8) = true ∧ P.2 (i % 8) = 0
    · rw [if_pos c, tb_or, tb_pow, Bool.or_eq_true, decide_eq_true_eq] at hv
      rcases hv with hv | hv
      · exact hs v hv
      · subst hv
        refine hD (i / 8) _ (hs _ c.1) ⟨by omega, c.2.1, ?_⟩
        rw [tb_bare]
        simp [c.2.2, show i % 8 < 8 by omega]
    · rw [if_neg c] at hv
      exact hs v hv
  · have hv := tb_bit (GP u h.1).1 h.2.1
    refine ⟨8 * u + v, by have := h.1; omega, fun a ha => ?_⟩
    have h3 := h.2.2
    rw [tb_bare] at h3
    simp [hv] at h3
    unfold ipu
    rw [show (8 * u + v) / 8 = u by omega, show (8 * u + v) % 8 = v by omega, if_pos ⟨ha, h.2.1, h3⟩, tb_or, tb_pow]
    simp
  · unfold ipu
    split
    · exact or_lt ha (by omega)
    · exact ha
theorem b_div8 {β : Type} {f : Int32 → M β} {h : HP} {x : Nat} (hx : x < 2 ^ 31) : bnd (divM (nI x) (8 : Int32)) f h = f (nI (x / 8)) h := b_div (y := 8) hx (by omega) (by omega)
theorem b_rem8 {β : Type} {f : Int32 → M β} {h : HP} {x : Nat} (hx : x < 2 ^ 31) : bnd (remM (nI x) (8 : Int32)) f h = f (nI (x % 8)) h := b_rem (y := 8) hx (by omega) (by omega)
theorem QY_unseen {h : HP} {P : (Nat → Nat) × (Nat → Nat)} {x : Int32} (R : RefOk h.2) (T : PlY h P) (GP : GoodP P) : wp (f_X7_unseen 110 x) h (OutY h (pl x) (usS P (ix x))) := by
  unfold f_X7_unseen
  refine gu_pl R fun e => ?_
  obtain ⟨a, ha, rfl⟩ := pl_ix e
  rw [ix_nI (by omega), nI_shl1 (by omega)]
  have lp := pow_lt31 ha
  have gr := grow_u GP lp
  have g2 := grow_rs (M := tb (bare P)) (m := 8) (e := 8) (W := P.1) (s := 2 ^ a) (by omega) (fun i hi => (GP i hi).1) lp
  unfold usS
  have eq : rs P.1 (tb (bare P)) 8 8 (2 ^ a) = itr (fold (ipu P) 64) 8 (2 ^ a) := g2.uniq gr rfl (N := 8) (N' := 8) (g2.clo (by omega)) (gr.clo (by omega))
  rw [eq]
  refine ⟨_, h, ?_, rfl, LvY.rf⟩
  refine lp_pure (s := fun i => (nI (itr (fold (ipu P) 64) i (2 ^ a)), nI i)) 8 (nf_lt (by omega)) (fun i hi k => ?_) (fun k => ?_)
  · have l : itr (fold (ipu P) 64) i (2 ^ a) < 2 ^ 8 := gr.2.2.2.1 i
    rw [itr_s]
    generalize itr (fold (ipu P) 64) i (2 ^ a) = s at l ⊢
    dsimp only
    rw [ifa, if_neg (show ¬ (8 : Int32) ≤ nI i from nI_ge (b := 8) hi (by omega)), nI_1]
    have lf : ∀ j, j ≤ 64 → fold (ipu P) j s < 2 ^ 8 := by
      intro j
      induction j with
      | zero => exact fun _ => l
      | succ j ih =>
        intro hj
        show ipu P j (fold (ipu P) j s) < _
        unfold ipu
        split
        · exact or_lt (ih (by omega)) (by omega)
        · exact ih (by omega)
    refine lp_pure (s := fun j => (nI (fold (ipu P) j s), nI j)) 64 (nf_lt (by omega)) (fun j hj k2 => ?_) (fun k2 => ?_)
    · have l2 := lf j (by omega)
      have es : fold (ipu P) (j + 1) s = ipu P j (fold (ipu P) j s) := rfl
      have d8 : j / 8 < 8 := by omega
      have m8 : j % 8 < 8 := by omega
      have g1 := GP (j / 8) d8
      have g2 := GP (j % 8) m8
      have lq := pow_lt31 m8
      rw [es]
      generalize fold (ipu P) j s = t at l2 ⊢
      dsimp only
      rw [ifa, if_neg (show ¬ (64 : Int32) ≤ nI j from nI_ge (b := 64) hj (by omega)), b_div8 (by omega), e_bnd (X7_has (by omega) (by omega)), tb_if, or0, nI_1]
      unfold ipu
      by_cases c : tb t (j / 8) = true
      · rw [if_pos c, g110_6 R, b_div8 (by omega), a117 d8, T.1 _ d8, b_rem8 (by omega), e_bnd (X7_has (by omega) (by omega)), tb_if]
        by_cases d : tb (P.1 (j / 8)) (j % 8) = true
        · rw [if_pos d, g110_7 R, b_rem8 (by omega), a118 m8, T.2 _ m8, ifa]
          by_cases f : P.2 (j % 8) = 0
          · rw [f, if_neg (show ¬ ¬ nI 0 = 0 from fun q => q rfl), if_pos ⟨c, d, rfl⟩, b_rem8 (by omega), nI_shl1 (by omega), nI_or (by omega) (by omega)]
          · rw [if_pos (nI_ne0 (by omega) (by omega)), if_neg (fun q => f q.2.2)]
        · rw [if_neg d, if_neg (fun q => d q.2.1)]
      · rw [if_neg c, if_neg (fun q => c q.1)]
    · dsimp only
      rw [ifa, if_pos (show (64 : Int32) ≤ nI 64 by decide)]
  · dsimp only
    rw [ifa, if_pos (show (8 : Int32) ≤ nI 8 by decide)]
    rfl
/-! is there a way, without some places -/
theorem X7_isWay {h : HP} {P : (Nat → Nat) × (Nat → Nat)} {a b w : Nat} (R : RefOk h.2) (T : PlY h P) (GP : GoodP P) (ha : a < 8) (hb : b < 8) (hw : w < 2 ^ 8) : cv 6 110 (f_X7_isWayWithout 110 (nI a) (nI b) (nI w)) h = some (if tb (rs P.1 (no' w) 8 8 (2 ^ a)) b = true then 1 else 0, h) := by
  have lp := pow_lt31 ha
  have l8 : ∀ d, rs P.1 (no' w) 8 d (2 ^ a) < 2 ^ 8 := rs_lt lp
  have hM := mask_wo (y := w) (by omega)
  show f_X7_isWayWithout 110 (nI a) (nI b) (nI w) h = _
  unfold f_X7_isWayWithout
  rw [nI_shl1 (by omega)]
  refine lp_pure (s := fun i => (nI (rs P.1 (no' w) 8 i (2 ^ a)), nI i)) 8 (nf_lt (by omega)) (fun i hi k => ?_) (fun k => ?_)
  · have l := l8 i
    rw [rs_s]
    generalize rs P.1 (no' w) 8 i (2 ^ a) = t at l ⊢
    have l2 := nxt_lt (W := P.1) (s := t) (m := 8) (e := 8) fun i hi => (GP i hi).1
    have l3 := flt_lt (no' w) (nxt P.1 t 8)
    dsimp only
    rw [ifa, if_neg (show ¬ (8 : Int32) ≤ nI i from nI_ge (b := 8) hi (by omega)), nI_1]
    refine lp_pure (s := fun j => (nI (nxt P.1 t j), nI j)) 8 (nf_lt (by omega)) (fun j hj k2 => ?_) (fun k2 => ?_)
    · have l4 := nxt_lt (W := P.1) (s := t) (m := j) (e := 8) fun i hi => (GP i (by omega)).1
      have l5 := (GP j hj).1
      dsimp only
      rw [ifa, if_neg (show ¬ (8 : Int32) ≤ nI j from nI_ge (b := 8) hj (by omega)), e_bnd (X7_has (by omega) (by omega)), tb_if, or0, nI_1, nxt_s]
      unfold nxtG
      by_cases c : tb t j = true
      · rw [if_pos c, if_pos c, g110_6 R, a117 hj, T.1 j hj, nI_or (by omega) (by omega)]
      · rw [if_neg c, if_neg c]
    · dsimp only
      rw [ifa, if_pos (show (8 : Int32) ≤ nI 8 by decide), hM _ l2, show flt (fun v => !tb w v) = flt (no' w) from rfl, nI_or (by omega) (by omega)]
  · have l := l8 8
    dsimp only
    rw [ifa, if_pos (show (8 : Int32) ≤ nI 8 by decide), e_bnd (X7_has (by omega) (by omega))]
    split <;> rfl
theorem X7_isWay0 {h : HP} {P : (Nat → Nat) × (Nat → Nat)} {a b : Nat} (R : RefOk h.2) (T : PlY h P) (GP : GoodP P) (ha : a < 8) (hb : b < 8) : cv 6 110 (f_X7_isWayWithout 110 (nI a) (nI b) (0 : Int32)) h = some (if tb (rs P.1 top 8 8 (2 ^ a)) b = true then 1 else 0, h) := by
  rw [← no_top]
  exact X7_isWay (w := 0) R T GP ha hb (by omega)
theorem mask_255' : MaskIs 255 top := mask_255
def nwG (P : (Nat → Nat) × (Nat → Nat)) (a b k : Nat) : Bool := !decide (k = a) && (!decide (k = b) && !tb (rs P.1 (no' (2 ^ k)) 8 8 (2 ^ a)) b)
def nwS (P : (Nat → Nat) × (Nat → Nat)) (a b : Nat) : Int32 := if tb (rs P.1 top 8 8 (2 ^ a)) b = true then nI (fold (mk (nwG P a b)) 8 0) else -9
theorem QX_narrows {h : HP} {P : (Nat → Nat) × (Nat → Nat)} {x y : Int32} (R : RefOk h.2) (T : PlX h P) (GP : GoodP P) : wp (f_X6_narrows 0 x y) h (OutX h (n2p 8 x y) (nwS P (ix x) (ix y))) := by
  unfold f_X6_narrows
  have H2 : ∀ K : Int32 → M Int32, wp (K (n2p 8 x y)) h (OutX h (n2p 8 x y) (nwS P (ix x) (ix y))) → wp (jn (fun k2 => if ¬ x = y then bnd (f_X6_noPlaces x y) fun t21 => k2 t21 else k2 (-1 : Int32)) K) h (OutX h (n2p 8 x y) (nwS P (ix x) (ix y))) := fun K H => by
    unfold jn
    dsimp only
    by_cases c : x = y
    · rw [if_neg (fun q => q c)]
      have e : n2p 8 x y = -1 := by
        unfold n2p
        simp [c]
      rw [e] at H ⊢
      exact H
    · rw [if_pos c]
      have e : n2p 8 x y = (if pn 8 x && pn 8 y then 0 else -1) := by
        unfold n2p
        simp [c]
      rw [e] at H ⊢
      exact wp_call X6_noPlaces H
  refine H2 _ (gX R n2p_no fun e => ?_)
  obtain ⟨a, b, ha, hb, rfl, rfl, hab⟩ := n2p_ix e (by omega)
  rw [ix_nI (by omega), ix_nI (by omega), nI_shl1 (by omega)]
  have lp := pow_lt31 ha
  have l8 : ∀ M d, rs P.1 M 8 d (2 ^ a) < 2 ^ 8 := fun M => rs_lt lp
  have RE : ∀ {z : Int32} {M : Nat → Bool}, MaskIs z M → f_X2_reach 10 (nI (2 ^ a)) z h = some (nI (rs P.1 M 8 8 (2 ^ a)), h) := fun hM => X2_reach (m := 8) rfl (by omega) T.1 (fun k hk => (GP k hk).1) hM lp
  refine wp_eq (x_gr1 R) (wp_eq (g9_0 R) (wp_call (RE mask_255') ?_))
  have l0 := l8 top 8
  refine wp_call (X6_holds (by omega) (by omega)) ?_
  rw [tb_ifn]
  unfold nwS
  by_cases c : tb (rs P.1 top 8 8 (2 ^ a)) b = true
  · rw [if_pos c, if_pos c]
    refine ⟨_, h, ?_, rfl, Same.rfl'⟩
    refine lp_pure (s := fun i => (nI (fold (mk (nwG P a b)) i 0), nI i)) 8 (nf_lt (by omega)) (fun i hi k => ?_) (fun k => ?_)
    · have l := mk_lt8 (nwG P a b) (n := i) (m := 0) (by omega) (by decide)
      have es : fold (mk (nwG P a b)) (i + 1) 0 = mk (nwG P a b) i (fold (mk (nwG P a b)) i 0) := rfl
      rw [es]
      generalize fold (mk (nwG P a b)) i 0 = m at l ⊢
      have lq := pow_lt31 hi
      have l1 := l8 (no' (2 ^ i)) 8
      unfold jn
      dsimp only
      rw [ifa, if_neg (show ¬ (8 : Int32) ≤ nI i from nI_ge (b := 8) hi (by omega)), ifa, nI_1, nI_shl1 (by omega)]
      unfold mk nwG
      by_cases d : i = a
      · rw [if_pos (by rw [d]), ifa, if_pos rfl, if_neg (by simp [d])]
      · rw [if_neg (fun q => d ((nI_eq (by omega) (by omega)).mp q)), ifa]
        by_cases f : i = b
        · rw [if_pos (by rw [f]), ifa, if_pos rfl, if_neg (by simp [f])]
        · rw [if_neg (fun q => f ((nI_eq (by omega) (by omega)).mp q)), ifa, if_neg (show ¬ (1 : Int32) = 0 by decide), e_bnd (RE (mask_wo (show 2 ^ i < 2 ^ 31 by omega))), e_bnd (X6_holds (by have := l8 (fun v => !tb (2 ^ i) v) 8; omega) (by omega)), tb_ifn, nI_or (by omega) (by omega)]
          rw [show rs P.1 (fun v => !tb (2 ^ i) v) 8 8 (2 ^ a) = rs P.1 (no' (2 ^ i)) 8 8 (2 ^ a) from rfl]
          cases z : tb (rs P.1 (no' (2 ^ i)) 8 8 (2 ^ a)) b
          · rw [if_neg (by decide), if_pos (by simp [d, f])]
          · rw [if_pos rfl, if_neg (by simp)]
    · dsimp only
      rw [ifa, if_pos (show (8 : Int32) ≤ nI 8 by decide)]
      rfl
  · rw [if_neg c, if_neg c]
    exact wp_rt ⟨rfl, Same.rfl'⟩
theorem QY_narrows {h : HP} {P : (Nat → Nat) × (Nat → Nat)} {x y : Int32} (R : RefOk h.2) (T : PlY h P) (GP : GoodP P) : wp (f_X7_narrows 110 x y) h (OutY h (n2p 8 x y) (nwS P (ix x) (ix y))) := by
  unfold f_X7_narrows
  refine wp_call X7_isPlace ?_
  unfold jn
  dsimp only
  rw [tb_if]
  by_cases c : n2p 8 x y = 0
  · obtain ⟨a, b, ha, hb, rfl, rfl, hab⟩ := n2p_ix c (by omega)
    rw [c, ix_nI (by omega), ix_nI (by omega), pn_nI ha (by omega), if_pos rfl]
    refine wp_call X7_isPlace ?_
    rw [tb_if, pn_nI hb (by omega), if_pos rfl, if_pos (fun q => hab ((nI_eq (by omega) (by omega)).mp q))]
    refine wp_call (X7_isWay0 R T GP ha hb) ?_
    rw [tb_ifn]
    have lp := pow_lt31 ha
    unfold nwS
    by_cases d : tb (rs P.1 top 8 8 (2 ^ a)) b = true
    · rw [if_pos d, if_pos d]
      refine ⟨_, h, ?_, oky rfl LvY.rf⟩
      refine lp_pure (s := fun i => (nI (fold (mk (nwG P a b)) i 0), nI i)) 8 (nf_lt (by omega)) (fun i hi k => ?_) (fun k => ?_)
      · have l := mk_lt8 (nwG P a b) (n := i) (m := 0) (by omega) (by decide)
        have es : fold (mk (nwG P a b)) (i + 1) 0 = mk (nwG P a b) i (fold (mk (nwG P a b)) i 0) := rfl
        rw [es]
        generalize fold (mk (nwG P a b)) i 0 = m at l ⊢
        have lq := pow_lt31 hi
        dsimp only
        rw [ifa, if_neg (show ¬ (8 : Int32) ≤ nI i from nI_ge (b := 8) hi (by omega)), ifa, nI_1, nI_shl1 (by omega), or0]
        unfold mk nwG
        by_cases d : i = a
        · rw [if_pos (by rw [d]), if_neg (by simp [d])]
        · rw [if_neg (fun q => d ((nI_eq (by omega) (by omega)).mp q)), ifa]
          by_cases f : i = b
          · rw [if_pos (by rw [f]), if_neg (by simp [f])]
          · rw [if_neg (fun q => f ((nI_eq (by omega) (by omega)).mp q)), e_bnd (X7_isWay R T GP ha hb (show 2 ^ i < 2 ^ 8 by omega)), tb_ifn, nI_or (by omega) (by omega)]
            cases z : tb (rs P.1 (no' (2 ^ i)) 8 8 (2 ^ a)) b
            · rw [if_neg (by decide), if_pos (by simp [d, f])]
            · rw [if_pos rfl, if_neg (by simp)]
      · dsimp only
        rw [ifa, if_pos (show (8 : Int32) ≤ nI 8 by decide)]
        rfl
    · rw [if_neg d, if_neg d]
      exact wp_rt (oky rfl LvY.rf)
  · obtain ⟨z, e⟩ := n2p_c c
    rw [e]
    cases z1 : pn 8 x
    · rw [if_neg (by decide)]
      exact yno R (Or.inl rfl)
    · rw [if_pos rfl]
      refine wp_call X7_isPlace ?_
      rw [tb_if]
      cases z2 : pn 8 y
      · rw [if_neg (by decide)]
        exact yno R (Or.inl rfl)
      · rw [if_pos rfl]
        rw [z1, z2] at z
        rw [if_neg (fun q => by simp [q] at z)]
        exact yno R (Or.inl rfl)
