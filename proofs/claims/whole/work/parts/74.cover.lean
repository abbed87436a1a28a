/-! COVER, MIDDLE -/
theorem bD_reach {V c : Nat → Nat} {s B C a : Nat} (hV : ∀ k, k < 8 → V k < 2 ^ 8) (hc : ∀ v, v < 8 → c v ≤ C) (hs : s ≤ C) (ha : a < 8) (k : Nat) : ∀ v, v < 8 → (tb (rs V top 8 k (2 ^ a)) v = true → bD V c s B a k v ≤ C * (k + 1)) ∧ (bD V c s B a k v < B → tb (rs V top 8 k (2 ^ a)) v = true) := by
  have lp := pow_lt31 ha
  have gr := grow_rs (M := top) (m := 8) (e := 8) (W := V) (s := 2 ^ a) (by omega) hV lp
  induction k with
  | zero =>
    intro v hv
    have e : bD V c s B a 0 v = if v = a then s else B := rfl
    have e2 : rs V top 8 0 (2 ^ a) = 2 ^ a := rfl
    rw [e, e2, tb_pow]
    by_cases q : v = a
    · rw [if_pos q]
      exact ⟨fun _ => by omega, fun _ => decide_eq_true q.symm⟩
    · rw [if_neg q]
      exact ⟨fun h => absurd (of_decide_eq_true h).symm q, fun h => absurd h (Nat.lt_irrefl _)⟩
  | succ k ih =>
    intro v hv
    have l := bD_le (V := V) (c := c) (s := s) (B := B) (a := a) k v
    have em : C * (k + 1 + 1) = C * (k + 1) + C := Nat.mul_succ _ _
    refine ⟨fun h => ?_, fun h => ?_⟩
    · rw [rs_s, tb_or, Bool.or_eq_true] at h
      rcases h with h | h
      · have := (ih v hv).1 h
        omega
      · rw [tb_flt (nxt_lt hV), Bool.and_eq_true] at h
        obtain ⟨u, u1, u2, u3⟩ := tb_nxt.mp h.1
        have := bD_edge (V := V) (c := c) (s := s) (B := B) (a := a) (k := k) u1 u3
        have := (ih u u1).1 u2
        have := hc v hv
        omega
    · rcases bD_att (V := V) (c := c) (s := s) (B := B) (a := a) k v with e | ⟨u, u1, u2, u3⟩
      · rw [e] at h
        exact gr.1 k v ((ih v hv).2 h)
      · exact gr.2.1 k u v ((ih u u1).2 (by omega)) ⟨u1, u2, rfl⟩
def cvP (P : (Nat → Nat) × (Nat → Nat)) (k : Nat) : (Nat → Nat) × (Nat → Nat) := (P.1, fun j => if j = k then 0 else P.2 j)
theorem cvP_good {P : (Nat → Nat) × (Nat → Nat)} (GP : GoodP P) (k : Nat) : GoodP (cvP P k) := fun j hj => by
  have := GP j hj
  unfold cvP
  dsimp only
  refine ⟨this.1, ?_⟩
  split <;> omega
theorem x16_inf {P Q : (Nat → Nat) × (Nat → Nat)} (GP : GoodP P) (GQ : GoodP Q) (e : P.1 = Q.1) {a b : Nat} (ha : a < 8) (hb : b < 8) : x16 P a b = 1000000 → x16 Q a b = 1000000 := by
  intro h
  have hc : ∀ R : (Nat → Nat) × (Nat → Nat), GoodP R → ∀ v, v < 8 → c16 R v ≤ 113 := fun R GR v hv => by
    have := gl_le (GR v hv).2
    unfold c16
    omega
  have r1 := bD_reach (B := 1000000) (s := 16 * gl (P.2 a)) (fun k hk => (GP k hk).1) (hc P GP) (by have := gl_le (GP a ha).2; omega) ha 7 b hb
  have r2 := bD_reach (B := 1000000) (s := 16 * gl (Q.2 a)) (fun k hk => (GQ k hk).1) (hc Q GQ) (by have := gl_le (GQ a ha).2; omega) ha 7 b hb
  have cap : x16 Q a b ≤ 1000000 := bD_cap (by have := gl_le (GQ a ha).2; omega) 7 b
  refine Classical.byContradiction fun q => ?_
  have t := r2.2 (show x16 Q a b < 1000000 by omega)
  rw [← e] at t
  have : x16 P a b ≤ 113 * (7 + 1) := r1.1 t
  omega
def cvG (P : (Nat → Nat) × (Nat → Nat)) (a b k : Nat) (s : Int32 × Nat) : Int32 × Nat := if s.2 ≤ x16 (cvP P k) a b / 16 then s else (nI k, x16 (cvP P k) a b / 16)
def cvF (P : (Nat → Nat) × (Nat → Nat)) (a b i : Nat) : Int32 × Nat := fold (cvG P a b) i (-9, x16 P a b / 16)
theorem cvF_s (P : (Nat → Nat) × (Nat → Nat)) (a b i : Nat) : cvF P a b (i + 1) = cvG P a b i (cvF P a b i) := rfl
theorem cvF_le (P : (Nat → Nat) × (Nat → Nat)) (a b i : Nat) (h : x16 P a b ≤ 1000000) : (cvF P a b i).2 ≤ 62500 := by
  induction i with
  | zero =>
    show x16 P a b / 16 ≤ _
    omega
  | succ i ih =>
    rw [cvF_s]
    unfold cvG
    split
    · exact ih
    · dsimp only
      omega
theorem cvF_inf {P : (Nat → Nat) × (Nat → Nat)} (GP : GoodP P) {a b : Nat} (ha : a < 8) (hb : b < 8) (h : x16 P a b = 1000000) (i : Nat) : cvF P a b i = (-9, 62500) := by
  induction i with
  | zero =>
    show (_, x16 P a b / 16) = _
    rw [h]
  | succ i ih =>
    rw [cvF_s, ih]
    unfold cvG
    rw [x16_inf GP (cvP_good GP i) rfl ha hb h]
    rfl
theorem x16_cap {P : (Nat → Nat) × (Nat → Nat)} (GP : GoodP P) {a : Nat} (ha : a < 8) (b : Nat) : x16 P a b ≤ 1000000 := bD_cap (by have := gl_le (GP a ha).2; omega) 7 b
def cvS (P : (Nat → Nat) × (Nat → Nat)) (a b : Nat) : Int32 := (cvF P a b 8).1
theorem upd_self (f : Nat → Int32) (k : Nat) : upd f k (f k) = f := by
  funext j
  by_cases c : j = k
  · subst c
    rw [upd_eq]
  · rw [upd_ne _ _ c]
theorem X4_routeCovered {h : HP} {P : (Nat → Nat) × (Nat → Nat)} {a b k : Nat} (R : RefOk h.2) (T : PlX h P) (GP : GoodP P) (ha : a < 8) (hb : b < 8) (hk : k < 8) : wp (cv 3 9 (f_X4_routeCovered 9 (nI a) (nI b) (nI k))) h fun v h' => v = nI (x16 (cvP P k) a b) ∧ Same (fun a => a = 12) h h' := by
  refine wp_eq (e_cv sh9) ?_
  unfold f_X4_routeCovered
  refine wp_eq (g9_1 R) (wp_eq (a11 hk) (wp_eq (g9_1 R) (wp_eq (s11 hk) ?_)))
  have T' : PlX (setR h.1 11 (upd (h.1 11) k 0), h.2) (cvP P k) := by
    refine ⟨fun j hj => ?_, fun j hj => ?_⟩
    · dsimp only
      rw [set_ne _ _ (by decide)]
      exact T.1 j hj
    · dsimp only [cvP]
      rw [set_eq]
      by_cases c : j = k
      · subst c
        rw [upd_eq, if_pos rfl]
        rfl
      · rw [upd_ne _ _ c, if_neg c]
        exact T.2 j hj
  refine wp_bnd (wp_mono (X4_route (by exact R) T' (cvP_good GP k) ha hb) fun v h1 q => ?_)
  obtain ⟨rfl, S⟩ := q
  have R1 : RefOk h1.2 := by rw [S.1]; exact R
  refine wp_eq (g9_1 R1) (wp_eq (s11 hk) (wp_rt ⟨rfl, S.1, fun q hq => ?_⟩))
  dsimp only
  by_cases c : q = 11
  · subst c
    rw [set_eq, S.2 11 (by omega)]
    dsimp only
    rw [set_eq, upd_upd, upd_self]
  · rw [set_ne _ _ c, S.2 q hq]
    dsimp only
    rw [set_ne _ _ c]
theorem QX_cover {h : HP} {P : (Nat → Nat) × (Nat → Nat)} {x y : Int32} (R : RefOk h.2) (T : PlX h P) (GP : GoodP P) : wp (f_X6_cover 0 x y) h (OutX h (pl2 x y) (cvS P (ix x) (ix y))) := by
  unfold f_X6_cover
  refine wp_call X6_noPlaces (gX R pl2_no fun e => ?_)
  obtain ⟨a, b, ha, hb, rfl, rfl⟩ := pl2_ix e
  rw [ix_nI (by omega), ix_nI (by omega)]
  refine wp_eq (x_gr1 R) (wp_bnd (wp_mono (X4_route R T GP ha hb) fun v h1 q => ?_))
  obtain ⟨rfl, S⟩ := q
  have cap := x16_cap GP ha b
  refine wp_eq (b_div (y := 16) (by omega) (by omega) (by omega)) ?_
  refine wp_loop (fun i s h' => s = ((cvF P a b i).1, nI (cvF P a b i).2, nI i) ∧ Same (fun a => a = 12) h h') 8 (nf_lt (by omega)) (fun i hi s h' q k K => ?_) (fun s h' k q => ?_) ⟨rfl, S⟩
  · obtain ⟨rfl, S⟩ := q
    have R1 := RefOk.same S R
    have T1 := T.same (GX12 S)
    have cl := cvF_le P a b i cap
    have cap2 := x16_cap (cvP_good GP i) ha b
    rw [cvF_s] at K
    generalize cvF P a b i = s at cl K
    dsimp only
    rw [if_neg (show ¬ (8 : Int32) ≤ nI i from nI_ge (b := 8) hi (by omega)), nI_1]
    refine wp_eq (x_gr1 R1) (wp_bnd (wp_mono (X4_routeCovered R1 T1 GP ha hb hi) fun v h2 q => ?_))
    obtain ⟨rfl, S2⟩ := q
    have S3 := S.trans (G2 := fun a => a = 12) S2 (fun _ q => q) (fun _ q => q)
    refine wp_eq (b_div (y := 16) (by omega) (by omega) (by omega)) ?_
    unfold cvG at K
    by_cases c : s.2 ≤ x16 (cvP P i) a b / 16
    · rw [if_pos ((nI_leI (by omega) (by omega)).mpr c)]
      rw [if_pos c] at K
      exact K _ _ ⟨rfl, S3⟩
    · rw [if_neg (fun q => c ((nI_leI (by omega) (by omega)).mp q))]
      rw [if_neg c] at K
      exact K _ _ ⟨rfl, S3⟩
  · obtain ⟨rfl, S⟩ := q
    dsimp only
    rw [if_pos (show (8 : Int32) ≤ nI 8 by decide)]
    exact wp_rt ⟨rfl, GX12 S⟩
theorem QY_cover {h : HP} {P : (Nat → Nat) × (Nat → Nat)} {x y : Int32} (R : RefOk h.2) (T : PlY h P) (GP : GoodP P) : wp (f_X7_cover 110 x y) h (OutY h (pl2 x y) (cvS P (ix x) (ix y))) := by
  unfold f_X7_cover
  refine gu_pp R fun e => ?_
  obtain ⟨a, b, ha, hb, rfl, rfl⟩ := pl2_ix e
  rw [ix_nI (by omega), ix_nI (by omega)]
  refine wp_bnd (wp_mono (X7_findWays (f := 0) R T GP ha (by omega)) fun _ h1 q => ?_)
  obtain ⟨D, S⟩ := q
  have SL := LvY.r129 S
  have R1 := SL.ref R
  have Db := D b hb
  rw [show bD P.1 (cY P 0) (sY P 0 a) 1000000000 a 7 b = x1k P a b from rfl, (x1k_eq GP ha hb).2] at Db
  have f := (x1k_eq GP ha hb).1
  have cap := x16_cap GP ha b
  have lcv : ∀ x, fin16 7 x → cvx x ≤ 1000000000 := fun x hx => by
    unfold fin16 at hx
    unfold cvx
    split <;> omega
  refine wp_eq (g110_28 R1) (wp_eq (a129 hb) ?_)
  rw [Db]
  refine wp_eq (b_div (y := 1000) (by have := lcv _ f; omega) (by omega) (by omega)) ?_
  by_cases c : x16 P a b = 1000000
  · have e9 : cvS P a b = -9 := by
      unfold cvS
      rw [cvF_inf GP ha hb c]
    rw [e9]
    refine ⟨_, h1, ?_, rfl, SL⟩
    refine lp_pure (s := fun _ => (nI (cvx (x16 P a b) / 1000), (-9 : Int32), nI 0)) 0 (nf_lt (by omega)) (fun i hi k => by omega) (fun k => ?_)
    try dsimp only
    rw [ifa, if_neg (show ¬ (8 : Int32) ≤ nI 0 by decide), g110_28 R1, a129 hb, Db, ifa, if_pos (show (1000000000 : Int32) ≤ nI (cvx (x16 P a b)) by rw [c]; decide)]
    rfl
  · obtain ⟨k1, k2, k3, k4⟩ := cvx_div f c
    rw [k3]
    refine wp_loop (fun i s h' => s = (nI (cvF P a b i).2, (cvF P a b i).1, nI i) ∧ (∃ z, z < 1000000000 ∧ h'.1 129 b = nI z) ∧ Same (fun a => a = 129) h h') 8 (nf_lt (by omega)) (fun i hi s h' q k K => ?_) (fun s h' k q => ?_) ⟨rfl, ⟨_, k2, Db⟩, S⟩
    · obtain ⟨rfl, ⟨z, z1, z2⟩, S⟩ := q
      have SL := LvY.r129 S
      have R1 := SL.ref R
      have T1 := T.lv SL
      have cl := cvF_le P a b i cap
      have GQ := cvP_good GP i
      rw [cvF_s] at K
      generalize cvF P a b i = s at cl K
      dsimp only
      rw [if_neg (show ¬ (8 : Int32) ≤ nI i from nI_ge (b := 8) hi (by omega)), nI_1]
      refine wp_eq (g110_28 R1) (wp_eq (a129 hb) ?_)
      rw [z2, if_neg (show ¬ (1000000000 : Int32) ≤ nI z from nI_ge (b := 1000000000) z1 (by omega))]
      refine wp_eq (g110_7 R1) (wp_eq (a118 hi) (wp_eq (g110_7 R1) (wp_eq (s118 hi) ?_)))
      have T' : PlY (setR h'.1 118 (upd (h'.1 118) i 0), h'.2) (cvP P i) := by
        refine ⟨fun j hj => ?_, fun j hj => ?_⟩
        · dsimp only
          rw [set_ne _ _ (by decide)]
          exact T1.1 j hj
        · dsimp only [cvP]
          rw [set_eq]
          by_cases c : j = i
          · subst c
            rw [upd_eq, if_pos rfl]
            rfl
          · rw [upd_ne _ _ c, if_neg c]
            exact T1.2 j hj
      refine wp_bnd (wp_mono (X7_findWays (f := 0) (by exact R1) T' GQ ha (by omega)) fun _ h2 q => ?_)
      obtain ⟨D2, S2⟩ := q
      have Db2 := D2 b hb
      rw [show bD (cvP P i).1 (cY (cvP P i) 0) (sY (cvP P i) 0 a) 1000000000 a 7 b = x1k (cvP P i) a b from rfl, (x1k_eq GQ ha hb).2] at Db2
      have f2 := (x1k_eq GQ ha hb).1
      have c2 : ¬ x16 (cvP P i) a b = 1000000 := fun q => c (x16_inf GQ GP rfl ha hb q)
      obtain ⟨m1, m2, m3, m4⟩ := cvx_div f2 c2
      have R2 : RefOk h2.2 := by rw [S2.1]; exact R1
      have cap2 := x16_cap GQ ha b
      refine wp_eq (g110_7 R2) (wp_eq (s118 hi) ?_)
      have Db3 : (setR h2.1 118 (upd (h2.1 118) i (h'.1 118 i)), h2.2).1 129 b = nI (cvx (x16 (cvP P i) a b)) := by
        dsimp only
        rw [set_ne _ _ (by decide)]
        exact Db2
      have S3 : Same (fun a => a = 129) h (setR h2.1 118 (upd (h2.1 118) i (h'.1 118 i)), h2.2) := by
        refine ⟨S2.1.trans S.1, fun q hq => ?_⟩
        dsimp only
        by_cases c : q = 118
        · subst c
          rw [set_eq, S2.2 118 (by omega)]
          dsimp only
          rw [set_eq, upd_upd, upd_self]
          exact S.2 118 (by omega)
        · rw [set_ne _ _ c, S2.2 q hq]
          dsimp only
          rw [set_ne _ _ c]
          exact S.2 q hq
      refine wp_eq (g110_28 (by exact R2)) (wp_eq (a129 hb) ?_)
      rw [Db3]
      refine wp_eq (b_div (y := 1000) (by omega) (by omega) (by omega)) ?_
      rw [m3]
      unfold cvG at K
      by_cases d : s.2 ≤ x16 (cvP P i) a b / 16
      · rw [if_neg (fun q => absurd ((nI_ltI (by omega) (by omega)).mp q) (by omega))]
        rw [if_pos d] at K
        exact K _ _ ⟨rfl, ⟨_, m2, Db3⟩, S3⟩
      · rw [if_pos ((nI_ltI (by omega) (by omega)).mpr (by omega))]
        rw [if_neg d] at K
        refine wp_eq (g110_28 (by exact R2)) (wp_eq (a129 hb) ?_)
        rw [Db3]
        refine wp_eq (b_div (y := 1000) (by omega) (by omega) (by omega)) ?_
        rw [m3]
        exact K _ _ ⟨rfl, ⟨_, m2, Db3⟩, S3⟩
    · obtain ⟨rfl, -, S⟩ := q
      dsimp only
      rw [if_pos (show (8 : Int32) ≤ nI 8 by decide)]
      exact wp_rt ⟨rfl, LvY.r129 S⟩
/-! middle -/
def fx (W : Nat → Nat) (v : Nat) : Nat := (fnd (fun j => rs W top 8 j (2 ^ v) = rs W top 8 8 (2 ^ v)) 7 0).getD 7
theorem fx_ok {W : Nat → Nat} (hW : ∀ k, k < 8 → W k < 2 ^ 8) {v : Nat} (hv : v < 8) : fx W v ≤ 7 ∧ rs W top 8 (fx W v) (2 ^ v) = rs W top 8 8 (2 ^ v) ∧ ∀ j, j < fx W v → ¬ rs W top 8 j (2 ^ v) = rs W top 8 8 (2 ^ v) := by
  have gr := grow_rs (M := top) (m := 8) (e := 8) (W := W) (s := 2 ^ v) (by omega) hW (pow_lt31 hv)
  have cl := gr.clo (N := 7) (by
    show 8 ≤ 7 + pop (2 ^ v) 8
    rw [pop_bit hv]
    omega)
  have e78 : rs W top 8 7 (2 ^ v) = rs W top 8 8 (2 ^ v) := Sub.eq (gr.1 7) (gr.2.2.1 _ (by have := gr.mono 0 7; rwa [Nat.zero_add] at this) cl 8)
  unfold fx
  cases e : fnd (fun j => rs W top 8 j (2 ^ v) = rs W top 8 8 (2 ^ v)) 7 0 with
  | none => exact ⟨Nat.le_refl _, e78, fun j hj => fnd_none e j (by omega) (by show j < 0 + 7; exact (show j < 7 from hj) |> fun h => by omega)⟩
  | some m =>
    obtain ⟨⟨m1, m2⟩, m3, m4⟩ := fnd_some e
    exact ⟨by show m ≤ 7; omega, m3, fun j hj => m4 j (by omega) hj⟩
theorem X2_farthest {h : HP} {r v : Nat} {W : Nat → Nat} (hs : SHF[r]? = some (1, 8)) (hr : ∀ k, k < 8 → h.1 r k = nI (W k)) (hW : ∀ k, k < 8 → W k < 2 ^ 8) (hv : v < 8) : f_X2_farthest r (nI v) h = some (nI (fx W v), h) := by
  have lp := pow_lt31 hv
  have l8 : ∀ d, rs W top 8 d (2 ^ v) < 2 ^ 8 := rs_lt lp
  unfold f_X2_farthest
  rw [nI_shl1 (by omega), e_bnd (X2_reach (m := 8) (M := top) hs (by omega) hr hW mask_m1 lp)]
  refine lp_fst (s := fun j => (nI (rs W top 8 j (2 ^ v)), nI j, nI (j + 1))) (fun j => rs W top 8 j (2 ^ v) = rs W top 8 8 (2 ^ v)) 0 7 (by omega) (fun j _ hj c k => ?_) (fun j _ hj c e k => ?_) (fun e k => ?_)
  · have l := l8 j
    have l' := l8 8
    have l2 := nxt_lt (W := W) (s := rs W top 8 j (2 ^ v)) (m := 8) (e := 8) hW
    dsimp only
    rw [e_bnd (e_len hs), ifa, if_neg (nI_ge (show j + 1 < 8 by omega) (by omega)), ifa, if_neg (fun q => c ((nI_eq (by omega) (by omega)).mp q)), e_bnd (X2_next hs (by omega) hr hW (by omega)), nI_or (by omega) (by omega), nI_1, rs_s, flt_top l2]
  · dsimp only
    rw [e_bnd (e_len hs), ifa, if_neg (nI_ge (show j + 1 < 8 by omega) (by omega)), ifa, if_pos (by rw [c])]
    unfold fx
    rw [e]
    rfl
  · dsimp only
    rw [e_bnd (e_len hs), ifa, if_pos (nI_le (by omega) (by omega))]
    unfold fx
    rw [e]
    rfl
def fyG (P : (Nat → Nat) × (Nat → Nat)) (v k b : Nat) : Nat := if d1 P v k = 1000000000 then b else if d1 P v k ≤ b then b else d1 P v k
theorem fy_spec (P : (Nat → Nat) × (Nat → Nat)) (v N : Nat) : (∀ k, k < N → ¬ d1 P v k = 1000000000 → d1 P v k ≤ fold (fyG P v) N 0) ∧ (fold (fyG P v) N 0 = 0 ∨ ∃ k, k < N ∧ ¬ d1 P v k = 1000000000 ∧ d1 P v k = fold (fyG P v) N 0) := by
  induction N with
  | zero => exact ⟨fun k hk => by omega, Or.inl rfl⟩
  | succ N ih =>
    rw [show fold (fyG P v) (N + 1) 0 = fyG P v N (fold (fyG P v) N 0) from rfl]
    generalize fold (fyG P v) N 0 = b at ih ⊢
    unfold fyG
    by_cases c : d1 P v N = 1000000000
    · rw [if_pos c]
      refine ⟨fun k hk h => ?_, ?_⟩
      · by_cases e : k = N
        · subst e
          exact absurd c h
        · exact ih.1 k (by omega) h
      · rcases ih.2 with h | ⟨k, k1, k2, k3⟩
        · exact Or.inl h
        · exact Or.inr ⟨k, by omega, k2, k3⟩
    · rw [if_neg c]
      by_cases d : d1 P v N ≤ b
      · rw [if_pos d]
        refine ⟨fun k hk h => ?_, ?_⟩
        · by_cases e : k = N
          · subst e
            exact d
          · exact ih.1 k (by omega) h
        · rcases ih.2 with h | ⟨k, k1, k2, k3⟩
          · exact Or.inl h
          · exact Or.inr ⟨k, by omega, k2, k3⟩
      · rw [if_neg d]
        refine ⟨fun k hk h => ?_, Or.inr ⟨N, by omega, c, rfl⟩⟩
        by_cases e : k = N
        · subst e
          exact Nat.le_refl _
        · have := ih.1 k (by omega) h
          omega
theorem fy_eq {P : (Nat → Nat) × (Nat → Nat)} (GP : GoodP P) {v : Nat} (hv : v < 8) : fold (fyG P v) 8 0 = fx P.1 v := by
  have hW : ∀ k, k < 8 → P.1 k < 2 ^ 8 := fun k hk => (GP k hk).1
  have gr := grow_rs (M := top) (m := 8) (e := 8) (W := P.1) (s := 2 ^ v) (by omega) hW (pow_lt31 hv)
  obtain ⟨x1, x2, x3⟩ := fx_ok hW hv
  obtain ⟨y1, y2⟩ := fy_spec P v 8
  have up : ∀ i j, i ≤ j → Sub (rs P.1 top 8 i (2 ^ v)) (rs P.1 top 8 j (2 ^ v)) := fun i j h => by
    have := gr.mono i (j - i)
    rwa [show i + (j - i) = j by omega] at this
  generalize fold (fyG P v) 8 0 = m at y1 y2 ⊢
  have ok := d1_ok GP hv
  have m7 : m ≤ 7 := by
    rcases y2 with h | ⟨k, k1, k2, k3⟩
    · omega
    · have := (ok k).2 (by have := d1_cap (P := P) (a := v) k; omega)
      omega
  refine Nat.le_antisymm ?_ ?_
  · rcases y2 with h | ⟨k, k1, k2, k3⟩
    · omega
    · have f := (ok k).2 (by have := d1_cap (P := P) (a := v) k; omega)
      have t := up (d1 P v k) 8 (by omega) k f.2
      rw [← x2] at t
      have := (ok k).1 (fx P.1 v) x1 t
      omega
  · refine Nat.not_lt.mp fun q => x3 m q (Sub.eq (up m 8 (by omega)) fun k hk => ?_)
    have t7 : tb (rs P.1 top 8 7 (2 ^ v)) k = true := by
      rw [← x2] at hk
      exact up _ 7 x1 k hk
    have l := (ok k).1 7 (Nat.le_refl _) t7
    have f := (ok k).2 (by omega)
    have := y1 k (tb_bit (rs_lt (pow_lt31 hv) 7) t7) (by omega)
    exact up _ m this k f.2
theorem X7_farthest {h : HP} {P : (Nat → Nat) × (Nat → Nat)} {v : Nat} (R : RefOk h.2) (T : PlY h P) (GP : GoodP P) (hv : v < 8) : wp (cv 6 110 (f_X7_farthest 110 (nI v))) h fun x h' => x = nI (fx P.1 v) ∧ LvY h h' := by
  show wp (f_X7_farthest 110 (nI v)) h _
  unfold f_X7_farthest
  refine wp_bnd (wp_mono (X7_findWays (f := 1) R T GP hv (by omega)) fun _ h1 q => ?_)
  obtain ⟨D, S⟩ := q
  have SL := LvY.r129 S
  have R1 := SL.ref R
  have D : RowD h1 129 (d1 P v) := D
  refine ⟨_, h1, ?_, rfl, SL⟩
  rw [← fy_eq GP hv]
  have lf : ∀ i, fold (fyG P v) i 0 ≤ 1000000000 := fun i => by
    rcases (fy_spec P v i).2 with h | ⟨k, -, -, k3⟩
    · omega
    · rw [← k3]
      exact d1_cap k
  refine lp_pure (s := fun i => (nI (fold (fyG P v) i 0), nI i)) 8 (nf_lt (by omega)) (fun i hi k => ?_) (fun k => ?_)
  · have l := lf i
    have cap := d1_cap (P := P) (a := v) i
    rw [show fold (fyG P v) (i + 1) 0 = fyG P v i (fold (fyG P v) i 0) from rfl]
    generalize fold (fyG P v) i 0 = b at l ⊢
    dsimp only
    rw [ifa, if_neg (show ¬ (8 : Int32) ≤ nI i from nI_ge (b := 8) hi (by omega)), g110_28 R1, a129 hi, D i hi, ifa, nI_1]
    unfold fyG
    by_cases c : d1 P v i = 1000000000
    · rw [if_pos (show (1000000000 : Int32) ≤ nI (d1 P v i) by rw [c]; decide), if_pos c]
    · rw [if_neg (show ¬ (1000000000 : Int32) ≤ nI (d1 P v i) from nI_ge (b := 1000000000) (by omega) (by omega)), if_neg c, g110_28 R1, a129 hi, D i hi, ifa]
      by_cases d : d1 P v i ≤ b
      · rw [if_pos ((nI_leI (by omega) (by omega)).mpr d), if_pos d]
      · rw [if_neg (fun q => d ((nI_leI (by omega) (by omega)).mp q)), if_neg d, g110_28 R1, a129 hi, D i hi]
  · dsimp only
    rw [ifa, if_pos (show (8 : Int32) ≤ nI 8 by decide)]
    rfl
def me (P : (Nat → Nat) × (Nat → Nat)) (a v : Nat) : Nat := if tb (rs P.1 top 8 8 (2 ^ a)) v = true then fx P.1 v else 8
def mdG (P : (Nat → Nat) × (Nat → Nat)) (a v : Nat) (s : Int32 × Nat) : Int32 × Nat := if s.2 ≤ me P a v then s else (nI v, me P a v)
def mdF (P : (Nat → Nat) × (Nat → Nat)) (a i : Nat) : Int32 × Nat := fold (mdG P a) i (-9, 8)
theorem mdF_s (P : (Nat → Nat) × (Nat → Nat)) (a i : Nat) : mdF P a (i + 1) = mdG P a i (mdF P a i) := rfl
def mdS (P : (Nat → Nat) × (Nat → Nat)) (a : Nat) (w : Int32) : Int32 := if w = 0 then (mdF P a 8).1 else nI (mdF P a 8).2
theorem md_spec (P : (Nat → Nat) × (Nat → Nat)) (a i : Nat) : (mdF P a i = (-9, 8) ∧ ∀ v, v < i → 8 ≤ me P a v) ∨ ∃ v, v < i ∧ mdF P a i = (nI v, me P a v) ∧ me P a v < 8 ∧ (∀ u, u < i → me P a v ≤ me P a u) ∧ ∀ u, u < v → me P a v < me P a u := by
  induction i with
  | zero => exact Or.inl ⟨rfl, fun v hv => by omega⟩
  | succ i ih =>
    rw [mdF_s]
    unfold mdG
    rcases ih with ⟨h1, h2⟩ | ⟨v, v1, v2, v3, v4, v5⟩
    · rw [h1]
      dsimp only
      by_cases c : 8 ≤ me P a i
      · rw [if_pos c]
        refine Or.inl ⟨rfl, fun v hv => ?_⟩
        by_cases e : v = i
        · rw [e]
          exact c
        · exact h2 v (by omega)
      · rw [if_neg c]
        refine Or.inr ⟨i, by omega, rfl, by omega, fun u hu => ?_, fun u hu => ?_⟩
        · by_cases e : u = i
          · rw [e]
            exact Nat.le_refl _
          · have := h2 u (by omega)
            omega
        · have := h2 u hu
          omega
    · rw [v2]
      dsimp only
      by_cases c : me P a v ≤ me P a i
      · rw [if_pos c]
        refine Or.inr ⟨v, by omega, rfl, v3, fun u hu => ?_, v5⟩
        by_cases e : u = i
        · rw [e]
          exact c
        · exact v4 u (by omega)
      · rw [if_neg c]
        refine Or.inr ⟨i, by omega, rfl, by omega, fun u hu => ?_, fun u hu => ?_⟩
        · by_cases e : u = i
          · rw [e]
            exact Nat.le_refl _
          · have := v4 u (by omega)
            omega
        · have := v4 u hu
          omega
theorem me_le {P : (Nat → Nat) × (Nat → Nat)} (GP : GoodP P) {a v : Nat} (hv : v < 8) : me P a v ≤ 8 := by
  have := (fx_ok (fun k hk => (GP k hk).1) hv).1
  unfold me
  split <;> omega
theorem mdF_le (P : (Nat → Nat) × (Nat → Nat)) (a i : Nat) : (mdF P a i).2 ≤ 8 := by
  rcases md_spec P a i with ⟨h1, -⟩ | ⟨v, -, v2, v3, -⟩
  · rw [h1]
    exact Nat.le_refl 8
  · rw [v2]
    dsimp only
    omega
theorem QX_middle {h : HP} {P : (Nat → Nat) × (Nat → Nat)} {x w : Int32} (R : RefOk h.2) (T : PlX h P) (GP : GoodP P) : wp (f_X6_middle 0 x w) h (OutX h (fs (pl x) (nc 2 w)) (mdS P (ix x) w)) := by
  unfold f_X6_middle
  refine wp_call X6_noPlace (wp_call (X6_noChoice (m := 2)) (wp_call X6_first (gX R (fs_no pl_no nc_no) fun e => ?_)))
  obtain ⟨a, ha, rfl⟩ := pl_ix (fs_z e).1
  have lp := pow_lt31 ha
  have hW : ∀ k, k < 8 → P.1 k < 2 ^ 8 := fun k hk => (GP k hk).1
  have lr : rs P.1 top 8 8 (2 ^ a) < 2 ^ 8 := rs_lt lp 8
  rw [ix_nI (by omega), nI_shl1 (by omega)]
  refine wp_eq (x_gr1 R) (wp_eq (g9_0 R) (wp_call (X2_reach (m := 8) (M := top) rfl (by omega) T.1 hW mask_255' lp) ?_))
  refine ⟨_, h, ?_, rfl, Same.rfl'⟩
  refine lp_pure (s := fun i => ((mdF P a i).1, nI (mdF P a i).2, nI i)) 8 (nf_lt (by omega)) (fun i hi k => ?_) (fun k => ?_)
  · have l := mdF_le P a i
    have l2 := me_le GP (a := a) hi
    rw [mdF_s]
    generalize mdF P a i = s at l ⊢
    have GO : ∀ y : Int32, y = nI (me P a i) → (if nI s.2 ≤ y then k (s.1, nI s.2, nI (i + 1)) h else k (nI i, y, nI (i + 1)) h) = k ((mdG P a i s).1, nI (mdG P a i s).2, nI (i + 1)) h := fun y hy => by
      subst hy
      unfold mdG
      by_cases c : s.2 ≤ me P a i
      · rw [if_pos ((nI_leI (by omega) (by omega)).mpr c), if_pos c]
      · rw [if_neg (fun q => c ((nI_leI (by omega) (by omega)).mp q)), if_neg c]
    unfold jn
    dsimp only
    rw [ifa, if_neg (show ¬ (8 : Int32) ≤ nI i from nI_ge (b := 8) hi (by omega)), e_bnd (X6_holds (by omega) (by omega)), tb_if, nI_1, ifa]
    by_cases c : tb (rs P.1 top 8 8 (2 ^ a)) i = true
    · rw [if_pos c, e_bnd (X2_farthest rfl T.1 hW hi), ifa]
      refine GO _ ?_
      unfold me
      rw [if_pos c]
    · rw [if_neg c, ifa]
      refine GO _ ?_
      unfold me
      rw [if_neg c]
      rfl
  · dsimp only
    rw [ifa, if_pos (show (8 : Int32) ≤ nI 8 by decide), ifa]
    unfold mdS
    by_cases c : w = 0
    · rw [if_neg (fun q => q c), if_pos c]
      rfl
    · rw [if_pos c, if_neg c]
      rfl
def mB (P : (Nat → Nat) × (Nat → Nat)) (a : Nat) : Nat → Nat
  | 0 => a
  | i + 1 => if tb (rs P.1 top 8 8 (2 ^ a)) (7 - i) = true then if fx P.1 (mB P a i) < fx P.1 (7 - i) then mB P a i else 7 - i else mB P a i
theorem mB_s (P : (Nat → Nat) × (Nat → Nat)) (a i : Nat) : mB P a (i + 1) = if tb (rs P.1 top 8 8 (2 ^ a)) (7 - i) = true then if fx P.1 (mB P a i) < fx P.1 (7 - i) then mB P a i else 7 - i else mB P a i := rfl
theorem mB_ok {P : (Nat → Nat) × (Nat → Nat)} (GP : GoodP P) {a : Nat} (ha : a < 8) (i : Nat) (hi : i ≤ 8) : mB P a i < 8 ∧ tb (rs P.1 top 8 8 (2 ^ a)) (mB P a i) = true ∧ ∀ v, v < 8 → tb (rs P.1 top 8 8 (2 ^ a)) v = true → 8 ≤ v + i → fx P.1 (mB P a i) ≤ fx P.1 v ∧ (v < mB P a i → fx P.1 (mB P a i) < fx P.1 v) := by
  have gr := grow_rs (M := top) (m := 8) (e := 8) (W := P.1) (s := 2 ^ a) (by omega) (fun k hk => (GP k hk).1) (pow_lt31 ha)
  induction i with
  | zero =>
    refine ⟨ha, ?_, fun v hv _ h => by omega⟩
    have := gr.mono 0 8 a (by show tb (2 ^ a) a = true; rw [tb_pow]; simp)
    rwa [Nat.zero_add] at this
  | succ i ih =>
    obtain ⟨h1, h2, h3⟩ := ih (by omega)
    rw [mB_s]
    by_cases c : tb (rs P.1 top 8 8 (2 ^ a)) (7 - i) = true
    · rw [if_pos c]
      by_cases d : fx P.1 (mB P a i) < fx P.1 (7 - i)
      · rw [if_pos d]
        refine ⟨h1, h2, fun v hv hr hle => ?_⟩
        by_cases e : v = 7 - i
        · subst e
          exact ⟨by omega, fun _ => d⟩
        · exact h3 v hv hr (by omega)
      · rw [if_neg d]
        refine ⟨by omega, c, fun v hv hr hle => ?_⟩
        by_cases e : v = 7 - i
        · subst e
          exact ⟨Nat.le_refl _, fun q => absurd q (Nat.lt_irrefl _)⟩
        · have := h3 v hv hr (by omega)
          exact ⟨by omega, fun q => by omega⟩
    · rw [if_neg c]
      refine ⟨h1, h2, fun v hv hr hle => ?_⟩
      by_cases e : v = 7 - i
      · subst e
        exact absurd hr c
      · exact h3 v hv hr (by omega)
theorem md_eq {P : (Nat → Nat) × (Nat → Nat)} (GP : GoodP P) {a : Nat} (ha : a < 8) : mdF P a 8 = (nI (mB P a 8), fx P.1 (mB P a 8)) := by
  obtain ⟨b1, b2, b3⟩ := mB_ok GP ha 8 (Nat.le_refl _)
  have eb : me P a (mB P a 8) = fx P.1 (mB P a 8) := if_pos b2
  have fb := (fx_ok (fun k hk => (GP k hk).1) b1).1
  rcases md_spec P a 8 with ⟨-, h2⟩ | ⟨v, v1, v2, v3, v4, v5⟩
  · have := h2 _ b1
    omega
  · have vr : tb (rs P.1 top 8 8 (2 ^ a)) v = true := by
      unfold me at v3
      by_cases c : tb (rs P.1 top 8 8 (2 ^ a)) v = true
      · exact c
      · rw [if_neg c] at v3
        omega
    have ev : me P a v = fx P.1 v := if_pos vr
    have q1 := b3 v v1 vr (by omega)
    have q2 := v4 _ b1
    have e : v = mB P a 8 := by
      rcases Nat.lt_trichotomy v (mB P a 8) with h | h | h
      · have := q1.2 h
        omega
      · exact h
      · have := v5 _ h
        omega
    rw [v2, ev, e]
theorem QY_middle {h : HP} {P : (Nat → Nat) × (Nat → Nat)} {x w : Int32} (R : RefOk h.2) (T : PlY h P) (GP : GoodP P) : wp (f_X7_middle 110 x w) h (OutY h (fs (pl x) (nc 2 w)) (mdS P (ix x) w)) := by
  unfold f_X7_middle
  refine gu_pli (gY R (fs_no pl_no nc_no) fun e => ?_)
  obtain ⟨a, ha, rfl⟩ := pl_ix (fs_z e).1
  rw [ix_nI (by omega)]
  refine wp_loop (fun i s h' => s = (nI (mB P a i), dm 8 i) ∧ LvY h h') 8 (nf_lt (by omega)) (fun i hi s h' q k K => ?_) (fun s h' k q => ?_) ⟨rfl, LvY.rf⟩
  · obtain ⟨rfl, S⟩ := q
    obtain ⟨b1, -, -⟩ := mB_ok GP ha i (by omega)
    have R1 := S.ref R
    have T1 := T.lv S
    rw [← dm_s hi, dm_at hi, mB_s] at K
    rw [dm_at hi, show 8 - 1 - i = 7 - i by omega] at *
    dsimp only
    rw [if_neg (nI_pos (by omega))]
    refine wp_call (X7_isWay0 R1 T1 GP ha (show 7 - i < 8 by omega)) ?_
    rw [tb_if]
    by_cases c : tb (rs P.1 top 8 8 (2 ^ a)) (7 - i) = true
    · rw [if_pos c]
      rw [if_pos c] at K
      refine wp_bnd (wp_mono (X7_farthest R1 T1 GP (show 7 - i < 8 by omega)) fun v h2 q => ?_)
      obtain ⟨rfl, S2⟩ := q
      refine wp_bnd (wp_mono (X7_farthest (S2.ref R1) (T1.lv S2) GP b1) fun v h3 q => ?_)
      obtain ⟨rfl, S3⟩ := q
      have S4 := (S.tr S2).tr S3
      have f1 := (fx_ok (fun k hk => (GP k hk).1) b1).1
      have f2 := (fx_ok (fun k hk => (GP k hk).1) (show 7 - i < 8 by omega)).1
      by_cases d : fx P.1 (mB P a i) < fx P.1 (7 - i)
      · rw [if_pos ((nI_ltI (by omega) (by omega)).mpr d)]
        rw [if_pos d] at K
        exact K _ _ ⟨rfl, S4⟩
      · rw [if_neg (fun q => d ((nI_ltI (by omega) (by omega)).mp q))]
        rw [if_neg d] at K
        exact K _ _ ⟨rfl, S4⟩
    · rw [if_neg c]
      rw [if_neg c] at K
      exact K _ _ ⟨rfl, S⟩
  · obtain ⟨rfl, S⟩ := q
    obtain ⟨b1, -, -⟩ := mB_ok GP ha 8 (by omega)
    dsimp only
    rw [dm_end, if_pos (by decide)]
    unfold mdS
    rw [md_eq GP ha]
    by_cases c : w = 0
    · rw [if_neg (fun q => q c), if_pos c]
      exact wp_rt ⟨rfl, S⟩
    · rw [if_pos c, if_neg c]
      refine wp_bnd (wp_mono (X7_farthest (S.ref R) (T.lv S) GP b1) fun v h2 q => ?_)
      exact wp_rt ⟨q.1, S.tr q.2⟩
