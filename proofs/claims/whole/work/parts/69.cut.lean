/-! CHAIN, CUT -/
def di (W : Nat → Nat) (m a b : Nat) : Int32 := match fnd (fun d => tb (rs W top m d (2 ^ a)) b = true) m 0 with
  | none => -9
  | some d => nI d
theorem X2_distance {h : HP} {r m a b : Nat} {W : Nat → Nat} (hs : SHF[r]? = some (1, m)) (hm : m ≤ 8) (hr : ∀ k, k < m → h.1 r k = nI (W k)) (hW : ∀ k, k < m → W k < 2 ^ 8) (ha : a < 8) (hb : b < 8) : f_X2_distance r (nI a) (nI b) h = some (di W m a b, h) := by
  have lp := pow_lt31 ha
  have l8 : ∀ d, rs W top m d (2 ^ a) < 2 ^ 8 := rs_lt lp
  unfold f_X2_distance
  rw [nI_shl1 (by omega)]
  refine lp_fst (s := fun i => (nI (rs W top m i (2 ^ a)), nI i)) (fun d => tb (rs W top m d (2 ^ a)) b = true) 0 m (by omega) (fun i _ hi c k => ?_) (fun i _ hi c e k => ?_) (fun e k => ?_)
  · have l := l8 i
    have l2 := nxt_lt (W := W) (s := rs W top m i (2 ^ a)) (m := m) (e := 8) hW
    dsimp only
    rw [e_bnd (e_len hs), ifa, if_neg (nI_ge (show i < m by omega) (by omega)), e_bnd (X6_holds (by omega) (by omega)), tb_if, if_neg c, e_bnd (X2_next hs hm hr hW (by omega)), nI_or (by omega) (by omega), nI_1, rs_s, flt_top l2]
  · have l := l8 i
    dsimp only
    rw [e_bnd (e_len hs), ifa, if_neg (nI_ge (show i < m by omega) (by omega)), e_bnd (X6_holds (by omega) (by omega)), tb_if, if_pos c]
    unfold di
    rw [e]
    rfl
  · dsimp only
    rw [e_bnd (e_len hs), ifa, if_pos (nI_le (by omega) (by omega))]
    unfold di
    rw [e]
    rfl
/-- one round of the reference: who is asked by those of a set -/
theorem y_round {β : Type} {h : HP} {n t : Nat} {W : Nat → Nat} {K : Int32 → M β} {z : Option (β × HP)} (R : RefOk h.2) (e8 : h.1 110 8 = nI n) (hn : n ≤ 7) (hr : ∀ k, k < 7 → h.1 116 k = nI (W k)) (hW : ∀ k, k < 7 → W k < 2 ^ n) (ht : t < 2 ^ n) (H : K (nI (nxt W t n)) h = z) : loopK NF (fun (s5 : Int32 × Int32) k6 => bnd (gI 6 8 110) fun t7 => if t7 ≤ s5.2 then K s5.1 else bnd (f_X7_has (nI t) s5.2) fun t10 => if t10 = (0 : Int32) then k6 ((s5.1 ||| (0 : Int32)), (s5.2 + (1 : Int32))) else bnd (gR 6 5 110) fun r12 => bnd (aI r12 s5.2) fun t13 => k6 ((s5.1 ||| t13), (s5.2 + (1 : Int32)))) ((0 : Int32), (0 : Int32)) h = z := by
  have h7 := pow_le7 hn
  refine lp_pure (s := fun j => (nI (nxt W t j), nI j)) n (nf_lt (by omega)) (fun j hj k2 => ?_) (fun k2 => ?_)
  · have l := nxt_lt (W := W) (s := t) (m := j) (e := n) fun i hi => hW i (by omega)
    have l3 := hW j (by omega)
    dsimp only
    rw [g110_8, e8, ifa, if_neg (nI_ge hj (by omega)), e_bnd (X7_has (by omega) (by omega)), tb_if, or0, nI_1, nxt_s]
    unfold nxtG
    by_cases c : tb t j = true
    · rw [if_pos c, if_pos c, g110_5 R, a116 (by omega), hr j (by omega), nI_or (by omega) (by omega)]
    · rw [if_neg c, if_neg c]
  · dsimp only
    rw [g110_8, e8, ifa, if_pos (nI_le (Nat.le_refl _) (by omega))]
    exact H
def no' (w v : Nat) : Bool := !tb w v
theorem no_top : no' 0 = top := by
  funext v
  show (!tb 0 v) = true
  rw [tb_zero]
  rfl
def dj (W : Nat → Nat) (w n a b : Nat) : Int32 := match fnd (fun d => tb (rs W (no' w) n d (2 ^ a)) b = true) 7 1 with
  | none => -9
  | some d => nI d
theorem X7_chainOf {h : HP} {a b w : Nat} {A : AV} (R : RefOk h.2) (F : ModIs h A) (G : GoodA A) (ha : a < A.2.1) (hb : b < A.2.1) (hw : w < 2 ^ 8) : cv 6 110 (f_X7_chainOf 110 (nI a) (nI b) (nI w)) h = some (dj (A.1 4) w A.2.1 a b, h) := by
  have hn := G.1.1
  have h7 := pow_le7 hn
  have hW : ∀ i, i < 7 → A.1 4 i < 2 ^ A.2.1 := fun i hi => (G.2 i hi).2.2.2.2
  have lp := pow_lt31 ha
  have l8 : ∀ d, rs (A.1 4) (no' w) A.2.1 d (2 ^ a) < 2 ^ A.2.1 := rs_ltm (by omega) (fun i hi => hW i (by omega)) lp
  have hM := mask_wo (y := w) (by omega)
  show f_X7_chainOf 110 (nI a) (nI b) (nI w) h = _
  unfold f_X7_chainOf
  rw [nI_shl1 (by omega)]
  have ST : ∀ (i : Nat) (k : Int32 × Int32 → M Int32) (z : Option (Int32 × HP)), 1 ≤ i → i < 8 → (if tb (rs (A.1 4) (no' w) A.2.1 i (2 ^ a)) b = true then some (nI i, h) else k (nI (rs (A.1 4) (no' w) A.2.1 i (2 ^ a)), nI (i + 1)) h) = z → (if (7 : Int32) < nI i then rt (-9 : Int32) else loopK NF (fun (s5 : Int32 × Int32) k6 => bnd (gI 6 8 110) fun t7 => if t7 ≤ s5.2 then bnd (f_X7_has (nI (rs (A.1 4) (no' w) A.2.1 (i - 1) (2 ^ a)) ||| (s5.1 &&& (nI w ^^^ (-1 : Int32)))) (nI b)) fun t8 => if t8 = (0 : Int32) then k ((nI (rs (A.1 4) (no' w) A.2.1 (i - 1) (2 ^ a)) ||| (s5.1 &&& (nI w ^^^ (-1 : Int32)))), (nI i + (1 : Int32))) else rt (nI i) else bnd (f_X7_has (nI (rs (A.1 4) (no' w) A.2.1 (i - 1) (2 ^ a))) s5.2) fun t10 => if t10 = (0 : Int32) then k6 ((s5.1 ||| (0 : Int32)), (s5.2 + (1 : Int32))) else bnd (gR 6 5 110) fun r12 => bnd (aI r12 s5.2) fun t13 => k6 ((s5.1 ||| t13), (s5.2 + (1 : Int32)))) ((0 : Int32), (0 : Int32))) h = z := fun i k z h1 h2 H => by
    have e := rs_s (A.1 4) (no' w) A.2.1 (i - 1) (2 ^ a)
    rw [show i - 1 + 1 = i by omega] at e
    have l := l8 (i - 1)
    have l9 := l8 i
    rw [ifa, if_neg (show ¬ (7 : Int32) < nI i from fun q => absurd ((nI_ltI (a := 7) (by omega) (by omega)).mp q) (by omega))]
    have l2 := nxt_lt (W := A.1 4) (s := rs (A.1 4) (no' w) A.2.1 (i - 1) (2 ^ a)) (m := A.2.1) (e := A.2.1) fun i hi => hW i (by omega)
    have l3 := flt_lt (no' w) (nxt (A.1 4) (rs (A.1 4) (no' w) A.2.1 (i - 1) (2 ^ a)) A.2.1)
    refine y_round (K := fun x => bnd (f_X7_has (nI (rs (A.1 4) (no' w) A.2.1 (i - 1) (2 ^ a)) ||| (x &&& (nI w ^^^ (-1 : Int32)))) (nI b)) fun t8 => if t8 = (0 : Int32) then k ((nI (rs (A.1 4) (no' w) A.2.1 (i - 1) (2 ^ a)) ||| (x &&& (nI w ^^^ (-1 : Int32)))), (nI i + (1 : Int32))) else rt (nI i)) R F.1.1 hn F.2.2.2.2.2 hW l ?_
    try dsimp only
    rw [hM _ (by omega), show flt (fun v => !tb w v) = flt (no' w) from rfl, nI_or (by omega) (by omega), ← e, e_bnd (X7_has (by omega) (by omega)), ifa, one_if, nI_1]
    exact H
  refine lp_fst (s := fun i => (nI (rs (A.1 4) (no' w) A.2.1 (i - 1) (2 ^ a)), nI i)) (fun d => tb (rs (A.1 4) (no' w) A.2.1 d (2 ^ a)) b = true) 1 7 (by omega) (fun i h1 hi c k => ?_) (fun i h1 hi c e k => ?_) (fun e k => ?_)
  · refine ST i k _ h1 (by omega) ?_
    rw [if_neg c]
    rfl
  · refine ST i k _ h1 (by omega) ?_
    rw [if_pos c]
    unfold dj
    rw [e]
  · dsimp only
    rw [ifa, if_pos (show (7 : Int32) < nI (1 + 7) by decide)]
    unfold dj
    rw [e]
    rfl
theorem ch_eq {A : AV} {a b : Nat} (G : GoodA A) (ha : a < A.2.1) (hb : b < A.2.1) (hab : ¬ a = b) : dj (A.1 4) 0 A.2.1 a b = di (A.1 4) 7 a b := by
  have hn := G.1.1
  have hW : ∀ i, i < 7 → A.1 4 i < 2 ^ A.2.1 := fun i hi => (G.2 i hi).2.2.2.2
  have lp := pow_lt31 ha
  have gr := grow_rs (M := top) (m := A.2.1) (e := A.2.1) (W := A.1 4) (s := 2 ^ a) (show A.2.1 ≤ 8 by omega) (fun i hi => hW i (by omega)) lp
  have e0 : tb (2 ^ a) b = false := by
    rw [tb_pow]
    simp [hab]
  unfold dj di
  rw [no_top]
  have ec : ∀ d, rs (A.1 4) top 7 d (2 ^ a) = rs (A.1 4) top A.2.1 d (2 ^ a) := fun d => rs_cut (by omega) hn hW lp d
  simp only [ec]
  have cl := gr.clo (N := 6) (by
    show A.2.1 ≤ 6 + pop (2 ^ a) A.2.1
    rw [pop_bit ha]
    omega)
  have e7 : rs (A.1 4) top A.2.1 7 (2 ^ a) = rs (A.1 4) top A.2.1 6 (2 ^ a) := Sub.eq (gr.2.2.1 _ (gr.mono 0 6) cl 7) (gr.1 6)
  have E1 : fnd (fun d => tb (rs (A.1 4) top A.2.1 d (2 ^ a)) b = true) 7 0 = fnd (fun d => tb (rs (A.1 4) top A.2.1 d (2 ^ a)) b = true) 6 1 := by
    show (if tb (2 ^ a) b = true then _ else _) = _
    rw [if_neg (by rw [e0]; decide)]
  rw [E1]
  cases f : fnd (fun d => tb (rs (A.1 4) top A.2.1 d (2 ^ a)) b = true) 6 1 with
  | some m =>
    obtain ⟨⟨m1, m2⟩, m3, m4⟩ := fnd_some f
    rw [fnd_at (i := m) m1 (by omega) m3 m4]
  | none =>
    have := fnd_none f
    rw [fnd_all (fun j h1 h2 q => ?_)]
    by_cases c : j = 7
    · subst c
      rw [e7] at q
      exact this 6 (by omega) (by omega) q
    · exact this j h1 (by omega) q
def cnS (A : AV) (a b : Nat) : Int32 := di (A.1 4) 7 a b
theorem QX_chain {h : HP} {A : AV} {x y : Int32} (R : RefOk h.2) (F : FolkIs h 2 A) (G : GoodA A) : wp (f_X6_chain 0 x y) h (OutX h (n2p A.2.1 x y) (cnS A (ix x) (ix y))) := by
  have hn := G.1.1
  have h7 := pow_le7 hn
  have B := FB.of R (b := 2) (by decide)
  unfold f_X6_chain
  refine wp_call (noT R F.1.1) (gX R n2p_no fun e => ?_)
  obtain ⟨a, b, ha, hb, rfl, rfl, hab⟩ := n2p_ix e (by omega)
  rw [ix_nI (by omega), ix_nI (by omega)]
  exact wp_eq (x_gr0 R) (wp_eq (bR7 B) (wp_call (X2_distance (m := 7) (B.1.2 4 (by omega)) (by omega) F.2.2.2.2.2 (fun k hk => by have := (G.2 k hk).2.2.2.2; omega) (by omega) (by omega)) (wp_rt ⟨rfl, Same.rfl'⟩)))
theorem n2p_c {n : Nat} {x y : Int32} (c : ¬ n2p n x y = 0) : (pn n x && pn n y && decide (¬ x = y)) = false ∧ n2p n x y = -1 := by
  unfold n2p at c ⊢
  cases z : (pn n x && pn n y && decide (¬ x = y))
  · exact ⟨rfl, rfl⟩
  · rw [z] at c
    exact absurd rfl c
theorem n2p_t {n : Nat} {x y : Int32} (c : n2p n x y = 0) : (pn n x && pn n y && decide (¬ x = y)) = true := by
  unfold n2p at c
  cases z : (pn n x && pn n y && decide (¬ x = y))
  · rw [z] at c
    exact absurd c (by decide)
  · rfl
theorem gu_q2 {h : HP} {n : Nat} {x y am : Int32} {B : M Int32} (R : RefOk h.2) (e : h.1 110 8 = nI n) (H : n2p n x y = 0 → wp B h fun v h' => v = am ∧ LvY h h') : wp (bnd (cv 6 110 (f_X7_areTwo 110 x y)) fun t1 => if t1 = (0 : Int32) then bnd (cv 6 110 (f_X7_no 110 (-1 : Int32))) fun t => rt t else B) h (OutY h (n2p n x y) am) := by
  refine wp_call (X7_areTwo e) ?_
  rw [tb_if]
  by_cases c : n2p n x y = 0
  · rw [n2p_t c, c]
    simp only [if_true]
    exact wp_mono (H c) fun v h' q => oky q.1 q.2
  · rw [(n2p_c c).1, (n2p_c c).2]
    simp only [Bool.false_eq_true, if_false]
    exact yno R (Or.inl rfl)
theorem gu_r2 {h : HP} {n : Nat} {x y am : Int32} {B : M Int32} (R : RefOk h.2) (e : h.1 110 8 = nI n) (H : n2p n x y = 0 → wp B h fun v h' => v = am ∧ LvY h h') : wp (bnd (cv 6 110 (f_X7_areTwo 110 x y)) fun t1 => if ¬ t1 = (0 : Int32) then B else bnd (cv 6 110 (f_X7_no 110 (-1 : Int32))) fun t => rt t) h (OutY h (n2p n x y) am) := by
  refine wp_call (X7_areTwo e) ?_
  rw [tb_ifn]
  by_cases c : n2p n x y = 0
  · rw [n2p_t c, c]
    simp only [if_true]
    exact wp_mono (H c) fun v h' q => oky q.1 q.2
  · rw [(n2p_c c).1, (n2p_c c).2]
    simp only [Bool.false_eq_true, if_false]
    exact yno R (Or.inl rfl)
theorem QY_chain {h : HP} {A : AV} {x y : Int32} (R : RefOk h.2) (F : ModIs h A) (G : GoodA A) : wp (f_X7_chain 110 x y) h (OutY h (n2p A.2.1 x y) (cnS A (ix x) (ix y))) := by
  have hn := G.1.1
  unfold f_X7_chain
  refine gu_q2 R F.1.1 fun e => ?_
  obtain ⟨a, b, ha, hb, rfl, rfl, hab⟩ := n2p_ix e (by omega)
  rw [ix_nI (by omega), ix_nI (by omega)]
  refine wp_call (X7_chainOf (w := 0) R F G ha hb (by omega)) (wp_rt ⟨?_, LvY.rf⟩)
  exact ch_eq G ha hb hab
/-! cut -/
def cuP (A : AV) (a b s : Nat) : Bool := !tb s a && (!tb s b && !tb (rs (A.1 4) (no' s) A.2.1 7 (2 ^ a)) b)
def cuG (A : AV) (a b s : Nat) (t : Option Nat) : Option Nat := if cuP A a b s = true then match t with
  | none => some s
  | some u => if pop s 8 < pop u 8 then some s else some u
  else t
def cuB (A : AV) (a b i : Nat) : Option Nat := fold (cuG A a b) i none
theorem cuB_s (A : AV) (a b i : Nat) : cuB A a b (i + 1) = cuG A a b i (cuB A a b i) := rfl
theorem cuB_lt {A : AV} {a b i u : Nat} (h : cuB A a b i = some u) : u < i := by
  induction i generalizing u with
  | zero => cases h
  | succ i ih =>
    rw [cuB_s] at h
    unfold cuG at h
    by_cases c : cuP A a b i = true
    · rw [if_pos c] at h
      cases e : cuB A a b i with
      | none =>
        rw [e] at h
        cases h
        omega
      | some w =>
        rw [e] at h
        dsimp only at h
        have := ih e
        by_cases d : pop i 8 < pop w 8
        · rw [if_pos d] at h
          cases h
          omega
        · rw [if_neg d] at h
          cases h
          omega
    · rw [if_neg c] at h
      have := ih h
      omega
def cuS (A : AV) (a b : Nat) : Int32 := bo (cuB A a b (2 ^ A.2.1))
theorem cu_no {A : AV} {a b : Nat} (G : GoodA A) (ha : a < A.2.1) (h : tb (A.1 4 a) b = true) (i : Nat) (hi : i ≤ 2 ^ A.2.1) : cuB A a b i = none := by
  have hn := G.1.1
  induction i with
  | zero => rfl
  | succ i ih =>
    rw [cuB_s, ih (by omega)]
    refine if_neg fun q => ?_
    unfold cuP at q
    rw [Bool.and_eq_true, Bool.and_eq_true] at q
    have gr := grow_rs (M := no' i) (m := A.2.1) (e := A.2.1) (W := A.1 4) (s := 2 ^ a) (by omega) (fun i hi => (G.2 i (by omega)).2.2.2.2) (pow_lt31 ha)
    have e1 := gr.2.1 0 a b (by show tb (2 ^ a) a = true; rw [tb_pow]; simp) ⟨ha, h, q.2.1⟩
    have e2 : tb (rs (A.1 4) (no' i) A.2.1 (1 + 6) (2 ^ a)) b = true := gr.mono 1 6 b e1
    rw [e2] at q
    cases q.2.2
def cum (A : AV) (a b : Nat) : Nat := wo (ot A.2.1 a) (2 ^ b)
theorem cum_lt (A : AV) (a b : Nat) : cum A a b < 2 ^ A.2.1 := wo_lt (ot_lt _ _)
theorem cum_in {A : AV} {a b s : Nat} (hs : s < 2 ^ A.2.1) : wo s (cum A a b) = 0 ↔ tb s a = false ∧ tb s b = false := by
  rw [wo_zero]
  constructor
  · intro H
    have : ∀ k, tb s k = true → ¬ a = k ∧ ¬ b = k := fun k hk => by
      have := H k hk
      unfold cum at this
      rw [tb_wo, tb_ot, tb_pow] at this
      simp at this
      exact ⟨this.1.2, this.2⟩
    refine ⟨?_, ?_⟩
    · cases z : tb s a
      · rfl
      · exact absurd rfl (this a z).1
    · cases z : tb s b
      · rfl
      · exact absurd rfl (this b z).2
  · intro H k hk
    unfold cum
    rw [tb_wo, tb_ot, tb_pow]
    have k1 := tb_bit hs hk
    have k2 : ¬ a = k := fun q => by rw [q, hk] at H; cases H.1
    have k3 : ¬ b = k := fun q => by rw [q, hk] at H; cases H.2
    simp [k1, k2, k3]
theorem cu_cut (A : AV) (a b : Nat) : cuB A a b (2 ^ A.2.1) = cuB A a b (cum A a b + 1) := by
  have := cum_lt A a b
  refine fold_skip (by omega) fun s h1 h2 t => if_neg fun q => ?_
  unfold cuP at q
  rw [Bool.and_eq_true, Bool.and_eq_true] at q
  have := wo_le ((cum_in (a := a) (b := b) h2).mpr ⟨by simpa using q.1, by simpa using q.2.1⟩)
  omega
theorem QX_cut {h : HP} {A : AV} {x y : Int32} (R : RefOk h.2) (F : FolkIs h 2 A) (G : GoodA A) : wp (f_X6_cut 0 x y) h (OutX h (n2p A.2.1 x y) (cuS A (ix x) (ix y))) := by
  have hn := G.1.1
  have h7 := pow_le7 hn
  have B := FB.of R (b := 2) (by decide)
  unfold f_X6_cut
  refine wp_call (noT R F.1.1) (gX R n2p_no fun e => ?_)
  obtain ⟨a, b, ha, hb, rfl, rfl, hab⟩ := n2p_ix e (by omega)
  rw [ix_nI (by omega), ix_nI (by omega)]
  have a7 : a < 7 := by omega
  have hW : ∀ i, i < 7 → A.1 4 i < 2 ^ A.2.1 := fun i hi => (G.2 i hi).2.2.2.2
  have g4 := hW a a7
  have lp := pow_lt31 ha
  have lq := pow_lt31 hb
  have lc := cum_lt A a b
  refine wp_eq (x_gr0 R) (wp_eq (bR7 B) (wp_eq (bA5 B a7) ?_))
  rw [F.2.2.2.2.2 a a7]
  refine wp_call (X6_holds (by omega) (by omega)) ?_
  rw [tb_if]
  unfold cuS
  by_cases z : tb (A.1 4 a) b = true
  · rw [if_pos z, cu_no G ha z _ (Nat.le_refl _)]
    exact wp_rt ⟨rfl, Same.rfl'⟩
  · rw [if_neg z, cu_cut]
    refine wp_eq (bC B) (wp_call (X0_others B F.1.1 hn (by omega)) ?_)
    rw [nI_shl1 (k := b) (by omega), nI_wo (Nat.lt_of_lt_of_le (ot_lt A.2.1 a) (by omega)) (by omega)]
    rw [show wo (ot A.2.1 a) (2 ^ b) = cum A a b from rfl]
    refine ⟨_, h, ?_, rfl, Same.rfl'⟩
    refine lp_pure (s := fun i => (bo (cuB A a b i), nI i)) (cum A a b + 1) (nf_lt (by omega)) (fun i hi k => ?_) (fun k => ?_)
    · have hb2 : ∀ u, cuB A a b i = some u → u < i := fun u hu => cuB_lt hu
      rw [cuB_s]
      generalize cuB A a b i = t at hb2 ⊢
      have ci := cum_in (A := A) (a := a) (b := b) (s := i) (by omega)
      unfold jn
      dsimp only
      rw [ifa, if_neg (show ¬ nI (cum A a b) < nI i from fun q => absurd ((nI_ltI (by omega) (by omega)).mp q) (by omega)), nI_wo (by omega) (by omega), nI_1, ifa]
      have lw : wo i (cum A a b) < 2 ^ 8 := wo_lt (by omega)
      unfold cuG cuP
      by_cases d : wo i (cum A a b) = 0
      · obtain ⟨d1, d2⟩ := ci.mp d
        rw [d, if_neg (show ¬ ¬ nI 0 = 0 from fun q => q rfl), bR7 B, nI_shl1 (by omega), e_bnd (X2_reach (m := 7) (M := no' i) (B.1.2 4 (by omega)) (by omega) F.2.2.2.2.2 (fun k hk => by have := hW k hk; omega) (mask_wo (by omega)) (by omega)), rs_cut (by omega) hn hW lp 7]
        have lr : rs (A.1 4) (no' i) A.2.1 7 (2 ^ a) < 2 ^ A.2.1 := rs_ltm (by omega) (fun i hi => hW i (by omega)) lp 7
        rw [e_bnd (X6_holds (by omega) (by omega)), tb_ifn, d1, d2, ifa]
        cases f : tb (rs (A.1 4) (no' i) A.2.1 7 (2 ^ a)) b
        · rw [if_neg (by decide), ifa, if_neg (show ¬ (1 : Int32) = 0 by decide), if_pos (show (!false && (!false && !false)) = true by decide), ifa]
          cases t with
          | none => rw [if_pos (show bo none = -9 from rfl)]; rfl
          | some u =>
            have := hb2 u rfl
            rw [show bo (some u) = nI u from rfl, if_neg (m9_eq (by omega)), e_bnd (X6_fewer (show i < 2 ^ 8 by omega) (by omega)), ifa, one_if]
            dsimp only
            by_cases g : pop i 8 < pop u 8
            · rw [if_pos g, if_pos g]
              rfl
            · rw [if_neg g, if_neg g]
              rfl
        · rw [if_pos rfl, ifa, if_pos rfl, if_neg (by decide)]
      · rw [if_pos (nI_ne0 (by omega) (by omega)), ifa, if_pos rfl, if_neg]
        intro q
        rw [Bool.and_eq_true, Bool.and_eq_true] at q
        exact d (ci.mpr ⟨by simpa using q.1, by simpa using q.2.1⟩)
    · dsimp only
      rw [ifa, if_pos (show nI (cum A a b) < nI (cum A a b + 1) from (nI_ltI (by omega) (by omega)).mpr (by omega))]
      rfl
theorem dj_le {A : AV} {a b s : Nat} (G : GoodA A) (ha : a < A.2.1) (hb : b < A.2.1) (hab : ¬ a = b) : dj (A.1 4) s A.2.1 a b ≤ 0 ↔ tb (rs (A.1 4) (no' s) A.2.1 7 (2 ^ a)) b = false := by
  have hn := G.1.1
  have gr := grow_rs (M := no' s) (m := A.2.1) (e := A.2.1) (W := A.1 4) (s := 2 ^ a) (by omega) (fun i hi => (G.2 i (by omega)).2.2.2.2) (pow_lt31 ha)
  unfold dj
  cases f : fnd (fun d => tb (rs (A.1 4) (no' s) A.2.1 d (2 ^ a)) b = true) 7 1 with
  | none =>
    have := fnd_none f 7 (by omega) (by omega)
    simp only [this]
    exact ⟨fun _ => by simpa using this, fun _ => by decide⟩
  | some m =>
    obtain ⟨⟨m1, m2⟩, m3, m4⟩ := fnd_some f
    have e : tb (rs (A.1 4) (no' s) A.2.1 (m + (7 - m)) (2 ^ a)) b = true := gr.mono m (7 - m) b m3
    rw [show m + (7 - m) = 7 by omega] at e
    rw [e]
    refine ⟨fun q => ?_, fun q => by cases q⟩
    exact absurd ((nI_leI (b := 0) (by omega) (by omega)).mp q) (by omega)
theorem QY_cut {h : HP} {A : AV} {x y : Int32} (R : RefOk h.2) (F : ModIs h A) (G : GoodA A) : wp (f_X7_cut 110 x y) h (OutY h (n2p A.2.1 x y) (cuS A (ix x) (ix y))) := by
  have hn := G.1.1
  have h7 := pow_le7 hn
  have h0 := Nat.two_pow_pos A.2.1
  unfold f_X7_cut
  refine gu_r2 R F.1.1 fun e => ?_
  obtain ⟨a, b, ha, hb, rfl, rfl, hab⟩ := n2p_ix e (by omega)
  rw [ix_nI (by omega), ix_nI (by omega)]
  refine ⟨_, h, ?_, rfl, LvY.rf⟩
  refine lp_pure (s := fun i => (bo (cuB A a b i), nI i)) (2 ^ A.2.1) (nf_lt (by omega)) (fun i hi k => ?_) (fun k => ?_)
  · have hb2 : ∀ u, cuB A a b i = some u → u < i := fun u hu => cuB_lt hu
    rw [cuB_s]
    generalize cuB A a b i = t at hb2 ⊢
    dsimp only
    rw [c110, e_bnd (X7_all F.1.1 hn), ifa, if_neg (show ¬ nI (2 ^ A.2.1 - 1) < nI i from fun q => absurd ((nI_ltI (by omega) (by omega)).mp q) (by omega)), e_bnd (X7_has (by omega) (by omega)), tb_ifn, nI_1, ifa]
    unfold cuG cuP
    cases d1 : tb i a
    · rw [if_neg (by decide), e_bnd (X7_has (by omega) (by omega)), tb_ifn, ifa]
      cases d2 : tb i b
      · rw [if_neg (by decide), e_bnd (X7_chainOf R F G ha hb (by omega)), ifa]
        have dl := dj_le (s := i) G ha hb hab
        cases f : tb (rs (A.1 4) (no' i) A.2.1 7 (2 ^ a)) b
        · rw [if_pos (dl.mpr f), if_pos (show (!false && (!false && !false)) = true by decide), ifa]
          cases t with
          | none => rw [if_pos (show bo none < 0 by decide)]; rfl
          | some u =>
            have := hb2 u rfl
            have q1 := pop_le i 8
            have q2 := pop_le u 8
            rw [show bo (some u) = nI u from rfl, if_neg (nI_pos (by omega)), e_bnd (X7_bits7 hi (by omega)), e_bnd (X7_bits7 (show u < 2 ^ A.2.1 by omega) (by omega)), ifa]
            dsimp only
            by_cases g : pop i 8 < pop u 8
            · rw [if_neg (fun q => absurd ((nI_leI (by omega) (by omega)).mp q) (by omega)), if_pos g]
              rfl
            · rw [if_pos ((nI_leI (by omega) (by omega)).mpr (by omega)), if_neg g]
              rfl
        · rw [if_neg (fun q => by have := dl.mp q; rw [f] at this; cases this), if_neg (by decide)]
      · rw [if_pos rfl, if_neg (by simp)]
    · rw [if_pos rfl, if_neg (by simp)]
  · dsimp only
    rw [c110, e_bnd (X7_all F.1.1 hn), ifa, if_pos (show nI (2 ^ A.2.1 - 1) < nI (2 ^ A.2.1) from (nI_ltI (by omega) (by omega)).mpr (by omega))]
    rfl
