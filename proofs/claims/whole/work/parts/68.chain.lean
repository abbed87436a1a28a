/-! ECHO, LOOPS, CHAIN, CUT -/
theorem lp_fst {σ β : Type} {B : σ → (σ → M β) → M β} {h : HP} {z : Option (β × HP)} (s : Nat → σ) (P : Nat → Prop) [DecidablePred P] (lo d : Nat) (hd : d < 1000000) (miss : ∀ i, lo ≤ i → i < lo + d → ¬ P i → ∀ k, B (s i) k h = k (s (i + 1)) h) (hit : ∀ i, lo ≤ i → i < lo + d → P i → fnd P d lo = some i → ∀ k, B (s i) k h = z) (fin : fnd P d lo = none → ∀ k, B (s (lo + d)) k h = z) : loopK NF B (s lo) h = z := by
  cases e : fnd P d lo with
  | none => exact lp_pure (s := fun i => s (lo + i)) d (nf_lt hd) (fun i hi k => miss (lo + i) (by omega) (by omega) (fnd_none e (lo + i) (by omega) (by omega)) k) (fin e)
  | some m =>
    obtain ⟨⟨m1, m2⟩, m3, m4⟩ := fnd_some e
    refine lp_pure (s := fun i => s (lo + i)) (m - lo) (nf_lt (by omega)) (fun i hi k => miss (lo + i) (by omega) (by omega) (m4 (lo + i) (by omega) (by omega)) k) (fun k => ?_)
    try dsimp only
    rw [show lo + (m - lo) = m by omega]
    exact hit m m1 m2 m3 e k
theorem nxt_cut {W : Nat → Nat} {s n m : Nat} (hs : s < 2 ^ n) (hm : n ≤ m) : nxt W s m = nxt W s n := fold_skip hm fun j h1 h2 a => by
  unfold nxtG
  rw [tb_lt hs h1]
  rfl
theorem rs_cut {W : Nat → Nat} {M : Nat → Bool} {s n m : Nat} (hn : n ≤ 8) (hm : n ≤ m) (hW : ∀ i, i < m → W i < 2 ^ n) (hs : s < 2 ^ n) (k : Nat) : rs W M m k s = rs W M n k s := by
  induction k with
  | zero => rfl
  | succ k ih => rw [rs_s, rs_s, ih, nxt_cut (rs_ltm hn (fun i hi => hW i (by omega)) hs k) hm]
def ipG (W : Nat → Nat) (i a : Nat) : Nat := if tb a i = true then a ||| W i else a
theorem grow_ears {W : Nat → Nat} {n s : Nat} (hW : ∀ i, i < n → W i < 2 ^ n) (hs : s < 2 ^ n) : Grow n (fun k => itr (fold (ipG W) n) k s) (Ed W top n) := by
  refine grow_ip (fun i a v hv => ?_) (fun i a D hi hD hs v hv => ?_) (fun u v h => ⟨u, h.1, fun a ha => ?_⟩) (fun i a hi ha => ?_) hs (fun u v h => tb_bit (hW u h.1) h.2.1)
  · unfold ipG
    split
    · rw [tb_or, hv, Bool.true_or]
    · exact hv
  · unfold ipG at hv
    by_cases c : tb a i = true
    · rw [if_pos c, tb_or, Bool.or_eq_true] at hv
      rcases hv with hv | hv
      · exact hs v hv
      · exact hD i v (hs i c) ⟨hi, hv, rfl⟩
    · rw [if_neg c] at hv
      exact hs v hv
  · unfold ipG
    rw [if_pos ha, tb_or, h.2.1, Bool.or_true]
  · unfold ipG
    split
    · exact Nat.or_lt_two_pow ha (hW i hi)
    · exact ha
theorem heard {W : Nat → Nat} {n s : Nat} (hn : n ≤ 7) (hW : ∀ i, i < n → W i < 2 ^ n) (hs : s < 2 ^ n) : itr (fold (ipG W) n) 7 s = rs W top n 7 s := by
  have g1 := grow_ears hW hs
  have g2 := grow_rs (M := top) (show n ≤ 8 by omega) hW hs
  exact g1.uniq g2 rfl (N := 7) (N' := 7) (g1.clo (by omega)) (g2.clo (by omega))
def so (A : AV) (p : Nat) : Nat := rs (A.1 4) top A.2.1 7 (A.1 4 p)
theorem so_lt {A : AV} (G : GoodA A) {p : Nat} (hp : p < 7) : so A p < 2 ^ A.2.1 := rs_ltm (by have := G.1.1; omega) (fun i hi => (G.2 i (by have := G.1.1; omega)).2.2.2.2) (G.2 p hp).2.2.2.2 7
theorem X0_sources {h : HP} {p : Nat} {A : AV} (R : RefOk h.2) (F : FolkIs h 2 A) (G : GoodA A) (hp : p < 7) : cv 0 2 (f_X0_sources 2 (nI p)) h = some (nI (so A p), h) := by
  have hn := G.1.1
  have h7 := pow_le7 hn
  have B := FB.of R (b := 2) (by decide)
  have g4 := (G.2 p hp).2.2.2.2
  rw [e_cv B.1.1]
  unfold f_X0_sources
  rw [bR7 B, bR7 B, bA5 B hp, F.2.2.2.2.2 p hp, e_bnd (X2_reach (m := 7) (M := top) (B.1.2 4 (by omega)) (by omega) F.2.2.2.2.2 (fun k hk => by have := (G.2 k hk).2.2.2.2; omega) mask_m1 (by omega))]
  rw [rs_cut (n := A.2.1) (by omega) hn (fun i hi => (G.2 i hi).2.2.2.2) g4]
  rfl
theorem X7_heardBy {h : HP} {p : Nat} {A : AV} (R : RefOk h.2) (F : ModIs h A) (G : GoodA A) (hp : p < 7) : cv 6 110 (f_X7_heardBy 110 (nI p)) h = some (nI (so A p), h) := by
  have hn := G.1.1
  have h7 := pow_le7 hn
  have g4 := (G.2 p hp).2.2.2.2
  have hW : ∀ i, i < A.2.1 → A.1 4 i < 2 ^ A.2.1 := fun i hi => (G.2 i (by omega)).2.2.2.2
  have gr := grow_ears hW g4
  show f_X7_heardBy 110 (nI p) h = _
  unfold f_X7_heardBy so
  rw [← heard hn hW g4, g110_5 R, a116 hp, F.2.2.2.2.2 p hp]
  refine lp_pure (s := fun i => (nI (itr (fold (ipG (A.1 4)) A.2.1) i (A.1 4 p)), nI i)) 7 (nf_lt (by omega)) (fun i hi k => ?_) (fun k => ?_)
  · have l : itr (fold (ipG (A.1 4)) A.2.1) i (A.1 4 p) < 2 ^ A.2.1 := gr.2.2.2.1 i
    rw [itr_s]
    generalize itr (fold (ipG (A.1 4)) A.2.1) i (A.1 4 p) = s at l ⊢
    dsimp only
    rw [ifa, if_neg (show ¬ (7 : Int32) ≤ nI i from nI_ge (b := 7) hi (by omega)), nI_1]
    have lf : ∀ j, j ≤ A.2.1 → fold (ipG (A.1 4)) j s < 2 ^ A.2.1 := by
      intro j
      induction j with
      | zero => exact fun _ => l
      | succ j ih =>
        intro hj
        show ipG (A.1 4) j (fold (ipG (A.1 4)) j s) < _
        unfold ipG
        split
        · exact Nat.or_lt_two_pow (ih (by omega)) (hW j (by omega))
        · exact ih (by omega)
    refine lp_pure (s := fun j => (nI (fold (ipG (A.1 4)) j s), nI j)) A.2.1 (nf_lt (by omega)) (fun j hj k2 => ?_) (fun k2 => ?_)
    · have l2 := lf j (by omega)
      have es : fold (ipG (A.1 4)) (j + 1) s = ipG (A.1 4) j (fold (ipG (A.1 4)) j s) := rfl
      have l3 := hW j hj
      rw [es]
      generalize fold (ipG (A.1 4)) j s = t at l2 ⊢
      dsimp only
      rw [g110_8, F.1.1, ifa, if_neg (nI_ge hj (by omega)), e_bnd (X7_has (by omega) (by omega)), tb_if, or0, nI_1]
      unfold ipG
      by_cases c : tb t j = true
      · rw [if_pos c, if_pos c, g110_5 R, a116 (by omega), F.2.2.2.2.2 j (by omega), nI_or (by omega) (by omega)]
      · rw [if_neg c, if_neg c]
    · dsimp only
      rw [g110_8, F.1.1, ifa, if_pos (nI_le (Nat.le_refl _) (by omega))]
  · dsimp only
    rw [ifa, if_pos (show (7 : Int32) ≤ nI 7 by decide)]
    rfl
def ecS (A : AV) (p : Nat) : Int32 := nI (so A p)
theorem QX_echo {h : HP} {A : AV} {x : Int32} (R : RefOk h.2) (F : FolkIs h 2 A) (G : GoodA A) : wp (f_X6_echo 0 x) h (OutX h (np A.2.1 x) (ecS A (ix x))) := by
  unfold f_X6_echo
  refine wp_call (noP R F.1.1) (gX R np_no fun e => ?_)
  have hn := G.1.1
  obtain ⟨p, hp, rfl⟩ := np_ix e (by omega)
  rw [ix_nI (by omega)]
  exact wp_eq (x_gr0 R) (wp_call (X0_sources R F G (by omega)) (wp_rt ⟨rfl, Same.rfl'⟩))
theorem np_c {n : Nat} {x : Int32} (c : ¬ np n x = 0) : pn n x = false ∧ np n x = -1 := by
  unfold np at c ⊢
  cases z : pn n x
  · exact ⟨rfl, rfl⟩
  · rw [z] at c
    exact absurd rfl c
/-- the reference's form: first the refusal -/
theorem gu_q {h : HP} {n : Nat} {x am : Int32} {B : M Int32} (R : RefOk h.2) (e : h.1 110 8 = nI n) (H : np n x = 0 → wp B h fun v h' => v = am ∧ LvY h h') : wp (bnd (cv 6 110 (f_X7_isPerson 110 x)) fun t1 => if t1 = (0 : Int32) then bnd (cv 6 110 (f_X7_no 110 (-1 : Int32))) fun t => rt t else B) h (OutY h (np n x) am) := by
  refine wp_call (X7_isPerson e) ?_
  rw [tb_if]
  by_cases c : np n x = 0
  · have z : pn n x = true := by
      cases z : pn n x
      · unfold np at c
        rw [z] at c
        exact absurd c (by decide)
      · rfl
    rw [z, c]
    simp only [if_true]
    exact wp_mono (H c) fun v h' q => oky q.1 q.2
  · rw [(np_c c).1, (np_c c).2]
    simp only [Bool.false_eq_true, if_false]
    exact yno R (Or.inl rfl)
theorem QY_echo {h : HP} {A : AV} {x : Int32} (R : RefOk h.2) (F : ModIs h A) (G : GoodA A) : wp (f_X7_echo 110 x) h (OutY h (np A.2.1 x) (ecS A (ix x))) := by
  unfold f_X7_echo
  refine gu_q R F.1.1 fun e => ?_
  have hn := G.1.1
  obtain ⟨p, hp, rfl⟩ := np_ix e (by omega)
  rw [ix_nI (by omega)]
  exact wp_call (X7_heardBy R F G (by omega)) (wp_rt ⟨rfl, LvY.rf⟩)
/-! loops -/
theorem mk_t {g : Nat → Bool} {k m : Nat} (h : g k = true) : mk g k m = m ||| 2 ^ k := if_pos h
theorem mk_f {g : Nat → Bool} {k m : Nat} (h : g k = false) : mk g k m = m := if_neg (by rw [h]; decide)
def lpA (A : AV) (i : Nat) : Nat := fold (mk fun p => tb (so A p) p) i 0
def lpC (A : AV) (i : Nat) : Nat := fold (mk fun p => decide (A.1 4 p = 0)) i 0
def lpU (A : AV) (i : Nat) : Nat := nxt (A.1 4) (2 ^ A.2.1 - 1) i
def lpS (A : AV) (w : Int32) : Int32 := if w = 2 then nI (wo (2 ^ A.2.1 - 1) (lpU A A.2.1)) else if w = 0 then nI (lpA A A.2.1) else nI (lpC A A.2.1)
theorem lpU_lt {A : AV} (G : GoodA A) {i : Nat} (hi : i ≤ 7) : lpU A i < 2 ^ A.2.1 := nxt_lt fun j hj => (G.2 j (by omega)).2.2.2.2
theorem QX_loops {h : HP} {A : AV} {w : Int32} (R : RefOk h.2) (F : FolkIs h 2 A) (G : GoodA A) : wp (f_X6_loops 0 w) h (OutX h (nc 3 w) (lpS A w)) := by
  have hn := G.1.1
  have h7 := pow_le7 hn
  have h0 := Nat.two_pow_pos A.2.1
  have B := FB.of R (b := 2) (by decide)
  unfold f_X6_loops
  refine wp_call (X6_noChoice (m := 3)) (gX R nc_no fun e => wp_eq (x_gr0 R) ?_)
  unfold lpS
  by_cases c : w = 2
  · rw [if_neg (fun q => q c), if_pos c]
    refine wp_eq (bC B) (wp_call (X0_everybody B F.1.1 hn) (wp_eq (bR7 B) (wp_eq (bC B) (wp_call (X0_everybody B F.1.1 hn) ?_))))
    refine wp_call (X2_next (m := 7) (B.1.2 4 (by omega)) (by omega) F.2.2.2.2.2 (fun k hk => by have := (G.2 k hk).2.2.2.2; omega) (by omega)) ?_
    rw [nxt_cut (n := A.2.1) (by omega) hn]
    have lu : nxt (A.1 4) (2 ^ A.2.1 - 1) A.2.1 < 2 ^ A.2.1 := lpU_lt G hn
    rw [nI_wo (by omega) (by omega)]
    exact wp_rt ⟨rfl, Same.rfl'⟩
  · rw [if_pos c, if_neg c]
    by_cases d : w = 0
    · rw [if_pos d]
      refine ⟨_, h, ?_, rfl, Same.rfl'⟩
      refine lp_pure (s := fun i => (nI (lpA A i), nI i)) A.2.1 (nf_lt (by omega)) (fun i hi k => ?_) (fun k => ?_)
      · have i7 : i < 7 := by omega
        have lp := pow_lt31 i7
        have ls := so_lt G i7
        have l1 : lpA A i < 2 ^ 7 := mk_lt _ (by omega) (by decide)
        have e1 : lpA A (i + 1) = mk (fun p => tb (so A p) p) i (lpA A i) := rfl
        rw [e1]
        generalize lpA A i = a at l1 ⊢
        unfold jn
        dsimp only
        rw [bI B, F.1.1, ifa, if_neg (nI_ge hi (by omega)), ifa, nI_1, nI_shl1 (by omega), if_neg (fun q => q d), e_bnd (X0_sources R F G i7), e_bnd (X6_holds (by omega) (by omega)), ifa, tb_if, nI_or (by omega) (by omega)]
        cases z : tb (so A i) i
        · rw [mk_f (g := fun p => tb (so A p) p) z, if_neg (by decide)]
        · rw [mk_t (g := fun p => tb (so A p) p) z, if_pos rfl]
      · dsimp only
        rw [bI B, F.1.1, ifa, if_pos (nI_le (Nat.le_refl _) (by omega))]
        rfl
    · rw [if_neg d]
      refine ⟨_, h, ?_, rfl, Same.rfl'⟩
      refine lp_pure (s := fun i => (nI (lpC A i), nI i)) A.2.1 (nf_lt (by omega)) (fun i hi k => ?_) (fun k => ?_)
      · have i7 : i < 7 := by omega
        have lp := pow_lt31 i7
        have g4 := (G.2 i i7).2.2.2.2
        have l2 : lpC A i < 2 ^ 7 := mk_lt _ (by omega) (by decide)
        have e2 : lpC A (i + 1) = mk (fun p => decide (A.1 4 p = 0)) i (lpC A i) := rfl
        rw [e2]
        generalize lpC A i = b at l2 ⊢
        unfold jn
        dsimp only
        rw [bI B, F.1.1, ifa, if_neg (nI_ge hi (by omega)), ifa, nI_1, nI_shl1 (by omega), if_pos d, bR7 B, bA5 B i7, F.2.2.2.2.2 i i7, ifa]
        by_cases f : A.1 4 i = 0
        · rw [f, if_neg (show ¬ ¬ nI 0 = 0 from fun q => q rfl), ifa, if_neg (show ¬ (1 : Int32) = 0 by decide), mk_t (g := fun p => decide (A.1 4 p = 0)) (decide_eq_true f), nI_or (by omega) (by omega)]
        · rw [if_pos (nI_ne0 (by omega) (by omega)), ifa, if_pos rfl, mk_f (g := fun p => decide (A.1 4 p = 0)) (decide_eq_false f)]
      · dsimp only
        rw [bI B, F.1.1, ifa, if_pos (nI_le (Nat.le_refl _) (by omega))]
        rfl
theorem QY_loops {h : HP} {A : AV} {w : Int32} (R : RefOk h.2) (F : ModIs h A) (G : GoodA A) : wp (f_X7_loops 110 w) h (OutY h (nc 3 w) (lpS A w)) := by
  have hn := G.1.1
  have h7 := pow_le7 hn
  have h0 := Nat.two_pow_pos A.2.1
  unfold f_X7_loops
  refine gu_i (m := 2) R (by decide) fun e => ?_
  refine ⟨_, h, ?_, rfl, LvY.rf⟩
  refine lp_pure (s := fun i => (nI (lpA A i), nI (lpC A i), nI (lpU A i), nI i)) A.2.1 (nf_lt (by omega)) (fun i hi k => ?_) (fun k => ?_)
  · have i7 : i < 7 := by omega
    have lp := pow_lt31 i7
    have g4 := (G.2 i i7).2.2.2.2
    have ls := so_lt G i7
    have l1 : lpA A i < 2 ^ 7 := mk_lt _ (by omega) (by decide)
    have l2 : lpC A i < 2 ^ 7 := mk_lt _ (by omega) (by decide)
    have l3 : lpU A i < 2 ^ A.2.1 := lpU_lt G (by omega)
    have e1 : lpA A (i + 1) = mk (fun p => tb (so A p) p) i (lpA A i) := rfl
    have e2 : lpC A (i + 1) = mk (fun p => decide (A.1 4 p = 0)) i (lpC A i) := rfl
    have e3 : lpU A (i + 1) = lpU A i ||| A.1 4 i := by
      show nxtG _ _ _ _ = _
      unfold nxtG
      rw [tb_ones]
      simp [hi]
      rfl
    rw [e1, e2, e3]
    generalize lpA A i = a at l1 ⊢
    generalize lpC A i = b at l2 ⊢
    generalize lpU A i = u at l3 ⊢
    unfold jn
    dsimp only
    rw [g110_8, F.1.1, ifa, if_neg (nI_ge hi (by omega)), e_bnd (X7_heardBy R F G i7), e_bnd (X7_has (by omega) (by omega)), nI_1, nI_shl1 (by omega), tb_if, ifa]
    have r4 := F.2.2.2.2.2 i i7
    cases z : tb (so A i) i
    · rw [mk_f (g := fun p => tb (so A p) p) z, if_neg (by decide), g110_5 R, a116 i7, r4, ifa]
      by_cases f : A.1 4 i = 0
      · rw [f] at r4 ⊢
        rw [if_neg (show ¬ ¬ nI 0 = 0 from fun q => q rfl), g110_5 R, a116 i7, r4, nI_or (by omega) (by omega), nI_or (by omega) (by omega), or0, mk_t (g := fun p => decide (A.1 4 p = 0)) (decide_eq_true f)]
      · rw [if_pos (nI_ne0 (by omega) (by omega)), g110_5 R, a116 i7, r4, nI_or (by omega) (by omega), or0, or0, mk_f (g := fun p => decide (A.1 4 p = 0)) (decide_eq_false f)]
    · rw [mk_t (g := fun p => tb (so A p) p) z, if_pos rfl, g110_5 R, a116 i7, r4, ifa]
      by_cases f : A.1 4 i = 0
      · rw [f] at r4 ⊢
        rw [if_neg (show ¬ ¬ nI 0 = 0 from fun q => q rfl), g110_5 R, a116 i7, r4, nI_or (by omega) (by omega), nI_or (by omega) (by omega), nI_or (by omega) (by omega), mk_t (g := fun p => decide (A.1 4 p = 0)) (decide_eq_true f)]
      · rw [if_pos (nI_ne0 (by omega) (by omega)), g110_5 R, a116 i7, r4, nI_or (by omega) (by omega), nI_or (by omega) (by omega), or0, mk_f (g := fun p => decide (A.1 4 p = 0)) (decide_eq_false f)]
  · have l3 := lpU_lt G (i := A.2.1) hn
    dsimp only
    rw [g110_8, F.1.1, ifa, if_pos (nI_le (Nat.le_refl _) (by omega)), ifa]
    obtain ⟨j, hj, rfl⟩ := nc_ix e (by omega)
    unfold lpS
    rcases (show j = 0 ∨ j = 1 ∨ j = 2 by omega) with rfl | rfl | rfl
    · rfl
    · rfl
    · rw [if_pos (show ¬ nI 2 = 0 by decide), ifa, if_pos (show ¬ nI 2 = 1 by decide), c110, e_bnd (X7_all F.1.1 hn), nI_wo (by omega) (by omega)]
      rfl
