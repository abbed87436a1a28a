/-! PHOTOS: the share itself; the reference; the answers -/
def fpP (A : AV) (L : Nat × (Nat → Nat)) (t j : Nat) : Bool := !tb t j && decide (cf A L t j = cs A L t)
def fp (A : AV) (L : Nat × (Nat → Nat)) (t : Nat) : Nat := (fnd (fun j => fpP A L t j = true) A.2.1 0).getD 0
def tk (A : AV) (L : Nat × (Nat → Nat)) : Nat → Nat
  | 0 => 0
  | i + 1 => tk A L i ||| 2 ^ fp A L (tk A L i)
theorem tk_s (A : AV) (L : Nat × (Nat → Nat)) (i : Nat) : tk A L (i + 1) = tk A L i ||| 2 ^ fp A L (tk A L i) := rfl
theorem fp_ok {A : AV} {L : Nat × (Nat → Nat)} (G : GoodA A) {t : Nat} (ht : t < 2 ^ A.2.1) (hp : pop t 8 < A.2.1) : fnd (fun j => fpP A L t j = true) A.2.1 0 = some (fp A L t) ∧ fp A L t < A.2.1 ∧ tb t (fp A L t) = false := by
  have hn := G.1.1
  have hf : ¬ t = 2 ^ A.2.1 - 1 := fun q => by
    have : pop t A.2.1 = A.2.1 := pop_full fun j hj => by rw [q, tb_ones]; simp [hj]
    rw [pop_ext ht (show A.2.1 ≤ 8 by omega)] at hp
    omega
  obtain ⟨-, j, j1, j2, j3⟩ := cs_cb (L := L) G ht hf
  unfold fp
  cases e : fnd (fun j => fpP A L t j = true) A.2.1 0 with
  | none =>
    exfalso
    exact fnd_none e j (by omega) (by omega) (by unfold fpP; rw [j2, j3]; simp)
  | some m =>
    have := fnd_some e
    refine ⟨rfl, by show m < _; omega, ?_⟩
    have := this.2.1
    unfold fpP at this
    rw [Bool.and_eq_true] at this
    show tb t m = false
    simpa using this.1
theorem tk_ok {A : AV} {L : Nat × (Nat → Nat)} (G : GoodA A) {i : Nat} (hi : i ≤ A.2.1) : tk A L i < 2 ^ A.2.1 ∧ pop (tk A L i) 8 = i := by
  have hn := G.1.1
  induction i with
  | zero => exact ⟨Nat.two_pow_pos _, (by decide : pop 0 8 = 0)⟩
  | succ i ih =>
    obtain ⟨h1, h2⟩ := ih (by omega)
    obtain ⟨-, f1, f2⟩ := fp_ok (L := L) G h1 (by omega)
    rw [tk_s]
    refine ⟨or_lt h1 f1, ?_⟩
    rw [pop_or f2, h2, if_pos (by omega)]
def phS (A : AV) (L : Nat × (Nat → Nat)) (x : Int32) : Int32 := if x = -1 then nI (cs A L 0) else if nI A.2.1 ≤ x then -9 else nI (fp A L (tk A L (ix x)))
def phN (A : AV) (L : Nat × (Nat → Nat)) (x : Int32) : Int32 := fs (if (-1 : Int32) ≤ x then 0 else -4) (if L.1 = A.2.1 then 0 else -3)
theorem phN_no {A : AV} {L : Nat × (Nat → Nat)} {x : Int32} : phN A L x = 0 ∨ IsNo (phN A L x) := by
  unfold phN
  refine fs_no ?_ ?_
  · split
    · exact Or.inl rfl
    · exact Or.inr (Or.inr (Or.inr (Or.inr (Or.inl rfl))))
  · split
    · exact Or.inl rfl
    · exact Or.inr (Or.inr (Or.inr (Or.inl rfl)))
theorem phN_z {A : AV} {L : Nat × (Nat → Nat)} {x : Int32} (e : phN A L x = 0) : (-1 : Int32) ≤ x ∧ L.1 = A.2.1 := by
  have := fs_z e
  refine ⟨?_, ?_⟩
  · by_cases c : (-1 : Int32) ≤ x
    · exact c
    · rw [if_neg c] at this
      exact absurd this.1 (by decide)
  · by_cases c : L.1 = A.2.1
    · exact c
    · rw [if_neg c] at this
      exact absurd this.2 (by decide)
theorem ph_ix {n : Nat} {x : Int32} (h : (-1 : Int32) ≤ x) (h1 : ¬ x = -1) (h2 : ¬ nI n ≤ x) (hn : n ≤ 7) : ∃ k, k < n ∧ x = nI k := by
  refine pn_ix ?_ (by omega)
  unfold pn
  rw [Bool.and_eq_true, decide_eq_true_eq, decide_eq_true_eq]
  refine ⟨fun q => h1 ?_, h2⟩
  rw [Int32.lt_iff_toInt_lt] at q
  rw [Int32.le_iff_toInt_le] at h
  have e0 : (0 : Int32).toInt = 0 := rfl
  have e1 : (-1 : Int32).toInt = -1 := rfl
  apply Int32.toInt_inj.mp
  omega
theorem ix_ge {x : Int32} {k : Nat} (hk : k < 2 ^ 30) (e : x = nI k) : ¬ x = -1 ∧ (0 : Int32) ≤ x := by
  subst e
  refine ⟨fun q => ?_, Int32.not_lt.mp (nI_pos (by omega))⟩
  have e1 := nI_toInt (n := k) (by omega)
  rw [q] at e1
  have : (-1 : Int32).toInt = -1 := rfl
  omega
theorem X6_firstPhoto {h : HP} {A : AV} {L : Nat × (Nat → Nat)} {t i : Nat} (R : RefOk h.2) (F : FolkIs h 2 A) (G : GoodA A) (T : RowX h L) (GL : GoodL L) (hL : L.1 = A.2.1) (hc : ∀ s, s < 2 ^ A.2.1 → h.1 107 s = nI (cs A L s)) (ht : t < 2 ^ A.2.1) (hp : pop t 8 = i) (hi : i < A.2.1) : cv 5 0 (f_X6_firstPhoto 0 (nI i) (nI t)) h = some (nI (fp A L t), h) := by
  have hn := G.1.1
  have h7 := pow_le7 hn
  obtain ⟨f0, f1, f2⟩ := fp_ok (L := L) G ht (by omega)
  show f_X6_firstPhoto 0 (nI i) (nI t) h = _
  unfold f_X6_firstPhoto
  have lcs := cs_le G GL t
  refine lp_first (fun j => fpP A L t j = true) 0 A.2.1 (by omega) (fun j _ hj c k => ?_) (fun j _ hj c e k => ?_) (fun e k => ?_)
  · rw [g0_8, T.1, hL, ifa, if_neg (nI_ge (show j < A.2.1 by omega) (by omega)), e_bnd (X6_holds (by omega) (by omega)), tb_ifn, nI_1]
    unfold fpP at c
    cases z : tb t j
    · simp only [Bool.false_eq_true, if_false]
      have lcf := cf_le (s := t) (j := j) G GL (by omega) (by omega)
      rw [e_bnd (X6_costWith R F G T GL ht (by omega) hp (by omega) (hc _ (or_lt ht (by omega)))), g0_11 R, a107 (by omega), hc t ht, ifa]
      rw [if_pos (fun q => c (by rw [z, (nI_eq (by omega) (by omega)).mp q]; simp))]
    · simp only [if_true]
  · rw [g0_8, T.1, hL, ifa, if_neg (nI_ge (show j < A.2.1 by omega) (by omega)), e_bnd (X6_holds (by omega) (by omega)), tb_ifn]
    unfold fpP at c
    rw [Bool.and_eq_true, decide_eq_true_eq] at c
    have z : tb t j = false := by simpa using c.1
    rw [z]
    simp only [Bool.false_eq_true, if_false]
    rw [e_bnd (X6_costWith R F G T GL ht (by omega) hp (by omega) (hc _ (or_lt ht (by omega)))), g0_11 R, a107 (by omega), hc t ht, ifa, if_neg (fun q => q (by rw [c.2]))]
    rw [f0] at e
    cases e
    rfl
  · rw [f0] at e
    cases e
theorem QX_photos {h : HP} {A : AV} {L : Nat × (Nat → Nat)} {x : Int32} (R : RefOk h.2) (F : FolkIs h 2 A) (G : GoodA A) (T : RowX h L) (GL : GoodL L) : wp (f_X6_photos 0 x) h (OutX h (phN A L x) (phS A L x)) := by
  have hn := G.1.1
  have hl := GL.1
  have B := FB.of R (b := 2) (by decide)
  unfold f_X6_photos
  have H2 : ∀ K : Int32 → M Int32, wp (K (phN A L x)) h (OutX h (phN A L x) (phS A L x)) → wp (jn (fun k2 => if (-1 : Int32) ≤ x then k2 (0 : Int32) else k2 (-4 : Int32)) fun s1 => jn (fun k4 => if ¬ s1 = (0 : Int32) then k4 s1 else bnd (gI 5 8 0) fun t14 => bnd (gR 5 0 0) fun r15 => bnd (gR 4 0 r15) fun r16 => bnd (gI 0 0 r16) fun t17 => if t14 = t17 then k4 s1 else k4 (-3 : Int32)) K) h (OutX h (phN A L x) (phS A L x)) := fun K H => by
    unfold jn
    dsimp only
    unfold phN fs at H ⊢
    by_cases c : (-1 : Int32) ≤ x
    · rw [if_pos c]
      simp only [c, if_true] at H ⊢
      rw [if_neg (show ¬ ¬ True from fun q => q trivial)]
      refine wp_eq g0_8 (wp_eq (x_gr0 R) (wp_eq (bI B) ?_))
      rw [T.1, F.1.1]
      by_cases d : L.1 = A.2.1
      · rw [if_pos (by rw [d])]
        simp only [d, if_true] at H ⊢
        exact H
      · rw [if_neg (fun q => d ((nI_eq (by omega) (by omega)).mp q))]
        simp only [d, if_false] at H ⊢
        exact H
    · rw [if_neg c, if_pos (show ¬ (-4 : Int32) = 0 by decide)]
      simp only [c, if_false, show ¬ (-4 : Int32) = 0 by decide] at H ⊢
      exact H
  refine H2 _ (gX R phN_no fun e => ?_)
  obtain ⟨e1, e2⟩ := phN_z e
  refine wp_bnd (wp_mono (X6_fillCosts R F G T GL e2) fun v h1 q => ?_)
  obtain ⟨hc, S⟩ := q
  have S : Same GX h h1 := S.wide fun x q => by unfold GX; omega
  have R' := RefOk.same S R
  have F' := (x_stay S R F).2
  have T' := T.same S
  unfold phS
  by_cases c : x = -1
  · rw [if_neg (fun q => q c), if_pos c]
    refine wp_eq (g0_11 R') (wp_eq (a107 (k := 0) (by omega)) ?_)
    rw [hc 0 (Nat.two_pow_pos _)]
    exact wp_rt ⟨rfl, S⟩
  · rw [if_pos c, if_neg c]
    refine wp_eq g0_8 ?_
    rw [T'.1, e2]
    by_cases d : nI A.2.1 ≤ x
    · rw [if_pos d, if_pos d]
      exact wp_rt ⟨rfl, S⟩
    · rw [if_neg d, if_neg d]
      obtain ⟨a, ha, rfl⟩ := ph_ix e1 c d hn
      rw [ix_nI (by omega)]
      refine wp_call (show cv 5 0 (f_X6_photoOf 0 (nI a)) h1 = some (nI (fp A L (tk A L a)), h1) from ?_) (wp_rt ⟨rfl, S⟩)
      show f_X6_photoOf 0 (nI a) h1 = _
      unfold f_X6_photoOf
      refine lp_pure (s := fun i => (nI (tk A L i), (if i = 0 then -9 else nI (fp A L (tk A L (i - 1)))), nI i)) (a + 1) (nf_lt (by omega)) (fun i hi k => ?_) (fun k => ?_)
      · obtain ⟨t1, t2⟩ := tk_ok (L := L) G (i := i) (by omega)
        obtain ⟨-, f1, f2⟩ := fp_ok (L := L) G t1 (by omega)
        have h7 := pow_le7 hn
        have lp := pow_lt31 f1
        dsimp only
        rw [ifa, if_neg (show ¬ nI a < nI i from fun q => absurd ((nI_ltI (by omega) (by omega)).mp q) (by omega)), e_bnd (X6_firstPhoto R' F' G T' GL e2 hc t1 t2 (by omega)), ifa, if_pos (m9_eq (by omega)), nI_shl1 (by omega), nI_or (by omega) (by omega), nI_1, tk_s, if_neg (by omega)]
        rfl
      · dsimp only
        rw [ifa, if_pos (show nI a < nI (a + 1) from (nI_ltI (by omega) (by omega)).mpr (by omega)), if_neg (by omega)]
        rfl
def Big : Nat := 1000000000
theorem X7_findPhotos {h : HP} {A : AV} {L : Nat × (Nat → Nat)} (R : RefOk h.2) (F : ModIs h A) (G : GoodA A) (T : RowY h L) (GL : GoodL L) (hL : L.1 = A.2.1) : wp (cv 6 110 (f_X7_findPhotos 110)) h fun _ h' => (∀ s, s < 2 ^ A.2.1 → h'.1 128 s = nI (cs A L s)) ∧ Same (fun a => a = 128) h h' := by
  have hn := G.1.1
  have h7 := pow_le7 hn
  have hpos := Nat.two_pow_pos A.2.1
  show wp (f_X7_findPhotos 110) h _
  unfold f_X7_findPhotos
  refine wp_call (X7_all F.1.1 hn) ?_
  have e0 : nI (2 ^ A.2.1 - 1) = dm (2 ^ A.2.1) 0 := by
    rw [dm_at hpos]
    rfl
  rw [e0]
  refine wp_loop (fun i s h' => s = dm (2 ^ A.2.1) i ∧ (∀ s, 2 ^ A.2.1 - i ≤ s → s < 2 ^ A.2.1 → h'.1 128 s = nI (cs A L s)) ∧ Same (fun a => a = 128) h h') (2 ^ A.2.1) (nf_lt (by omega)) (fun i hi s h' q k K => ?_) (fun s h' k q => ?_) ⟨rfl, fun s h1 h2 => by omega, Same.rfl'⟩
  · obtain ⟨rfl, N1, S⟩ := q
    have SG : LvY h h' := LvY.of (S.wide fun x q => by omega)
    have R' := RefOk.same S R
    have F' := SG.mod F
    have T' := T.lv SG
    rw [← dm_s hi, dm_at hi] at K
    rw [dm_at hi]
    have hs : 2 ^ A.2.1 - 1 - i < 2 ^ A.2.1 := by omega
    have N2 : ∀ j, 2 ^ A.2.1 - 1 - i < j → j < 2 ^ A.2.1 → h'.1 128 j = nI (cs A L j) := fun j a b => N1 j (by omega) b
    have N3 : ∀ j, 2 ^ A.2.1 - (i + 1) ≤ j → ¬ j = 2 ^ A.2.1 - 1 - i → 2 ^ A.2.1 - 1 - i < j := fun j a b => by omega
    generalize 2 ^ A.2.1 - 1 - i = s at hs N2 N3 K
    have h8 := pop_le s 8
    rw [if_neg (nI_pos (by omega))]
    refine wp_call (X7_bits7 hs (by omega)) (wp_eq (g110_27 R') (wp_eq g110_8 ?_))
    rw [F'.1.1]
    have END : ∀ h2 : HP, h2.1 128 s = nI (cs A L s) → (∀ j, s < j → j < 2 ^ A.2.1 → h2.1 128 j = nI (cs A L j)) → Same (fun a => a = 128) h h2 → wp (k (nI s + -1)) h2 fun _ h' => (∀ s, s < 2 ^ A.2.1 → h'.1 128 s = nI (cs A L s)) ∧ Same (fun a => a = 128) h h' := fun h2 a1 a2 a3 => K _ _ ⟨rfl, fun j j1 j2 => by
      by_cases c : j = s
      · rw [c]
        exact a1
      · exact a2 j (N3 j j1 c) j2, a3⟩
    by_cases hf : s = 2 ^ A.2.1 - 1
    · have hp : pop s 8 = A.2.1 := by
        rw [hf, pop_ext (show 2 ^ A.2.1 - 1 < 2 ^ A.2.1 by omega) (show A.2.1 ≤ 8 by omega)]
        exact pop_full fun j hj => by rw [tb_ones]; simp [hj]
      have hc : cs A L s = 0 := by
        unfold cs
        rw [hp, Nat.sub_self]
        rfl
      rw [if_neg (fun q => q (by rw [hp]))]
      refine wp_eq (s128 (by omega)) ?_
      have E2 := END (setR h'.1 128 (upd (h'.1 128) s 0), h'.2) (by dsimp only; rw [set_eq, upd_eq, hc]; rfl) (fun j j1 j2 => by
        dsimp only
        rw [set_eq, upd_ne _ _ (by omega)]
        exact N2 j j1 j2) ⟨S.1, fun a ha => by
          dsimp only
          rw [set_ne _ _ ha]
          exact S.2 a ha⟩
      refine wp_eq (lp_pure (s := fun j => nI j) 0 (nf_lt (by omega)) (fun j hj k2 => by omega) (fun k2 => ?_)) E2
      try dsimp only
      rw [g110_8, show (setR h'.1 128 (upd (h'.1 128) s 0), h'.2).1 110 8 = nI A.2.1 from by dsimp only; rw [set_ne _ _ (by decide)]; exact F'.1.1, ifa]
      by_cases z : A.2.1 = 0
      · rw [if_pos (nI_le (by omega) (by omega))]
      · rw [if_neg (nI_ge (by omega) (by omega)), g110_8, show (setR h'.1 128 (upd (h'.1 128) s 0), h'.2).1 110 8 = nI A.2.1 from by dsimp only; rw [set_ne _ _ (by decide)]; exact F'.1.1, ifa, hp, if_pos (nI_le (Nat.le_refl _) (by omega))]
    · have hp := pop_lt hs hf
      rw [← pop_ext hs (show A.2.1 ≤ 8 by omega)] at hp
      rw [if_pos (fun q => absurd ((nI_eq (by omega) (by omega)).mp q) (by omega))]
      refine wp_eq (s128 (by omega)) ?_
      refine wp_loop (fun j x h2 => x = nI j ∧ h2.1 128 s = nI ((cb A L s j).getD Big) ∧ (∀ j, s < j → j < 2 ^ A.2.1 → h2.1 128 j = nI (cs A L j)) ∧ Same (fun a => a = 128) h h2) A.2.1 (nf_lt (by omega)) (fun j hj x h2 q k2 K2 => ?_) (fun x h2 k2 q => ?_) ⟨rfl, by dsimp only; rw [set_eq, upd_eq]; rfl, fun j j1 j2 => by
        dsimp only
        rw [set_eq, upd_ne _ _ (by omega)]
        exact N2 j j1 j2, S.1, fun a ha => by
          dsimp only
          rw [set_ne _ _ ha]
          exact S.2 a ha⟩
      · obtain ⟨rfl, P1, P2, S2⟩ := q
        have SG2 : LvY h h2 := LvY.of (S2.wide fun x q => by omega)
        have R2 := RefOk.same S2 R
        have F2 := SG2.mod F
        have T2 := T.lv SG2
        have lb := gd_le (B := Big) (cb_le (s := s) (i := j) G GL (by omega) (by omega)) (by decide)
        have lc := cf_le (s := s) (j := j) G GL (by omega) (by omega)
        have bg : Big < 2 ^ 31 := by decide
        have bg2 : 999 ≤ Big := by decide
        rw [cb_s] at K2
        refine wp_eq g110_8 ?_
        rw [F2.1.1, if_neg (nI_ge hj (by omega))]
        refine wp_eq g110_8 ?_
        rw [F2.1.1, if_neg (nI_ge hp (by omega))]
        refine wp_call (X7_has (by omega) (by omega)) ?_
        rw [nI_1]
        have FIN : ∀ y : Nat, y ≤ Big → (fun s19 : Int32 => bnd (gR 6 27 110) fun r21 => bnd (gR 6 27 110) fun r22 => bnd (aI r22 (nI s)) fun t23 => if t23 ≤ s19 then bnd (gR 6 27 110) fun r24 => bnd (aI r24 (nI s)) fun t25 => bnd (sI r21 (nI s) t25) fun _ => k2 (nI (j + 1)) else bnd (sI r21 (nI s) s19) fun _ => k2 (nI (j + 1))) (nI y) h2 = k2 (nI (j + 1)) (setR h2.1 128 (upd (h2.1 128) s (nI (min ((cb A L s j).getD Big) y))), h2.2) := fun y hy => by
          dsimp only
          rw [g110_27 R2, g110_27 R2, a128 (by omega), P1, ifa]
          by_cases w : (cb A L s j).getD Big ≤ y
          · rw [if_pos ((nI_leI (by omega) (by omega)).mpr w), g110_27 R2, a128 (by omega), P1, s128 (by omega), Nat.min_eq_left w]
          · rw [if_neg (fun q => w ((nI_leI (by omega) (by omega)).mp q)), s128 (by omega), Nat.min_eq_right (by omega)]
        have NX : ∀ y : Nat, nI (min ((cb A L s j).getD Big) y) = nI ((if tb s j = true then cb A L s j else mg 1 (cf A L s j) (cb A L s j)).getD Big) → wp (k2 (nI (j + 1))) (setR h2.1 128 (upd (h2.1 128) s (nI (min ((cb A L s j).getD Big) y))), h2.2) fun _ h' => (∀ s, s < 2 ^ A.2.1 → h'.1 128 s = nI (cs A L s)) ∧ Same (fun a => a = 128) h h' := fun y hy => by
          rw [hy]
          refine K2 _ _ ⟨rfl, by dsimp only; rw [set_eq, upd_eq], fun j j1 j2 => ?_, S2.1, fun a ha => ?_⟩
          · dsimp only
            rw [set_eq, upd_ne _ _ (by omega)]
            exact P2 j j1 j2
          · dsimp only
            rw [set_ne _ _ ha]
            exact S2.2 a ha
        cases z : tb s j
        · have ho := or_lt hs hj
          have lp := pow_lt31 hj
          have g2 := (G.2 (pop s 8) (by omega)).2.2.1
          have gl := GL.2 j (by omega)
          have lcs := cs_le G GL (s ||| 2 ^ j)
          refine wp_eq (show _ = k2 (nI (j + 1)) (setR h2.1 128 (upd (h2.1 128) s (nI (min ((cb A L s j).getD Big) (cf A L s j)))), h2.2) from ?_) (NX _ ?_)
          · refine Eq.trans ?_ (FIN (cf A L s j) (by omega))
            unfold jn
            dsimp only
            rw [if_pos (show (if false = true then (1 : Int32) else 0) = 0 from rfl), g110_3 R2, a114 (by omega), F2.2.2.2.1 _ (by omega), g110_24 R2, a126 (by omega), T2.2 j (by omega), e_bnd (X7_far (by omega) (by omega)), g110_27 R2, nI_shl1 (by omega), nI_or (by omega) (by omega), a128 (by omega), P2 _ (or_gt z) ho, nI_add]
            rfl
          · rw [gd_min (by omega), z]
            rfl
        · refine wp_eq (show _ = k2 (nI (j + 1)) (setR h2.1 128 (upd (h2.1 128) s (nI (min ((cb A L s j).getD Big) Big))), h2.2) from ?_) (NX _ ?_)
          · exact FIN Big (Nat.le_refl _)
          · rw [Nat.min_eq_left lb, z]
            rfl
      · obtain ⟨rfl, P1, P2, S2⟩ := q
        have SG2 : LvY h h2 := LvY.of (S2.wide fun x q => by omega)
        have F2 := SG2.mod F
        refine wp_eq g110_8 ?_
        rw [F2.1.1, if_pos (nI_le (Nat.le_refl _) (by omega))]
        rw [(cs_cb G hs hf).1] at P1
        exact END h2 P1 P2 S2
  · obtain ⟨rfl, N1, S⟩ := q
    rw [dm_end, if_pos (by decide)]
    exact wp_rt ⟨fun s hs => N1 s (by omega) hs, S⟩
theorem X7_photoOf {h : HP} {A : AV} {L : Nat × (Nat → Nat)} {t i : Nat} (R : RefOk h.2) (F : ModIs h A) (G : GoodA A) (T : RowY h L) (GL : GoodL L) (hL : L.1 = A.2.1) (hc : ∀ s, s < 2 ^ A.2.1 → h.1 128 s = nI (cs A L s)) (ht : t < 2 ^ A.2.1) (hp : pop t 8 = i) (hi : i < A.2.1) : cv 6 110 (f_X7_photoOf 110 (nI i) (nI t)) h = some (nI (fp A L t), h) := by
  have hn := G.1.1
  have h7 := pow_le7 hn
  obtain ⟨f0, f1, f2⟩ := fp_ok (L := L) G ht (by omega)
  show f_X7_photoOf 110 (nI i) (nI t) h = _
  unfold f_X7_photoOf
  have lcs := cs_le G GL t
  have ST : ∀ j, j < A.2.1 → tb t j = false → ∀ (k : Int32 → M Int32) z, (if ¬ cf A L t j = cs A L t then k (nI j + 1) h else some (nI j, h)) = z → (bnd (gR 6 3 110) (fun r5 => bnd (aI r5 (nI i)) fun t6 => bnd (gR 6 24 110) fun r7 => bnd (aI r7 (nI j)) fun t8 => bnd (f_X7_far t6 t8) fun t9 => bnd (gR 6 27 110) fun r11 => bnd (aI r11 (nI t ||| ((1 : Int32) <<< (nI j &&& (31 : Int32))))) fun t12 => bnd (gR 6 27 110) fun r13 => bnd (aI r13 (nI t)) fun t14 => if (t9 + t12) = t14 then rt (nI j) else k (nI j + (1 : Int32))) h) = z := fun j hj tj k z H => by
    have ho := or_lt ht hj
    have lp := pow_lt31 hj
    have g2 := (G.2 i (by omega)).2.2.1
    have gl := GL.2 j (by omega)
    have lcf := cf_le (s := t) (j := j) G GL (by omega) (by omega)
    have lc2 := cs_le G GL (t ||| 2 ^ j)
    rw [g110_3 R, a114 (by omega), F.2.2.2.1 _ (by omega), g110_24 R, a126 (by omega), T.2 j (by omega), e_bnd (X7_far (by omega) (by omega)), g110_27 R, nI_shl1 (by omega), nI_or (by omega) (by omega), a128 (by omega), hc _ ho, g110_27 R, a128 (by omega), hc t ht, nI_add, ifa]
    have ec : ds (A.1 2 i) (L.2 j) + cs A L (t ||| 2 ^ j) = cf A L t j := by
      unfold cf
      rw [hp]
    rw [ec]
    rw [← H]
    by_cases c : cf A L t j = cs A L t
    · rw [if_pos (by rw [c]), if_neg (fun q => q c)]
      rfl
    · rw [if_neg (fun q => c ((nI_eq (by omega) (by omega)).mp q)), if_pos c]
  refine lp_first (fun j => fpP A L t j = true) 0 A.2.1 (by omega) (fun j _ hj c k => ?_) (fun j _ hj c e k => ?_) (fun e k => ?_)
  · rw [e_bnd (X7_has (by omega) (by omega)), tb_ifn]
    unfold fpP at c
    cases z : tb t j
    · simp only [Bool.false_eq_true, if_false]
      refine ST j (by omega) z k _ ?_
      rw [if_pos (fun q => c (by rw [z, q]; simp)), nI_1]
    · simp only [if_true]
      rw [nI_1]
  · rw [e_bnd (X7_has (by omega) (by omega)), tb_ifn]
    unfold fpP at c
    rw [Bool.and_eq_true, decide_eq_true_eq] at c
    have z : tb t j = false := by simpa using c.1
    rw [z]
    simp only [Bool.false_eq_true, if_false]
    refine ST j (by omega) z k _ ?_
    rw [if_neg (fun q => q c.2)]
    rw [f0] at e
    cases e
    rfl
  · rw [f0] at e
    cases e
theorem QY_photos {h : HP} {A : AV} {L : Nat × (Nat → Nat)} {x : Int32} (R : RefOk h.2) (F : ModIs h A) (G : GoodA A) (T : RowY h L) (GL : GoodL L) : wp (f_X7_photos 110 x) h (OutY h (phN A L x) (phS A L x)) := by
  have hn := G.1.1
  have hl := GL.1
  unfold f_X7_photos
  have H2 : ∀ K : Int32 → M Int32, wp (K (phN A L x)) h (OutY h (phN A L x) (phS A L x)) → wp (jn (fun k2 => if (-1 : Int32) ≤ x then bnd (gI 6 25 110) fun t16 => bnd (gI 6 8 110) fun t17 => if t16 = t17 then k2 (0 : Int32) else k2 (-3 : Int32) else k2 (-4 : Int32)) K) h (OutY h (phN A L x) (phS A L x)) := fun K H => by
    unfold jn
    dsimp only
    unfold phN fs at H ⊢
    by_cases c : (-1 : Int32) ≤ x
    · rw [if_pos c]
      simp only [c, if_true] at H ⊢
      refine wp_eq g110_25 (wp_eq g110_8 ?_)
      rw [T.1, F.1.1]
      by_cases d : L.1 = A.2.1
      · rw [if_pos (by rw [d])]
        simp only [d, if_true] at H ⊢
        exact H
      · rw [if_neg (fun q => d ((nI_eq (by omega) (by omega)).mp q))]
        simp only [d, if_false] at H ⊢
        exact H
    · rw [if_neg c]
      simp only [c, if_false, show ¬ (-4 : Int32) = 0 by decide] at H ⊢
      exact H
  refine H2 _ (gY R phN_no fun e => ?_)
  obtain ⟨e1, e2⟩ := phN_z e
  refine wp_bnd (wp_mono (X7_findPhotos R F G T GL e2) fun v h1 q => ?_)
  obtain ⟨hc, S⟩ := q
  have S : LvY h h1 := LvY.of (S.wide fun x q => by omega)
  have R' := S.ref R
  have F' := S.mod F
  have T' := T.lv S
  unfold phS
  by_cases c : x = -1
  · subst c
    rw [if_neg (show ¬ (0 : Int32) ≤ -1 by decide), if_pos rfl]
    refine wp_eq (g110_27 R') (wp_eq (a128 (k := 0) (by omega)) ?_)
    rw [hc 0 (Nat.two_pow_pos _)]
    exact wp_rt ⟨rfl, S⟩
  · rw [if_neg c]
    have h0 : (0 : Int32) ≤ x := by
      rw [Int32.le_iff_toInt_le] at e1 ⊢
      have c' : ¬ x.toInt = (-1 : Int32).toInt := fun q => c (Int32.toInt_inj.mp q)
      have e0 : (0 : Int32).toInt = 0 := rfl
      have em : (-1 : Int32).toInt = -1 := rfl
      omega
    rw [if_pos h0]
    refine wp_eq g110_8 ?_
    rw [F'.1.1]
    by_cases d : nI A.2.1 ≤ x
    · rw [if_pos d, if_neg (Int32.not_lt.mpr d)]
      exact wp_rt ⟨rfl, S⟩
    · rw [if_neg d, if_pos (Int32.not_le.mp d)]
      obtain ⟨a, ha, rfl⟩ := ph_ix e1 c d hn
      rw [ix_nI (by omega)]
      refine ⟨_, h1, ?_, rfl, S⟩
      refine lp_pure (s := fun i => (nI (tk A L i), nI i)) a (nf_lt (by omega)) (fun i hi k => ?_) (fun k => ?_)
      · obtain ⟨t1, t2⟩ := tk_ok (L := L) G (i := i) (by omega)
        obtain ⟨-, f1, f2⟩ := fp_ok (L := L) G t1 (by omega)
        have h7 := pow_le7 hn
        have lp := pow_lt31 f1
        dsimp only
        rw [ifa, if_neg (nI_ge hi (by omega)), e_bnd (X7_photoOf R' F' G T' GL e2 hc t1 t2 (by omega)), nI_shl1 (by omega), nI_or (by omega) (by omega), nI_1, tk_s]
      · obtain ⟨t1, t2⟩ := tk_ok (L := L) G (i := a) (by omega)
        dsimp only
        rw [ifa, if_pos (nI_le (Nat.le_refl _) (by omega)), e_bnd (X7_photoOf R' F' G T' GL e2 hc t1 t2 (by omega))]
        rfl
