/-! TOWN: the reference, statement after statement -/
theorem ff_at {T : LV} {e : Nat} (h1 : e < T.1) (h2 : ∀ i, i < e → ft T.2 i = false) (h3 : ft T.2 e = true) : Ff T = some e := by
  unfold Ff
  rw [if_neg (by omega), fnd_at (i := e) (by omega) (by omega) h3 fun j _ hj => by rw [h2 j hj]; decide]
theorem ff_over {T : LV} (h0 : ¬ T.1 = 0) (h2 : ∀ i, i < T.1 → ft T.2 i = false) (h3 : (sc T.2 T.1).2 = true) : Ff T = some T.1 := by
  unfold Ff
  rw [if_neg h0, fnd_all fun j _ hj => by rw [h2 j (by omega)]; decide]
  dsimp only
  rw [if_pos h3]
theorem ff_ok {T : LV} (h0 : ¬ T.1 = 0) (h2 : ∀ i, i < T.1 → ft T.2 i = false) (h3 : (sc T.2 T.1).2 = false) : Ff T = none := by
  unfold Ff
  rw [if_neg h0, fnd_all fun j _ hj => by rw [h2 j (by omega)]; decide]
  dsimp only
  rw [h3]
  rfl
/-- the digits give out: that is the fault -/
theorem ff_bad {T : LV} {p j : Nat} (hp : p < T.1) (hs : (sc T.2 p).2 = false) (hf : ∀ i, i < p → ft T.2 i = false) (hd : ¬ dg (T.2 p) = 0) (hj : j < dg (T.2 p)) (h2 : ∀ i, i < j → dgt T (p + 1 + i)) (h3 : ¬ dgt T (p + 1 + j)) (h4 : p + 1 + j ≤ T.1) : Ff T = some (p + 1 + j) := by
  have nf : ∀ i, i < p + 1 + j → ft T.2 i = false := fun i hi => by
    by_cases c : i < p
    · exact hf i c
    by_cases d : i = p
    · subst d
      rw [ft_cmd hs]
      simp [hd]
    · have := h2 (i - p - 1) (by omega)
      have e := ft_dig hs (j := i - p - 1) (by omega)
      rw [show p + 1 + (i - p - 1) = i by omega] at this e
      rw [e]
      simp [this.2.1, this.2.2]
  by_cases c : p + 1 + j = T.1
  · rw [c]
    refine ff_over (by omega) (fun i hi => nf i (by omega)) ?_
    rw [← c, sc_run hs j (by omega)]
  · refine ff_at (by omega) nf ?_
    rw [ft_dig hs hj]
    cases z : (decide (48 ≤ T.2 (p + 1 + j)) && decide (T.2 (p + 1 + j) ≤ 57))
    · rfl
    · rw [Bool.and_eq_true, decide_eq_true_eq, decide_eq_true_eq] at z
      exact absurd ⟨by omega, z.1, z.2⟩ h3
def cmdc (c : Nat) : Prop := ¬ dg c = 0
def FrS (h h' : HP) (k : Nat) : Prop := h'.2 = h.2 ∧ (∀ a, ¬ a = 110 → ¬ (120 ≤ a ∧ a ≤ 122) → h'.1 a = h.1 a) ∧ (∀ j, ¬ j = 15 → h'.1 110 j = h.1 110 j) ∧ (∀ m, ¬ m = k → h'.1 120 m = h.1 120 m ∧ h'.1 121 m = h.1 121 m) ∧ ∀ m, m < 3 * k ∨ 3 * k + 3 ≤ m → h'.1 122 m = h.1 122 m
theorem X7_statement {h : HP} {T : LV} {k p : Nat} (R : RefOk h.2) (H : TpY h T) (G : GoodT T) (e15 : h.1 110 15 = nI p) (e16 : h.1 110 16 = nI k) (hp : p ≤ T.1) (hk : k < 40) (hp2 : p = T.1 → T.1 = 0) (hs : (sc T.2 p).2 = false) (hf : ∀ i, i < p → ft T.2 i = false) : wp (cv 6 110 (f_X7_statement 110)) h fun v h' => FrS h h' k ∧ ((v = 1 ∧ h'.1 110 15 = nI (p + 1 + dg (T.2 p) + 1) ∧ p + 1 + dg (T.2 p) + 1 ≤ T.1 ∧ (∀ i, i < p + 1 + dg (T.2 p) + 1 → ft T.2 i = false) ∧ Wf T p ∧ h'.1 120 k = nI (T.2 p) ∧ h'.1 121 k = nI p ∧ Told h' T.2 k p) ∨ (v = 0 ∧ ∃ e, Ff T = some e ∧ h'.1 110 15 = nI e)) := by
  have hn := G.1
  show wp (f_X7_statement 110) h _
  unfold f_X7_statement
  refine wp_call (X7_next R H hn e15 hp) ?_
  unfold jn
  dsimp only
  by_cases c : T.1 ≤ p
  · have n0 : T.1 = 0 := hp2 (by omega)
    have p0 : p = 0 := by omega
    rw [if_pos c, if_neg (by decide), if_neg (by decide), if_neg (by decide), if_neg (by decide), if_neg (by decide), if_neg (by decide)]
    refine wp_retZ (Or.inl rfl) ⟨⟨rfl, fun _ _ _ => rfl, fun _ _ => rfl, fun _ _ => ⟨rfl, rfl⟩, fun _ _ => rfl⟩, Or.inr ⟨rfl, 0, ?_, by rw [e15, p0]⟩⟩
    unfold Ff
    rw [if_pos n0]
  have hp1 : p < T.1 := by omega
  have g := G.2 p hp1
  have E : ∀ k, k ≤ 255 → (nI (T.2 p) = nI k) = (T.2 p = k) := fun k hk => eq_nI (by omega) (by omega)
  rw [if_neg c]
  by_cases hd : dg (T.2 p) = 0
  · have ne : ∀ k, ¬ dg k = 0 → k ≤ 255 → ¬ nI (T.2 p) = nI k := fun k h1 h2 q => h1 (by rw [← Eq.mp (E k h2) q]; exact hd)
    rw [if_neg (show ¬ nI (T.2 p) = 112 from ne 112 (by decide) (by omega)), if_neg (show ¬ nI (T.2 p) = 97 from ne 97 (by decide) (by omega)), if_neg (show ¬ nI (T.2 p) = 98 from ne 98 (by decide) (by omega)), if_neg (show ¬ nI (T.2 p) = 119 from ne 119 (by decide) (by omega)), if_neg (show ¬ nI (T.2 p) = 103 from ne 103 (by decide) (by omega)), if_neg (show ¬ nI (T.2 p) = 110 from ne 110 (by decide) (by omega))]
    refine wp_retZ (Or.inl rfl) ⟨⟨rfl, fun _ _ _ => rfl, fun _ _ => rfl, fun _ _ => ⟨rfl, rfl⟩, fun _ _ => rfl⟩, Or.inr ⟨rfl, p, ff_at hp1 hf ?_, e15⟩⟩
    rw [ft_cmd hs]
    simp [hd]
  · have GO : wp (bnd (gR 6 11 110) fun r5 => bnd (gI 6 16 110) fun t6 => bnd (sI r5 t6 (nI (T.2 p))) fun _ => bnd (gR 6 12 110) fun r7 => bnd (gI 6 16 110) fun t8 => bnd (gI 6 15 110) fun t9 => bnd (sI r7 t8 t9) fun _ => bnd (gI 6 15 110) fun t10 => bnd (pI 6 15 110 (t10 + (1 : Int32))) fun _ => bnd (gI 6 16 110) fun t11 => bnd (cv 6 110 (f_X7_readsAll 110 (nI (T.2 p)) ((3 : Int32) * t11))) fun t12 => if t12 = (0 : Int32) then retZ (0 : Int32) else bnd (cv 6 110 (f_X7_next 110)) fun t14 => if t14 = (59 : Int32) then bnd (gI 6 15 110) fun t16 => bnd (pI 6 15 110 (t16 + (1 : Int32))) fun _ => retZ (1 : Int32) else retZ (0 : Int32)) h fun v h' => FrS h h' k ∧ ((v = 1 ∧ h'.1 110 15 = nI (p + 1 + dg (T.2 p) + 1) ∧ p + 1 + dg (T.2 p) + 1 ≤ T.1 ∧ (∀ i, i < p + 1 + dg (T.2 p) + 1 → ft T.2 i = false) ∧ Wf T p ∧ h'.1 120 k = nI (T.2 p) ∧ h'.1 121 k = nI p ∧ Told h' T.2 k p) ∨ (v = 0 ∧ ∃ e, Ff T = some e ∧ h'.1 110 15 = nI e)) := by
      refine wp_eq (g110_11 R) (wp_eq g110_16 ?_)
      rw [e16]
      refine wp_eq (s120 (by omega)) ?_
      generalize a1 : (setR h.1 120 (upd (h.1 120) k (nI (T.2 p))), h.2) = h1
      have n1 : ∀ a, ¬ a = 120 → h1.1 a = h.1 a := fun a ha => by rw [← a1]; dsimp only; rw [set_ne _ _ ha]
      have w1 : h1.1 120 = upd (h.1 120) k (nI (T.2 p)) := by rw [← a1]; dsimp only; rw [set_eq]
      have q1 : h1.2 = h.2 := by rw [← a1]
      have R1 : RefOk h1.2 := by rw [q1]; exact R
      refine wp_eq (g110_12 R1) (wp_eq g110_16 (wp_eq g110_15 ?_))
      rw [n1 110 (by omega), e16, e15]
      refine wp_eq (s121 (by omega)) ?_
      generalize a2 : (setR h1.1 121 (upd (h1.1 121) k (nI p)), h1.2) = h2
      have n2 : ∀ a, ¬ a = 121 → h2.1 a = h1.1 a := fun a ha => by rw [← a2]; dsimp only; rw [set_ne _ _ ha]
      have w2 : h2.1 121 = upd (h1.1 121) k (nI p) := by rw [← a2]; dsimp only; rw [set_eq]
      have q2 : h2.2 = h1.2 := by rw [← a2]
      refine wp_eq g110_15 ?_
      rw [n2 110 (by omega), n1 110 (by omega), e15, nI_1]
      refine wp_eq p110_15 ?_
      generalize a3 : (setR h2.1 110 (upd (h2.1 110) 15 (nI (p + 1))), h2.2) = h3
      have n3 : ∀ a, ¬ a = 110 → h3.1 a = h2.1 a := fun a ha => by rw [← a3]; dsimp only; rw [set_ne _ _ ha]
      have w3 : h3.1 110 15 = nI (p + 1) := by rw [← a3]; dsimp only; rw [set_eq, upd_eq]
      have w3' : ∀ j, ¬ j = 15 → h3.1 110 j = h.1 110 j := fun j hj => by rw [← a3]; dsimp only; rw [set_eq, upd_ne _ _ hj, n2 110 (by omega), n1 110 (by omega)]
      have q3 : h3.2 = h.2 := by rw [← a3]; exact q2.trans q1
      have R3 : RefOk h3.2 := by rw [q3]; exact R
      have H3 : TpY h3 T := ⟨(w3' 14 (by omega)).trans H.1, fun j hj => by rw [n3 119 (by omega), n2 119 (by omega), n1 119 (by omega)]; exact H.2 j hj⟩
      refine wp_eq g110_16 ?_
      rw [w3' 16 (by omega), e16]
      refine wp_bnd (wp_mono (X7_readsAll R3 H3 G w3 hp1 hk hd) fun v h4 q => ?_)
      obtain ⟨r4, m4, q⟩ := q
      have R4 : RefOk h4.2 := by rw [r4.1]; exact R3
      have z120 : h4.1 120 = upd (h.1 120) k (nI (T.2 p)) := by rw [r4.2.1 120 (by omega) (by omega), n3 120 (by omega), n2 120 (by omega), w1]
      have z121 : h4.1 121 = upd (h.1 121) k (nI p) := by rw [r4.2.1 121 (by omega) (by omega), n3 121 (by omega), w2, n1 121 (by omega)]
      have fr : FrS h h4 k := ⟨r4.1.trans q3, fun a b1 b2 => by rw [r4.2.1 a b1 (by omega), n3 a b1, n2 a (by omega), n1 a (by omega)], fun j hj => by rw [r4.2.2 j hj, w3' j hj], fun m hm => ⟨by rw [z120, upd_ne _ _ hm], by rw [z121, upd_ne _ _ hm]⟩, fun m hm => by rw [m4 m hm, n3 122 (by omega), n2 122 (by omega), n1 122 (by omega)]⟩
      rcases q with ⟨f1, rfl, f3, f4, f5⟩ | b
      · rw [if_neg (show ¬ (1 : Int32) = 0 by decide)]
        have H4 := r4.tp H3
        refine wp_call (X7_next R4 H4 hn f3 f4) ?_
        have nf : ∀ i, i < p + 1 + dg (T.2 p) → ft T.2 i = false := fun i hi => by
          by_cases c1 : i < p
          · exact hf i c1
          by_cases d1 : i = p
          · subst d1
            rw [ft_cmd hs]
            simp [hd]
          · have := f1 (i - p - 1) (by omega)
            have e := ft_dig hs (j := i - p - 1) (by omega)
            rw [show p + 1 + (i - p - 1) = i by omega] at this e
            rw [e]
            simp [this.2.1, this.2.2]
        by_cases c1 : T.1 ≤ p + 1 + dg (T.2 p)
        · have en : p + 1 + dg (T.2 p) = T.1 := by omega
          rw [if_pos c1, if_neg (show ¬ (-1 : Int32) = 59 by decide)]
          refine wp_retZ (Or.inl rfl) ⟨fr, Or.inr ⟨rfl, p + 1 + dg (T.2 p), ?_, f3⟩⟩
          rw [en]
          refine ff_over (by omega) (fun i hi => nf i (by omega)) ?_
          rw [← en, sc_run hs _ (Nat.le_refl _)]
        · have g2 := G.2 (p + 1 + dg (T.2 p)) (by omega)
          rw [if_neg c1]
          by_cases c2 : T.2 (p + 1 + dg (T.2 p)) = 59
          · rw [if_pos (show nI (T.2 (p + 1 + dg (T.2 p))) = 59 by rw [c2]; rfl)]
            refine wp_eq g110_15 ?_
            rw [f3, nI_1]
            have e4 : ∀ a, ¬ a = 110 → (setR h4.1 110 (upd (h4.1 110) 15 (nI (p + 1 + dg (T.2 p) + 1))), h4.2).1 a = h4.1 a := fun a ha => by dsimp only; rw [set_ne _ _ ha]
            refine wp_eq p110_15 (wp_retZ (Or.inr rfl) ⟨⟨fr.1, fun a b1 b2 => by rw [e4 a b1]; exact fr.2.1 a b1 b2, fun j hj => by dsimp only; rw [set_eq, upd_ne _ _ hj]; exact fr.2.2.1 j hj, fun m hm => by rw [e4 120 (by omega), e4 121 (by omega)]; exact fr.2.2.2.1 m hm, fun m hm => by rw [e4 122 (by omega)]; exact fr.2.2.2.2 m hm⟩, Or.inl ⟨rfl, ?_, by omega, fun i hi => ?_, ⟨hp1, hd, fun j hj => ?_⟩, ?_, ?_, ?_⟩⟩)
            · dsimp only
              rw [set_eq, upd_eq]
            · by_cases w : i < p + 1 + dg (T.2 p)
              · exact nf i w
              · rw [show i = p + 1 + dg (T.2 p) by omega, ft_semi hs]
                simp [c2]
            · have := f1 j hj
              exact ⟨this.1, this.2.1, this.2.2⟩
            · rw [e4 120 (by omega), z120, upd_eq]
            · rw [e4 121 (by omega), z121, upd_eq]
            · unfold Told
              rw [e4 122 (by omega)]
              exact f5
          · rw [if_neg (show ¬ nI (T.2 (p + 1 + dg (T.2 p))) = 59 from fun q => c2 ((nI_eq (b := 59) (by omega) (by omega)).mp q))]
            refine wp_retZ (Or.inl rfl) ⟨fr, Or.inr ⟨rfl, p + 1 + dg (T.2 p), ff_at (by omega) nf ?_, f3⟩⟩
            rw [ft_semi hs]
            simp [c2]
      · obtain ⟨j, j1, j2, j3, rfl, j5, j6⟩ := b
        rw [if_pos rfl]
        exact wp_retZ (Or.inl rfl) ⟨fr, Or.inr ⟨rfl, p + 1 + j, ff_bad hp1 hs hf hd j1 j2 j3 j6, j5⟩⟩
    have ne : ∀ k, ¬ T.2 p = k → k ≤ 255 → ¬ nI (T.2 p) = nI k := fun k h1 h2 q => h1 (Eq.mp (E k h2) q)
    by_cases w1 : T.2 p = 112
    · rw [if_pos (show nI (T.2 p) = 112 by rw [w1]; rfl)]
      exact GO
    rw [if_neg (show ¬ nI (T.2 p) = 112 from ne 112 w1 (by omega))]
    by_cases w2 : T.2 p = 97
    · rw [if_pos (show nI (T.2 p) = 97 by rw [w2]; rfl)]
      exact GO
    rw [if_neg (show ¬ nI (T.2 p) = 97 from ne 97 w2 (by omega))]
    by_cases w3 : T.2 p = 98
    · rw [if_pos (show nI (T.2 p) = 98 by rw [w3]; rfl)]
      exact GO
    rw [if_neg (show ¬ nI (T.2 p) = 98 from ne 98 w3 (by omega))]
    by_cases w4 : T.2 p = 119
    · rw [if_pos (show nI (T.2 p) = 119 by rw [w4]; rfl)]
      exact GO
    rw [if_neg (show ¬ nI (T.2 p) = 119 from ne 119 w4 (by omega))]
    by_cases w5 : T.2 p = 103
    · rw [if_pos (show nI (T.2 p) = 103 by rw [w5]; rfl)]
      exact GO
    rw [if_neg (show ¬ nI (T.2 p) = 103 from ne 103 w5 (by omega))]
    by_cases w6 : T.2 p = 110
    · rw [if_pos (show nI (T.2 p) = 110 by rw [w6]; rfl)]
      exact GO
    exfalso
    apply hd
    unfold dg
    rw [if_neg w2, if_neg w3, if_neg w5, if_neg w6, if_neg w1, if_neg w4]
/-! the reference does a statement -/
def TrY (h : HP) (o : Option (AV × PV)) (s : AV × PV) (v : Int32) (h' : HP) : Prop := ((o = none ∧ v = 0 ∧ ModIs h' s.1 ∧ PlY h' s.2) ∨ ∃ s', o = some s' ∧ v = 1 ∧ ModIs h' s'.1 ∧ PlY h' s'.2) ∧ h'.2 = h.2 ∧ (∀ a, ¬ (a = 110 ∨ (112 ≤ a ∧ a ≤ 118) ∨ a = 124) → h'.1 a = h.1 a) ∧ ∀ k, ¬ k = 8 → ¬ k = 9 → h'.1 110 k = h.1 110 k
theorem trzY {h : HP} {s : AV × PV} {o : Option (AV × PV)} (e : o = none) (F : ModIs h s.1) (T : PlY h s.2) : wp (retZ (0 : Int32)) h (TrY h o s) := wp_retZ (Or.inl rfl) ⟨Or.inl ⟨e, rfl, F, T⟩, rfl, fun _ _ => rfl, fun _ _ _ => rfl⟩
theorem pnN {n x : Nat} (hn : n ≤ 7) (hx : x ≤ 9) : pn n (nI x) = decide (x < n) := by
  by_cases c : x < n
  · rw [pn_nI c (by omega)]
    simp [c]
  · cases z : pn n (nI x)
    · simp [c]
    · obtain ⟨k, hk, e⟩ := pn_ix z (by omega)
      have := (nI_eq (by omega) (by omega)).mp e
      omega
theorem X7_comes {h : HP} {T : LV} {m q : Nat} {s : AV × PV} (R : RefOk h.2) (G : GoodT T) (W : Wf T q) (hm : m < 40) (e1 : h.1 120 m = nI (T.2 q)) (TO : Told h T.2 m q) (F : ModIs h s.1) (P : PlY h s.2) (ga : GA s.1) (gp : GP' s.2) : wp (cv 6 110 (f_X7_comes 110 (nI m))) h (TrY h (opS T.2 q s) s) := by
  obtain ⟨t1, t2, t3⟩ := TO
  obtain ⟨w1, w2, w3⟩ := id W
  have g := G.2 q w1
  have hn := ga.1.1.1
  have h7 := pow_le7 hn
  have hw := ga.2
  have E : ∀ k, k ≤ 255 → (nI (T.2 q) = nI k) = (T.2 q = k) := fun k hk => eq_nI (by omega) (by omega)
  have d0 := w3 0 (by omega)
  rw [show q + 1 + 0 = q + 1 by omega] at d0
  have hx : ax T.2 q ≤ 9 := by unfold ax; omega
  have hy : ∀ c, T.2 q = c → 1 < dg c → ¬ c = 98 → ay T.2 q ≤ 9 := fun c hc hd h98 => by
    subst hc
    have e1 := w3 1 hd
    rw [show q + 1 + 1 = q + 2 by omega] at e1
    unfold ay
    rw [if_neg h98]
    omega
  show wp (f_X7_comes 110 (nI m)) h _
  unfold f_X7_comes
  rw [show (3 : Int32) * nI m = nI (3 * m) from pk_mul 3 m, nI_1, show nI (3 * m) + 2 = nI (3 * m + 2) from nI_add (3 * m) 2]
  refine wp_eq (g110_13 R) (wp_eq (a122 (by omega)) (wp_eq (g110_13 R) (wp_eq (a122 (by omega)) (wp_eq (g110_11 R) (wp_eq (a120 (by omega)) ?_)))))
  rw [t1, e1]
  unfold opS opV
  by_cases c1 : T.2 q = 97
  · rw [if_pos (show nI (T.2 q) = 97 by rw [c1]; rfl), if_pos c1, t2 (by omega)]
    have y9 := hy 97 c1 (by decide) (by decide)
    refine wp_call (X7_areTwo F.1.1) ?_
    rw [tb_ifn, pnN hn hx, pnN hn y9]
    by_cases z : ax T.2 q < s.1.2.1 ∧ ay T.2 q < s.1.2.1 ∧ ¬ ax T.2 q = ay T.2 q
    · have zz : ¬ nI (ax T.2 q) = nI (ay T.2 q) := fun p => z.2.2 ((nI_eq (by omega) (by omega)).mp p)
      rw [if_pos (by simp [z.1, z.2.1, zz])]
      have x7 : ax T.2 q < 7 := by omega
      have g4 := (ga.1.2 _ x7).2.2.2.2
      refine wp_eq (g110_5 R) (wp_eq (a116 x7) ?_)
      rw [F.2.2.2.2.2 _ x7, nI_xorb (by omega) (by omega)]
      have F2 := F.set (r := 4) (p := ax T.2 q) (v := s.1.1 4 (ax T.2 q) ^^^ 2 ^ ay T.2 q) (by omega)
      refine wp_eq (s116 x7) (wp_retZ (Or.inr rfl) ⟨Or.inr ⟨_, if_pos z, rfl, F2, P.fr ?_ ?_⟩, rfl, fun a ha => ?_, fun k _ _ => ?_⟩)
      · dsimp only
        rw [set_ne _ _ (by decide)]
      · dsimp only
        rw [set_ne _ _ (by decide)]
      · dsimp only
        rw [set_ne _ _ (by omega)]
      · dsimp only
        rw [set_ne _ _ (by decide)]
    · rw [if_neg (fun p => z ?_)]
      · exact trzY (if_neg z) F P
      · rw [Bool.and_eq_true, Bool.and_eq_true, decide_eq_true_eq, decide_eq_true_eq, decide_eq_true_eq] at p
        exact ⟨p.1.1, p.1.2, fun w => p.2 (by rw [w])⟩
  rw [if_neg (show ¬ nI (T.2 q) = 97 from fun p => c1 (Eq.mp (E 97 (by omega)) p)), if_neg c1]
  by_cases c2 : T.2 q = 98
  · rw [if_pos (show nI (T.2 q) = 98 by rw [c2]; rfl), if_pos c2, t2 (by omega)]
    refine wp_call (X7_isPerson F.1.1) ?_
    rw [tb_ifn, pnN hn hx]
    by_cases z : ax T.2 q < s.1.2.1
    · rw [if_pos (by simp [z])]
      have x7 : ax T.2 q < 7 := by omega
      have F2 := F.set (r := 3) (p := ax T.2 q) (v := ay T.2 q) (by omega)
      refine wp_eq (g110_4 R) (wp_eq (s115 x7) (wp_retZ (Or.inr rfl) ⟨Or.inr ⟨_, if_pos z, rfl, F2, P.fr ?_ ?_⟩, rfl, fun a ha => ?_, fun k _ _ => ?_⟩))
      · dsimp only
        rw [set_ne _ _ (by decide)]
      · dsimp only
        rw [set_ne _ _ (by decide)]
      · dsimp only
        rw [set_ne _ _ (by omega)]
      · dsimp only
        rw [set_ne _ _ (by decide)]
    · rw [if_neg (by simp [z])]
      exact trzY (if_neg z) F P
  rw [if_neg (show ¬ nI (T.2 q) = 98 from fun p => c2 (Eq.mp (E 98 (by omega)) p)), if_neg c2]
  by_cases c3 : T.2 q = 103
  · rw [if_pos (show nI (T.2 q) = 103 by rw [c3]; rfl), if_pos c3, t2 (by omega)]
    have y9 := hy 103 c3 (by decide) (by decide)
    refine wp_call X7_isPlace ?_
    rw [tb_if, pn8 hx]
    by_cases z : ax T.2 q < 8
    · rw [if_pos (by simp [z])]
      by_cases w : ay T.2 q < 4
      · rw [if_pos (show nI (ay T.2 q) ≤ (3 : Int32) from (nI_leI (b := 3) (by omega) (by omega)).mpr (by omega))]
        refine wp_eq (g110_7 R) (wp_eq (s118 z) (wp_retZ (Or.inr rfl) ⟨Or.inr ⟨_, if_pos ⟨z, w⟩, rfl, F.fr ?_ ?_ (fun a b1 b2 => ?_), fun k hk => ?_, fun k hk => ?_⟩, rfl, fun a ha => ?_, fun k _ _ => ?_⟩))
        · dsimp only
          rw [set_ne _ _ (by decide)]
        · dsimp only
          rw [set_ne _ _ (by decide)]
        · dsimp only
          rw [set_ne _ _ (by omega)]
        · dsimp only [hgP]
          rw [set_ne _ _ (by decide)]
          exact P.1 k hk
        · dsimp only [hgP]
          rw [set_eq]
          by_cases c : k = ax T.2 q
          · rw [if_pos c, c, upd_eq]
          · rw [if_neg c, upd_ne _ _ c]
            exact P.2 k hk
        · dsimp only
          rw [set_ne _ _ (by omega)]
        · dsimp only
          rw [set_ne _ _ (by decide)]
      · rw [if_neg (show ¬ nI (ay T.2 q) ≤ (3 : Int32) from fun p => by have := (nI_leI (b := 3) (by omega) (by omega)).mp p; omega)]
        exact trzY (if_neg fun p => w p.2) F P
    · rw [if_neg (by simp [z])]
      exact trzY (if_neg fun p => z p.1) F P
  rw [if_neg (show ¬ nI (T.2 q) = 103 from fun p => c3 (Eq.mp (E 103 (by omega)) p)), if_neg c3]
  by_cases c4 : T.2 q = 112
  · rw [if_pos (show nI (T.2 q) = 112 by rw [c4]; rfl), if_pos c4, t2 (by omega)]
    by_cases z : ax T.2 q < 6
    · rw [if_neg (show ¬ (5 : Int32) < nI (ax T.2 q) from fun p => absurd ((nI_ltI (a := 5) (by omega) (by omega)).mp p) (by omega))]
      refine wp_eq g110_8 ?_
      rw [F.1.1]
      by_cases w : s.1.2.1 < 7
      · rw [if_pos (show ¬ nI s.1.2.1 = (7 : Int32) from fun p => by have := (nI_eq (b := 7) (by omega) (by omega)).mp p; omega)]
        refine wp_eq (g110_13 R) (wp_eq (a122 (by omega)) ?_)
        rw [t3 c4]
        refine wp_bnd (wp_mono (X7_adds R F w) fun _ h1 p => ?_)
        obtain ⟨F2, S2, k2⟩ := p
        exact wp_retZ (Or.inr rfl) ⟨Or.inr ⟨_, if_pos ⟨z, w⟩, rfl, F2, P.fr (S2.2 117 (by omega)) (S2.2 118 (by omega))⟩, S2.1, fun a ha => S2.2 a (by omega), fun k b1 _ => k2 k b1⟩
      · rw [if_neg (show ¬ ¬ nI s.1.2.1 = (7 : Int32) from fun p => p (by rw [show s.1.2.1 = 7 by omega]; rfl))]
        exact trzY (if_neg fun p => w p.2) F P
    · rw [if_pos (show (5 : Int32) < nI (ax T.2 q) from (nI_ltI (a := 5) (by omega) (by omega)).mpr (by omega))]
      exact trzY (if_neg fun p => z p.1) F P
  rw [if_neg (show ¬ nI (T.2 q) = 112 from fun p => c4 (Eq.mp (E 112 (by omega)) p)), if_neg c4]
  by_cases c5 : T.2 q = 119
  · rw [if_pos (show nI (T.2 q) = 119 by rw [c5]; rfl), if_pos c5, t2 (by omega)]
    have y9 := hy 119 c5 (by decide) (by decide)
    refine wp_call X7_isPlace ?_
    rw [tb_if, pn8 hx]
    by_cases z : ax T.2 q < 8
    · rw [if_pos (by simp [z])]
      refine wp_call X7_isPlace ?_
      rw [tb_if, pn8 y9]
      by_cases w : ay T.2 q < 8
      · rw [if_pos (by simp [w])]
        by_cases u : ax T.2 q = ay T.2 q
        · rw [if_neg (fun p => p (by rw [u]))]
          exact trzY (if_neg fun p => p.2.2 u) F P
        · rw [if_pos (fun p => u ((nI_eq (by omega) (by omega)).mp p))]
          refine wp_bnd (wp_mono (X7_turnsWay R P gp.1 z w u) fun _ h1 p => ?_)
          obtain ⟨P2, S2⟩ := p
          exact wp_retZ (Or.inr rfl) ⟨Or.inr ⟨_, if_pos ⟨z, w, u⟩, rfl, F.fr (by rw [S2.2 110 (by decide)]) (by rw [S2.2 110 (by decide)]) fun a b1 b2 => S2.2 a (by omega), P2⟩, S2.1, fun a ha => S2.2 a (by omega), fun k _ _ => by rw [S2.2 110 (by decide)]⟩
      · rw [if_neg (by simp [w])]
        exact trzY (if_neg fun p => w p.2.1) F P
    · rw [if_neg (by simp [z])]
      exact trzY (if_neg fun p => z p.1) F P
  rw [if_neg (show ¬ nI (T.2 q) = 119 from fun p => c5 (Eq.mp (E 119 (by omega)) p)), if_neg c5]
  refine wp_eq g110_9 ?_
  rw [F.1.2, nI_add]
  by_cases c : s.1.2.2 + ax T.2 q ≤ 999
  · rw [if_pos (show nI (s.1.2.2 + ax T.2 q) ≤ (999 : Int32) from (nI_leI (b := 999) (by omega) (by omega)).mpr c), if_pos c]
    refine wp_loop (fun i z h' => z = nI i ∧ ModIs h' (wks s.1 i) ∧ PlY h' s.2 ∧ h'.2 = h.2 ∧ (∀ a, ¬ (a = 110 ∨ (112 ≤ a ∧ a ≤ 118) ∨ a = 124) → h'.1 a = h.1 a) ∧ ∀ k, ¬ k = 8 → ¬ k = 9 → h'.1 110 k = h.1 110 k) (ax T.2 q) (nf_lt (by omega)) (fun i hi z h' p k K => ?_) (fun z h' k p => ?_) ⟨rfl, F, P, rfl, fun _ _ => rfl, fun _ _ _ => rfl⟩
    · obtain ⟨rfl, F1, P1, r1, r2, r3⟩ := p
      have R1 : RefOk h'.2 := by rw [r1]; exact R
      rw [if_neg (nI_ge hi (by omega)), nI_1]
      have G1 := wks_good ga.1 i (by omega)
      refine wp_bnd (show wp (f_X7_goesWeek 110) h' _ from wp_mono (X7_goesWeek R1 F1 G1) fun v h2 p => ?_)
      obtain ⟨-, F2, S2, k2⟩ := p
      exact K _ _ ⟨rfl, F2, P1.fr (S2.2 117 (by omega)) (S2.2 118 (by omega)), S2.1.trans r1, fun a ha => by rw [S2.2 a (by omega)]; exact r2 a ha, fun k b1 b2 => by rw [k2 k b2]; exact r3 k b1 b2⟩
    · obtain ⟨rfl, F1, P1, r1, r2, r3⟩ := p
      rw [if_pos (nI_le (Nat.le_refl _) (by omega))]
      exact wp_retZ (Or.inr rfl) ⟨Or.inr ⟨_, rfl, rfl, F1, P1⟩, r1, r2, r3⟩
  · rw [if_neg (show ¬ nI (s.1.2.2 + ax T.2 q) ≤ (999 : Int32) from fun p => c ((nI_leI (b := 999) (by omega) (by omega)).mp p)), if_neg c]
    exact trzY rfl F P
