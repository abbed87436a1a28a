/-! WHAT IS KEPT OF THE PAST -/
def push (Q : Nat × (Nat → AV)) (A : AV) : Nat × (Nat → AV) := if Q.1 < 8 then (Q.1 + 1, fun i => if i = Q.1 then A else Q.2 i) else (8, fun i => if i = 7 then A else Q.2 (i + 1))
def kS (S : St) (A : AV) : St := (A, S.2.1, S.2.2.1, S.2.2.2.1, S.2.2.2.2.1, push S.2.2.2.2.2.1 S.1, S.2.2.2.2.2.2)
theorem kS_good {S : St} {A : AV} (G : GoodS S) (a : GA A) : GoodS (kS S A) := by
  refine ⟨a, G.2.1, G.2.2.1, G.2.2.2.1, G.2.2.2.2.1, ?_, ?_⟩
  · show (push S.2.2.2.2.2.1 S.1).1 ≤ 8
    unfold push
    split
    · rename_i c
      exact c
    · exact Nat.le_refl 8
  · show ∀ i, i < (push S.2.2.2.2.2.1 S.1).1 → GA ((push S.2.2.2.2.2.1 S.1).2 i)
    unfold push
    by_cases c : S.2.2.2.2.2.1.1 < 8
    · rw [if_pos c]
      intro i hi
      dsimp only at hi ⊢
      split
      · exact G.1
      · exact G.2.2.2.2.2.2 i (by omega)
    · rw [if_neg c]
      intro i hi
      dsimp only at hi ⊢
      have := G.2.2.2.2.2.1
      split
      · exact G.1
      · exact G.2.2.2.2.2.2 (i + 1) (by omega)
theorem RefOk.c45 {r r' : Nat → Nat → Option Nat} (R : RefOk r) (e : ∀ a, ¬ a = 45 → r' a = r a) : RefOk r' := fun i k h1 h2 h3 => by
  rw [e i h2]
  exact R i k h1 h2 h3
theorem FB.past {r : Nat → Nat → Option Nat} (R : RefOk r) {j : Nat} (hj : j < 8) : FB r (46 + 7 * j) := by
  rcases (show j = 0 ∨ j = 1 ∨ j = 2 ∨ j = 3 ∨ j = 4 ∨ j = 5 ∨ j = 6 ∨ j = 7 by omega) with rfl | rfl | rfl | rfl | rfl | rfl | rfl | rfl <;> exact FB.of R (by decide)
theorem sh45 : SHF[45]? = some (2, 8) := rfl
theorem gr44 {β : Type} {h : HP} {f : Nat → M β} (R : RefOk h.2) : bnd (gR 2 1 44) f h = f 45 h := e_bnd (e_gR rfl (R 44 1 (by decide) (by decide) (by decide)))
def Same45 (h h' : HP) : Prop := h'.1 = h.1 ∧ ∀ a, ¬ a = 45 → h'.2 a = h.2 a
theorem X3_dropOldest {h : HP} {s : Nat → Nat} (R : RefOk h.2) (p : Perm8 s) (H : ∀ i, i < 8 → h.2 45 i = some (46 + 7 * s i)) : wp (cv 2 44 (f_X3_dropOldest 44)) h fun _ h' => (∀ i, i < 8 → h'.2 45 i = some (46 + 7 * (if i < 7 then s (i + 1) else s 0))) ∧ (∀ a, ¬ a = 45 → h'.2 a = h.2 a) ∧ h'.1 = setR h.1 44 (upd (h.1 44) 0 7) := by
  refine wp_eq (e_cv sh44) ?_
  unfold f_X3_dropOldest
  refine wp_eq (gr44 R) (wp_eq (e_bnd (e_aR (i := 0) sh45 (by omega) (by omega) (H 0 (by omega)))) ?_)
  refine wp_loop (fun i x h' => x = nI (1 + i) ∧ (∀ j, j < 8 → h'.2 45 j = some (46 + 7 * (if j < i then s (j + 1) else s j))) ∧ (∀ a, ¬ a = 45 → h'.2 a = h.2 a) ∧ h'.1 = h.1) 7 (nf_lt (by omega)) (fun i hi x h' q k K => ?_) (fun x h' k q => ?_) ⟨rfl, fun j hj => by rw [if_neg (by omega)]; exact H j hj, fun _ _ => rfl, rfl⟩
  · obtain ⟨rfl, H1, H2, H3⟩ := q
    have R1 : RefOk h'.2 := R.c45 H2
    rw [if_neg (show ¬ (8 : Int32) ≤ nI (1 + i) from nI_ge (b := 8) (by omega) (by omega))]
    refine wp_eq (gr44 R1) (wp_eq (gr44 R1) (wp_eq (e_bnd (e_aR (i := 1 + i) sh45 (by omega) (by omega) (H1 (1 + i) (by omega)))) ?_))
    rw [if_neg (show ¬ 1 + i < i by omega), show nI (1 + i) - 1 = nI i by rw [show (1 : Int32) = nI 1 from rfl, pk_sub (by omega), show 1 + i - 1 = i by omega], nI_1]
    have sb := p.1 (1 + i) (by omega)
    refine wp_eq (e_bnd (e_sR sh45 (FB.past R1 sb).1.1 (by omega) (by omega))) (K _ _ ⟨by rw [show 1 + i + 1 = 1 + (i + 1) by omega], fun j hj => ?_, fun a ha => ?_, H3⟩)
    · dsimp only
      rw [show setR h'.2 45 (va_up (h'.2 45) i (some (46 + 7 * s (1 + i)))) 45 = va_up (h'.2 45) i (some (46 + 7 * s (1 + i))) from by simp [setR]]
      by_cases c : j = i
      · subst c
        rw [if_pos (by omega), show 1 + j = j + 1 by omega]
        simp [va_up]
      · rw [show va_up (h'.2 45) i (some (46 + 7 * s (1 + i))) j = h'.2 45 j from by simp [va_up, c], H1 j hj]
        by_cases d : j < i
        · rw [if_pos d, if_pos (by omega)]
        · rw [if_neg d, if_neg (by omega)]
    · dsimp only
      rw [show setR h'.2 45 (va_up (h'.2 45) i (some (46 + 7 * s (1 + i)))) a = h'.2 a from by simp [setR, ha]]
      exact H2 a ha
  · obtain ⟨rfl, H1, H2, H3⟩ := q
    have R1 : RefOk h'.2 := R.c45 H2
    rw [if_pos (show (8 : Int32) ≤ nI (1 + 7) by decide)]
    have sb := p.1 0 (by omega)
    refine wp_eq (gr44 R1) (wp_eq (e_bnd (e_sR (i := 7) sh45 (FB.past R1 sb).1.1 (by omega) (by omega))) (wp_eq p44_0 (wp_rt ⟨fun j hj => ?_, fun a ha => ?_, ?_⟩)))
    · dsimp only
      rw [show setR h'.2 45 (va_up (h'.2 45) 7 (some (46 + 7 * s 0))) 45 = va_up (h'.2 45) 7 (some (46 + 7 * s 0)) from by simp [setR]]
      by_cases c : j = 7
      · subst c
        rw [if_neg (by omega)]
        simp [va_up]
      · rw [show va_up (h'.2 45) 7 (some (46 + 7 * s 0)) j = h'.2 45 j from by simp [va_up, c], H1 j hj, if_pos (by omega), if_pos (by omega)]
    · dsimp only
      rw [show setR h'.2 45 (va_up (h'.2 45) 7 (some (46 + 7 * s 0))) a = h'.2 a from by simp [setR, ha]]
      exact H2 a ha
    · dsimp only
      rw [H3]
theorem perm_drop {s : Nat → Nat} (p : Perm8 s) : Perm8 (fun i => if i < 7 then s (i + 1) else s 0) := by
  refine ⟨fun i hi => ?_, fun i j hi hj e => ?_⟩
  · dsimp only
    split
    · exact p.1 _ (by omega)
    · exact p.1 _ (by omega)
  · dsimp only at e
    by_cases c : i < 7
    · rw [if_pos c] at e
      by_cases d : j < 7
      · rw [if_pos d] at e
        have := p.2 _ _ (by omega) (by omega) e
        omega
      · rw [if_neg d] at e
        have := p.2 _ _ (by omega) (by omega) e
        omega
    · rw [if_neg c] at e
      by_cases d : j < 7
      · rw [if_pos d] at e
        have := p.2 _ _ (by omega) (by omega) e
        omega
      · omega
/-- laying one more past: room is there -/
theorem keep_room {h : HP} {q : Nat} {f : Nat → AV} {A : AV} (R : RefOk h.2) (F : FolkIs h 2 A) (P : PastX h (q, f)) (hq : q < 8) : wp (bnd (gR 2 1 44) fun r4 => bnd (gI 2 0 44) fun t5 => bnd (aR r4 t5) fun r6 => bnd (cv 0 r6 (f_X0_copyFrom r6 2)) fun _ => bnd (gI 2 0 44) fun t9 => bnd (pI 2 0 44 (t9 + (1 : Int32))) fun _ => rt ()) h fun _ h' => h'.2 = h.2 ∧ PastX h' (q + 1, fun i => if i = q then A else f i) ∧ ∀ a, a < 44 ∨ 101 < a → h'.1 a = h.1 a := by
  obtain ⟨⟨p0, p8⟩, s, p1, p2, p3⟩ := P
  have p0 : h.1 44 0 = nI q := p0
  have sq := p1.1 q hq
  refine wp_eq (gr44 R) (wp_eq g44_0 ?_)
  rw [p0]
  refine wp_eq (e_bnd (e_aR sh45 hq (by omega) (p2 q hq))) (wp_eq (bC (FB.past R sq)) ?_)
  refine wp_bnd (wp_mono (X0_copyFrom (FB.past R sq) (FB.of R (b := 2) (by decide)) F (by omega)) fun _ h1 z => ?_)
  obtain ⟨F1, S1⟩ := z
  have so : ∀ a, ¬ inF (46 + 7 * s q) a → h1.1 a = h.1 a := S1.2
  unfold inF at so
  refine wp_eq g44_0 ?_
  rw [so 44 (by omega), p0, nI_1]
  have e4 : ∀ a, ¬ a = 44 → (setR h1.1 44 (upd (h1.1 44) 0 (nI (q + 1))), h1.2).1 a = h1.1 a := fun a ha => by dsimp only; rw [set_ne _ _ ha]
  refine wp_eq p44_0 (wp_rt ⟨S1.1, ⟨⟨?_, hq⟩, s, p1, fun i hi => ?_, fun i hi => ?_⟩, fun a ha => ?_⟩)
  · dsimp only
    rw [set_eq, upd_eq]
  · show h1.2 45 i = _
    rw [S1.1]
    exact p2 i hi
  · dsimp only at hi ⊢
    have si := p1.1 i (by omega)
    by_cases c : i = q
    · subst c
      rw [if_pos rfl]
      exact F1.fr fun a h1 h2 => e4 a (by omega)
    · rw [if_neg c]
      have ne : ¬ s i = s q := fun z => c (p1.2 i q (by omega) hq z)
      exact (p3 i (by show i < q; omega)).fr fun a h1 h2 => by rw [e4 a (by omega), so a (by omega)]
  · rw [e4 a (by omega), so a (by omega)]
theorem X3_keep {h : HP} {Q : Nat × (Nat → AV)} {A : AV} (R : RefOk h.2) (F : FolkIs h 2 A) (P : PastX h Q) : wp (cv 2 44 (f_X3_keep 44 2)) h fun _ h' => (∀ a, ¬ a = 45 → h'.2 a = h.2 a) ∧ PastX h' (push Q A) ∧ ∀ a, a < 44 ∨ 101 < a → h'.1 a = h.1 a := by
  have p8 := P.1.2
  refine wp_eq (e_cv sh44) ?_
  unfold f_X3_keep
  refine wp_eq g44_0 ?_
  rw [P.1.1]
  unfold jn
  dsimp only
  by_cases c : Q.1 < 8
  · rw [if_pos (show nI Q.1 < (8 : Int32) from (nI_ltI (b := 8) (by omega) (by omega)).mpr c)]
    refine wp_mono (keep_room R F P c) fun _ h' q => ?_
    obtain ⟨q1, q2, q3⟩ := q
    unfold push
    rw [if_pos c]
    exact ⟨fun a _ => by rw [q1], q2, q3⟩
  · rw [if_neg (show ¬ nI Q.1 < (8 : Int32) from fun q => c ((nI_ltI (b := 8) (by omega) (by omega)).mp q))]
    obtain ⟨-, s, p1, p2, p3⟩ := P
    have q8 : Q.1 = 8 := by omega
    refine wp_bnd (wp_mono (X3_dropOldest R p1 p2) fun _ h1 q => ?_)
    obtain ⟨d1, d2, d3⟩ := q
    have R1 : RefOk h1.2 := R.c45 d2
    have e1 : ∀ a, ¬ a = 44 → h1.1 a = h.1 a := fun a ha => by rw [d3, set_ne _ _ ha]
    have P1 : PastX h1 (7, fun i => Q.2 (i + 1)) := by
      refine ⟨⟨?_, (by decide : 7 ≤ 8)⟩, _, perm_drop p1, d1, fun i hi => ?_⟩
      · rw [d3, set_eq, upd_eq]
        rfl
      · dsimp only at hi ⊢
        rw [if_pos hi]
        have := p1.1 (i + 1) (by omega)
        exact (p3 (i + 1) (by omega)).fr fun a h1 h2 => e1 a (by omega)
    refine wp_mono (keep_room R1 (F.fr fun a h1 h2 => e1 a (by omega)) P1 (by decide)) fun _ h' q => ?_
    obtain ⟨q1, q2, q3⟩ := q
    unfold push
    rw [if_neg c]
    exact ⟨fun a ha => by rw [q1]; exact d2 a ha, q2, fun a ha => by rw [q3 a ha, e1 a (by omega)]⟩
theorem XS.keep {h : HP} {S : St} (X : XS h S) : wp (cv 2 44 (f_X3_keep 44 2)) h fun _ h1 => XS h1 (kS S S.1) ∧ (∀ a, 110 ≤ a → h1.1 a = h.1 a) := by
  obtain ⟨x0, x1, x2, x3, x4, x5, x6, x7⟩ := X
  refine wp_mono (X3_keep x0 x1 x6) fun _ h1 q => ?_
  obtain ⟨q1, q2, q3⟩ := q
  exact ⟨⟨x0.c45 q1, x1.fr fun a h1 h2 => q3 a (by omega), x2.fr (q3 10 (by omega)) (q3 11 (by omega)), x3.fr (by rw [q3 0 (by omega)]) (q3 104 (by omega)), x4.fr (q3 102 (by omega)) (q3 103 (by omega)), x5.fr (by rw [q3 0 (by omega)]) (fun a h1 h2 => q3 a (by omega)), q2, fun k hk => by rw [q3 105 (by omega)]; exact x7 k hk⟩, fun a ha => q3 a (by omega)⟩
theorem XS.folk {h h1 : HP} {S : St} {A : AV} (X : XS h S) (e : h1.2 = h.2) (eo : ∀ a, a < 110 → ¬ (2 ≤ a ∧ a ≤ 8) → h1.1 a = h.1 a) (F : FolkIs h1 2 A) : XS h1 (A, S.2) := by
  obtain ⟨x0, x1, x2, x3, x4, x5, x6, x7⟩ := X
  exact ⟨by rw [e]; exact x0, F, x2.fr (eo 10 (by omega) (by omega)) (eo 11 (by omega) (by omega)), x3.fr (by rw [eo 0 (by omega) (by omega)]) (eo 104 (by omega) (by omega)), x4.fr (eo 102 (by omega) (by omega)) (eo 103 (by omega) (by omega)), x5.fr (by rw [eo 0 (by omega) (by omega)]) (fun a h1 h2 => eo a (by omega) (by omega)), x6.fr e (fun a h1 h2 => eo a (by omega) (by omega)), fun k hk => by rw [eo 105 (by omega) (by omega)]; exact x7 k hk⟩
theorem YS.folk {h h1 : HP} {S : St} {A : AV} (Y : YS h S) (e0 : ∀ k, ¬ k = 8 → ¬ k = 9 → h1.1 110 k = h.1 110 k) (eo : ∀ a, 111 ≤ a → ¬ (112 ≤ a ∧ a ≤ 116) → ¬ a = 124 → h1.1 a = h.1 a) (F : ModIs h1 A) : YS h1 (A, S.2) := by
  obtain ⟨y1, y2, y3, y4, y5, y6, y7⟩ := Y
  exact ⟨F, y2.fr (eo 117 (by omega) (by omega) (by omega)) (eo 118 (by omega) (by omega) (by omega)), y3.fr (e0 _ (by omega) (by omega)) (eo 126 (by omega) (by omega) (by omega)), y4.fr (e0 _ (by omega) (by omega)) (eo 119 (by omega) (by omega) (by omega)), y5.fr (e0 _ (by omega) (by omega)) (fun j _ => by rw [eo 123 (by omega) (by omega) (by omega)]), y6.fr (e0 _ (by omega) (by omega)) (fun j _ => by rw [eo 123 (by omega) (by omega) (by omega)]), fun k hk => by rw [eo 111 (by omega) (by omega) (by omega)]; exact y7 k hk⟩
/-! the reference keeps -/
theorem KeptIs.shift {r r' : Nat → Int32} {c : Nat} {A : AV} {P : PV} (H : KeptIs r (c + 55) A P) (e : ∀ j, c ≤ j → j < c + 53 → r' j = r (j + 55)) : KeptIs r' c A P := by
  obtain ⟨a1, a2, a3, a4, a5, a6, a7, a8, a9⟩ := H
  refine ⟨fun k hk => ?_, fun k hk => ?_, fun k hk => ?_, fun k hk => ?_, fun k hk => ?_, fun k hk => ?_, fun k hk => ?_, ?_, ?_⟩
  · rw [e _ (by omega) (by omega), show c + k + 55 = c + 55 + k by omega]; exact a1 k hk
  · rw [e _ (by omega) (by omega), show c + 7 + k + 55 = c + 55 + 7 + k by omega]; exact a2 k hk
  · rw [e _ (by omega) (by omega), show c + 14 + k + 55 = c + 55 + 14 + k by omega]; exact a3 k hk
  · rw [e _ (by omega) (by omega), show c + 21 + k + 55 = c + 55 + 21 + k by omega]; exact a4 k hk
  · rw [e _ (by omega) (by omega), show c + 28 + k + 55 = c + 55 + 28 + k by omega]; exact a5 k hk
  · rw [e _ (by omega) (by omega), show c + 35 + k + 55 = c + 55 + 35 + k by omega]; exact a6 k hk
  · rw [e _ (by omega) (by omega), show c + 43 + k + 55 = c + 55 + 43 + k by omega]; exact a7 k hk
  · rw [e _ (by omega) (by omega), show c + 51 + 55 = c + 55 + 51 by omega]; exact a8
  · rw [e _ (by omega) (by omega), show c + 52 + 55 = c + 55 + 52 by omega]; exact a9
theorem keepY_room {h : HP} {q : Nat} {f : Nat → AV} {S : St} (R : RefOk h.2) (F : ModIs h S.1) (T : PlY h S.2.1) (P : PastY h (q, f) S.2.1) (hq : q < 8) : wp (bnd (gI 6 21 110) fun t5 => bnd (cv 6 110 (f_X7_passesAll 110 ((3 : Int32) + t5) (1 : Int32))) fun _ => bnd (gI 6 21 110) fun t8 => bnd (pI 6 21 110 (t8 + (1 : Int32))) fun _ => rt ()) h fun _ h' => h'.2 = h.2 ∧ PastY h' (q + 1, fun i => if i = q then S.1 else f i) S.2.1 ∧ (∀ a, ¬ a = 110 → ¬ a = 123 → h'.1 a = h.1 a) ∧ (∀ k, ¬ k = 19 → ¬ k = 20 → ¬ k = 21 → h'.1 110 k = h.1 110 k) ∧ ∀ j, j < 165 → h'.1 123 j = h.1 123 j := by
  obtain ⟨p0, p1⟩ := P
  have p0 : h.1 110 21 = nI q := p0
  refine wp_eq g110_21 ?_
  rw [p0, show (3 : Int32) = nI 3 from rfl, nI_add]
  refine wp_bnd (wp_mono (X7_passesAllK (w := 3 + q) R (by omega)) fun _ h1 z => ?_)
  obtain ⟨K, k1, S1, k2⟩ := z
  have so : ∀ a, ¬ (a = 110 ∨ a = 123) → h1.1 a = h.1 a := S1.2
  refine wp_eq g110_21 ?_
  rw [k2 21 (by omega) (by omega), p0, nI_1]
  have e4 : ∀ a, ¬ a = 110 → (setR h1.1 110 (upd (h1.1 110) 21 (nI (q + 1))), h1.2).1 a = h1.1 a := fun a ha => by dsimp only; rw [set_ne _ _ ha]
  refine wp_eq p110_21 (wp_rt ⟨S1.1, ⟨?_, fun i hi => ?_⟩, fun a h1 h2 => ?_, fun k h1 h2 h3 => ?_, fun j hj => ?_⟩)
  · dsimp only
    rw [set_eq, upd_eq]
  · rw [e4 123 (by omega)]
    dsimp only at hi ⊢
    by_cases c : i = q
    · subst c
      rw [if_pos rfl]
      exact K.is F T
    · rw [if_neg c]
      exact (p1 i (by show i < q; omega)).fr fun j h1 h2 => k1 j (by omega)
  · rw [e4 a h1, so a (by omega)]
  · dsimp only
    rw [set_eq, upd_ne _ _ h3, k2 k h1 h2]
  · rw [e4 123 (by omega), k1 j (by omega)]
theorem YS.keep {h : HP} {S : St} (R : RefOk h.2) (Y : YS h S) (h8 : S.2.2.2.2.2.1.1 ≤ 8) : wp (cv 6 110 (f_X7_keepsBack 110)) h fun _ h1 => YS h1 (kS S S.1) ∧ (∀ a, a < 110 → h1.1 a = h.1 a) ∧ h1.2 = h.2 := by
  obtain ⟨y1, y2, y3, y4, y5, y6, y7⟩ := Y
  have FIN : ∀ (h1 : HP) (q : Nat) (f : Nat → AV), (∀ a, ¬ a = 110 → ¬ a = 123 → h1.1 a = h.1 a) → (∀ k, ¬ k = 21 → h1.1 110 k = h.1 110 k) → (∀ j, j < 165 → h1.1 123 j = h.1 123 j) → h1.2 = h.2 → PastY h1 (q, f) S.2.1 → q < 8 → push S.2.2.2.2.2.1 S.1 = (q + 1, fun i => if i = q then S.1 else f i) → wp (bnd (gI 6 21 110) fun t5 => bnd (cv 6 110 (f_X7_passesAll 110 ((3 : Int32) + t5) (1 : Int32))) fun _ => bnd (gI 6 21 110) fun t8 => bnd (pI 6 21 110 (t8 + (1 : Int32))) fun _ => rt ()) h1 fun _ h1 => YS h1 (kS S S.1) ∧ (∀ a, a < 110 → h1.1 a = h.1 a) ∧ h1.2 = h.2 := fun h1 q f a1 a2 a3 a4 P hq e => by
    refine wp_mono (keepY_room (S := S) (by rw [a4]; exact R) (y1.fr (a2 _ (by omega)) (a2 _ (by omega)) fun a b1 b2 => a1 a (by omega) (by omega)) (y2.fr (a1 117 (by omega) (by omega)) (a1 118 (by omega) (by omega))) P hq) fun _ h2 z => ?_
    obtain ⟨z1, z2, z3, z4, z5⟩ := z
    have c1 : ∀ a, ¬ a = 110 → ¬ a = 123 → h2.1 a = h.1 a := fun a b1 b2 => (z3 a b1 b2).trans (a1 a b1 b2)
    have c2 : ∀ k, ¬ k = 19 → ¬ k = 20 → ¬ k = 21 → h2.1 110 k = h.1 110 k := fun k b1 b2 b3 => (z4 k b1 b2 b3).trans (a2 k b3)
    refine ⟨⟨y1.fr (c2 _ (by omega) (by omega) (by omega)) (c2 _ (by omega) (by omega) (by omega)) fun a b1 b2 => c1 a (by omega) (by omega), y2.fr (c1 117 (by omega) (by omega)) (c1 118 (by omega) (by omega)), y3.fr (c2 _ (by omega) (by omega) (by omega)) (c1 126 (by omega) (by omega)), y4.fr (c2 _ (by omega) (by omega) (by omega)) (c1 119 (by omega) (by omega)), y5.fr (c2 _ (by omega) (by omega) (by omega)) (fun j hj => (z5 j (by omega)).trans (a3 j (by omega))), ?_, fun k hk => by rw [c1 111 (by omega) (by omega)]; exact y7 k hk⟩, fun a ha => c1 a (by omega) (by omega), z1.trans a4⟩
    show PastY h2 (push S.2.2.2.2.2.1 S.1) S.2.1
    rw [e]
    exact z2
  show wp (f_X7_keepsBack 110) h _
  unfold f_X7_keepsBack
  refine wp_eq g110_21 ?_
  rw [y6.1]
  unfold jn
  dsimp only
  by_cases c : S.2.2.2.2.2.1.1 < 8
  · rw [if_pos (show ¬ nI S.2.2.2.2.2.1.1 = (8 : Int32) from fun q => by have := (nI_eq (b := 8) (by omega) (by omega)).mp q; omega)]
    exact FIN h _ S.2.2.2.2.2.1.2 (fun _ _ _ => rfl) (fun _ _ => rfl) (fun _ _ => rfl) rfl y6 c (if_pos c)
  · have q8 : S.2.2.2.2.2.1.1 = 8 := by omega
    rw [if_neg (show ¬ ¬ nI S.2.2.2.2.2.1.1 = (8 : Int32) from fun q => q (by rw [q8]; rfl))]
    refine wp_loop (fun i s h1 => s = nI (165 + i) ∧ (∀ j, h1.1 123 j = if 165 ≤ j ∧ j < 165 + i then h.1 123 (j + 55) else h.1 123 j) ∧ Same (fun a => a = 123) h h1) 385 (nf_lt (by omega)) (fun i hi s h1 q k K => ?_) (fun s h1 k q => ?_) ⟨rfl, fun j => by rw [if_neg (by omega)], Same.rfl'⟩
    · obtain ⟨rfl, H1, S1⟩ := q
      have R1 := RefOk.same S1 R
      rw [if_neg (show ¬ (550 : Int32) ≤ nI (165 + i) from nI_ge (b := 550) (by omega) (by omega)), show (55 : Int32) = nI 55 from rfl, nI_add, nI_1]
      refine wp_eq (g110_17 R1) (wp_eq (g110_17 R1) (wp_eq (a123 (by omega)) (wp_eq (s123 (by omega)) (K _ _ ⟨by rw [show 165 + i + 1 = 165 + (i + 1) by omega], fun j => ?_, S1.1, fun a ha => ?_⟩))))
      · dsimp only
        rw [set_eq]
        by_cases d : j = 165 + i
        · subst d
          rw [upd_eq, if_pos (by omega), H1, if_neg (by omega)]
        · rw [upd_ne _ _ d, H1]
          by_cases e : 165 ≤ j ∧ j < 165 + i
          · rw [if_pos e, if_pos (by omega)]
          · rw [if_neg e, if_neg (by omega)]
      · dsimp only
        rw [set_ne _ _ ha]
        exact S1.2 a ha
    · obtain ⟨rfl, H1, S1⟩ := q
      rw [if_pos (show (550 : Int32) ≤ nI (165 + 385) by decide)]
      refine wp_eq g110_21 ?_
      rw [S1.2 110 (by decide), y6.1, show nI S.2.2.2.2.2.1.1 - 1 = nI 7 by rw [q8]; rfl]
      refine wp_eq p110_21 ?_
      have e4 : ∀ a, ¬ a = 110 → (setR h1.1 110 (upd (h1.1 110) 21 (nI 7)), h1.2).1 a = h1.1 a := fun a ha => by dsimp only; rw [set_ne _ _ ha]
      refine FIN _ 7 (fun i => S.2.2.2.2.2.1.2 (i + 1)) (fun a b1 b2 => by rw [e4 a b1, S1.2 a b2]) (fun k hk => ?_) (fun j hj => ?_) S1.1 ⟨?_, fun i hi => ?_⟩ (by decide) ?_
      · dsimp only
        rw [set_eq, upd_ne _ _ hk, S1.2 110 (by decide)]
      · rw [e4 123 (by omega), H1, if_neg (by omega)]
      · dsimp only
        rw [set_eq, upd_eq]
      · dsimp only at hi
        rw [e4 123 (by omega)]
        have := y6.2 (i + 1) (by omega)
        rw [show 55 * (3 + (i + 1)) = 55 * (3 + i) + 55 by omega] at this
        exact this.shift fun j b1 b2 => by rw [H1, if_pos (by omega)]
      · unfold push
        rw [if_neg c]
