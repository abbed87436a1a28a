/-! IMAGE, RESTORE, COUNT -/
def TB (r : Nat → Nat → Option Nat) (b : Nat) : Prop := (SHF[b]? = some (0, 4) ∧ SHF[b + 8]? = some (0, 3) ∧ SHF[b + 9]? = some (1, 8) ∧ SHF[b + 10]? = some (1, 8)) ∧ (r b 0 = some (b + 1) ∧ r b 1 = some (b + 8) ∧ r (b + 8) 0 = some (b + 9) ∧ r (b + 8) 1 = some (b + 10)) ∧ FB r (b + 1)
theorem TB.of1 {r : Nat → Nat → Option Nat} (R : RefOk r) : TB r 1 := ⟨⟨rfl, rfl, rfl, rfl⟩, ⟨R 1 0 (by decide) (by decide) (by decide), R 1 1 (by decide) (by decide) (by decide), R 9 0 (by decide) (by decide) (by decide), R 9 1 (by decide) (by decide) (by decide)⟩, FB.of R (by decide)⟩
theorem TB.of13 {r : Nat → Nat → Option Nat} (R : RefOk r) : TB r 13 := ⟨⟨rfl, rfl, rfl, rfl⟩, ⟨R 13 0 (by decide) (by decide) (by decide), R 13 1 (by decide) (by decide) (by decide), R 21 0 (by decide) (by decide) (by decide), R 21 1 (by decide) (by decide) (by decide)⟩, FB.of R (by decide)⟩
theorem TB.of25 {r : Nat → Nat → Option Nat} (R : RefOk r) : TB r 25 := ⟨⟨rfl, rfl, rfl, rfl⟩, ⟨R 25 0 (by decide) (by decide) (by decide), R 25 1 (by decide) (by decide) (by decide), R 33 0 (by decide) (by decide) (by decide), R 33 1 (by decide) (by decide) (by decide)⟩, FB.of R (by decide)⟩
theorem cpy8 {f g : Nat → Int32} {k : Nat} (hk : k < 8) : va_cpy f g 0 0 8 k = f k := by
  unfold va_cpy
  rw [if_pos (by omega)]
  congr 1
  omega
theorem b_cpy8 {β : Type} {f : Unit → M β} {h : HP} {o d : Nat} (ho : SHF[o]? = some (1, 8)) (hd : SHF[d]? = some (1, 8)) : bnd (cpy o (0 : Int32) d (0 : Int32) (8 : Int32)) f h = f () (setR h.1 d (va_cpy (h.1 o) (h.1 d) 0 0 8), h.2) :=
  e_bnd (e_cpy (sp := 0) (dp := 0) (n := 8) ho hd (by decide) (by decide) (by decide) (by decide))
def inT (b a : Nat) : Prop := b < a ∧ a ≤ b + 10
theorem X5_copyFrom {h : HP} {b c : Nat} {A : AV} {P : PV} (H : TB h.2 b) (C : TB h.2 c) (F : FolkIs h (c + 1) A) (T : PlB h (c + 8) P) (hbc : b + 11 < c ∨ c + 11 < b) : wp (cv 4 b (f_X5_copyFrom b c)) h fun _ h' => FolkIs h' (b + 1) A ∧ PlB h' (b + 8) P ∧ Same (inT b) h h' := by
  obtain ⟨⟨s1, s2, s3, s4⟩, ⟨r1, r2, r3, r4⟩, fb⟩ := H
  obtain ⟨⟨t1, t2, t3, t4⟩, ⟨q1, q2, q3, q4⟩, fc⟩ := C
  refine wp_eq (e_cv s1) ?_
  unfold f_X5_copyFrom
  refine wp_eq (e_bnd (e_gR s1 r1)) (wp_eq (e_bnd (e_gR t1 q1)) (wp_eq (bC fb) ?_))
  refine wp_bnd (wp_mono (X0_copyFrom fb fc F (by omega)) fun _ h1 q => ?_)
  obtain ⟨F1, S1⟩ := q
  have e2 := S1.1
  refine wp_eq (e_bnd (e_gR s1 (by rw [e2]; exact r2))) (wp_eq (e_bnd (e_gR t1 (by rw [e2]; exact q2))) ?_)
  refine wp_bnd (Q := _) (wp_eq (e_cv s2) ?_)
  unfold f_X4_copyFrom
  refine wp_eq (e_bnd (e_gR t2 (by rw [e2]; exact q3))) (wp_eq (e_bnd (e_gR s2 (by rw [e2]; exact r3))) (wp_eq (b_cpy8 t3 s3) ?_))
  refine wp_eq (e_bnd (e_gR t2 (by show h1.2 _ _ = _; rw [e2]; exact q4))) (wp_eq (e_bnd (e_gR s2 (by show h1.2 _ _ = _; rw [e2]; exact r4))) (wp_eq (b_cpy8 t4 s4) (wp_rt (wp_rt ⟨F1.fr fun a h1 h2 => ?_, ⟨fun k hk => ?_, fun k hk => ?_⟩, e2, fun a ha => ?_⟩))))
  · dsimp only
    rw [set_ne _ _ (by omega), set_ne _ _ (by omega)]
  · dsimp only
    rw [set_ne _ _ (by omega), set_eq, cpy8 hk, S1.2 _ (by unfold inF; omega)]
    exact T.1 k hk
  · dsimp only
    rw [set_eq, cpy8 hk, set_ne _ _ (by omega), S1.2 _ (by unfold inF; omega)]
    exact T.2 k hk
  · dsimp only
    unfold inT at ha
    rw [set_ne _ _ (by omega), set_ne _ _ (by omega), S1.2 _ (by unfold inF; omega)]
theorem KeptAt.is {h : HP} {r : Nat → Int32} {c : Nat} {A : AV} {P : PV} (K : KeptAt r c h) (F : ModIs h A) (T : PlY h P) : KeptIs r c A P := by
  obtain ⟨a1, a2, a3, a4, a5, a6, a7, a8, a9⟩ := K
  obtain ⟨⟨f1, f2⟩, f3, f4, f5, f6, f7⟩ := F
  exact ⟨fun k hk => (a1 k hk).trans (f3 k hk), fun k hk => (a2 k hk).trans (f4 k hk), fun k hk => (a3 k hk).trans (f5 k hk), fun k hk => (a4 k hk).trans (f6 k hk), fun k hk => (a5 k hk).trans (f7 k hk), fun k hk => (a6 k hk).trans (T.1 k hk), fun k hk => (a7 k hk).trans (T.2 k hk), a8.trans f1, a9.trans f2⟩
theorem KeptAt.get {h : HP} {r : Nat → Int32} {c : Nat} {A : AV} {P : PV} (K : KeptAt r c h) (H : KeptIs r c A P) : ModIs h A ∧ PlY h P := by
  obtain ⟨a1, a2, a3, a4, a5, a6, a7, a8, a9⟩ := K
  obtain ⟨f1, f2, f3, f4, f5, f6, f7, f8, f9⟩ := H
  exact ⟨⟨⟨a8.symm.trans f8, a9.symm.trans f9⟩, fun k hk => (a1 k hk).symm.trans (f1 k hk), fun k hk => (a2 k hk).symm.trans (f2 k hk), fun k hk => (a3 k hk).symm.trans (f3 k hk), fun k hk => (a4 k hk).symm.trans (f4 k hk), fun k hk => (a5 k hk).symm.trans (f5 k hk)⟩, fun k hk => (a6 k hk).symm.trans (f6 k hk), fun k hk => (a7 k hk).symm.trans (f7 k hk)⟩
def imS (S : St) : St := (S.1, S.2.1, S.2.2.1, S.2.2.2.1, (true, S.1, S.2.1), S.2.2.2.2.2)
theorem ok_image : Ok (f_X6_image 0) (f_X7_image 110) := by
  refine Ok.of (an := fun S => nI S.1.2.2) (nw := imS) (fun h S xs gs => ?_) (fun h S R ys gs => ?_) fun S G => ?_
  · unfold f_X6_image
    have R := xs.1
    refine wp_eq (g0_2 R) (wp_eq (g0_0 R) (wp_bnd (wp_mono (X5_copyFrom (TB.of25 R) (TB.of1 R) xs.2.1 xs.2.2.1 (by omega)) fun _ h1 q => ?_)))
    obtain ⟨F1, T1, S1⟩ := q
    have so : ∀ a, ¬ inT 25 a → h1.1 a = h.1 a := S1.2
    unfold inT at so
    have R1 : RefOk h1.2 := by rw [S1.1]; exact R
    have e3 : ∀ a, ¬ a = 0 → (setR h1.1 0 (upd (h1.1 0) 3 1), h1.2).1 a = h1.1 a := fun a ha => by dsimp only; rw [set_ne _ _ ha]
    have B : FB (setR h1.1 0 (upd (h1.1 0) 3 1), h1.2).2 2 := FB.of R1 (by decide)
    refine wp_eq (p0_3 (Or.inr rfl)) (wp_eq (x_gr0 (by exact R1)) (wp_eq (bI B) (wp_rt ⟨?_, ?_, fun a ha => ?_⟩)))
    · rw [e3 2 (by omega), so 2 (by omega)]
      exact xs.2.1.1.2
    · obtain ⟨x0, x1, x2, x3, x4, x5, x6, x7⟩ := xs
      refine ⟨R1, x1.fr fun a h1 h2 => by rw [e3 a (by omega), so a (by omega)], x2.fr (by rw [e3 10 (by omega), so 10 (by omega)]) (by rw [e3 11 (by omega), so 11 (by omega)]), x3.fr ?_ (by rw [e3 104 (by omega), so 104 (by omega)]), x4.fr (by rw [e3 102 (by omega), so 102 (by omega)]) (by rw [e3 103 (by omega), so 103 (by omega)]), ⟨?_, fun _ => ⟨F1.fr fun a h1 h2 => e3 a (by omega), T1.fr (e3 34 (by omega)) (e3 35 (by omega))⟩⟩, x6.fr S1.1 (fun a h1 h2 => by rw [e3 a (by omega), so a (by omega)]), fun k hk => by rw [e3 105 (by omega), so 105 (by omega)]; exact x7 k hk⟩
      · dsimp only
        rw [set_eq, upd_ne _ _ (by decide), so 0 (by omega)]
      · dsimp only
        rw [set_eq, upd_eq]
        rfl
    · rw [e3 a (by omega), so a (by omega)]
  · unfold f_X7_image
    refine wp_eq (p110_18 (Or.inr rfl)) ?_
    generalize hh : (setR h.1 110 (upd (h.1 110) 18 1), h.2) = h1
    have e1 : ∀ a, ¬ a = 110 → h1.1 a = h.1 a := fun a ha => by rw [← hh]; dsimp only; rw [set_ne _ _ ha]
    have e0 : ∀ k, ¬ k = 18 → h1.1 110 k = h.1 110 k := fun k hk => by rw [← hh]; dsimp only; rw [set_eq, upd_ne _ _ hk]
    have e8 : h1.1 110 18 = 1 := by rw [← hh]; dsimp only; rw [set_eq, upd_eq]
    have er : h1.2 = h.2 := by rw [← hh]
    obtain ⟨y1, y2, y3, y4, y5, y6, y7⟩ := ys
    have F1 : ModIs h1 S.1 := y1.fr (e0 _ (by omega)) (e0 _ (by omega)) fun a h1 h2 => e1 a (by omega)
    have T1 : PlY h1 S.2.1 := y2.fr (e1 117 (by omega)) (e1 118 (by omega))
    refine wp_bnd (wp_mono (X7_passesAllK (w := 0) (by rw [er]; exact R) (by omega)) fun _ h2 q => ?_)
    obtain ⟨K, k1, S2, k2⟩ := q
    have s2 : ∀ a, ¬ (a = 110 ∨ a = 123) → h2.1 a = h1.1 a := S2.2
    have sl : ∀ k, ¬ k = 18 → ¬ k = 19 → ¬ k = 20 → h2.1 110 k = h.1 110 k := fun k a b c => by rw [k2 k b c, e0 k a]
    have F2 : ModIs h2 S.1 := F1.fr (k2 _ (by omega) (by omega)) (k2 _ (by omega) (by omega)) fun a h1 h2 => s2 a (by omega)
    refine wp_eq g110_9 (wp_rt ⟨F2.1.2, ⟨F2, T1.fr (s2 117 (by omega)) (s2 118 (by omega)), y3.fr (sl _ (by omega) (by omega) (by omega)) (by rw [s2 126 (by omega), e1 126 (by omega)]), y4.fr (sl _ (by omega) (by omega) (by omega)) (by rw [s2 119 (by omega), e1 119 (by omega)]), ⟨?_, fun _ => K.is F1 T1⟩, y6.fr (sl _ (by omega) (by omega) (by omega)) (fun j hj => by rw [k1 j (by omega), e1 123 (by omega)]), fun k hk => by rw [s2 111 (by omega), e1 111 (by omega)]; exact y7 k hk⟩, fun a ha => by rw [s2 a (by omega), e1 a (by omega)], S2.1.trans er⟩)
    rw [k2 18 (by omega) (by omega), e8]
    rfl
  · exact ⟨G.1, G.2.1, G.2.2.1, G.2.2.2.1, fun _ => ⟨G.1, G.2.1⟩, G.2.2.2.2.2⟩
/-- people and places otherwise, nothing past -/
def pS (S : St) (A : AV) (P : PV) : St := (A, P, S.2.2.1, S.2.2.2.1, S.2.2.2.2.1, (0, S.2.2.2.2.2.1.2), S.2.2.2.2.2.2)
theorem pS_good {S : St} {A : AV} {P : PV} (G : GoodS S) (a : GA A) (p : GP' P) : GoodS (pS S A P) := ⟨a, p, G.2.2.1, G.2.2.2.1, G.2.2.2.2.1, Nat.zero_le _, fun i hi => absurd hi (Nat.not_lt_zero i)⟩
theorem XS.pl {h h1 : HP} {S : St} {A : AV} {P : PV} (X : XS h S) (e : h1.2 = h.2) (eo : ∀ a, a < 110 → ¬ (2 ≤ a ∧ a ≤ 25) → ¬ a = 44 → h1.1 a = h.1 a) (F : FolkIs h1 2 A) (T : PlX h1 P) (h44 : h1.1 44 0 = 0) : XS h1 (pS S A P) := by
  obtain ⟨x0, x1, x2, x3, x4, x5, x6, x7⟩ := X
  obtain ⟨-, s, s1, s2, -⟩ := x6
  exact ⟨by rw [e]; exact x0, F, T, x3.fr (by rw [eo 0 (by omega) (by omega) (by omega)]) (eo 104 (by omega) (by omega) (by omega)), x4.fr (eo 102 (by omega) (by omega) (by omega)) (eo 103 (by omega) (by omega) (by omega)), x5.fr (by rw [eo 0 (by omega) (by omega) (by omega)]) (fun a h1 h2 => eo a (by omega) (by omega) (by omega)), ⟨⟨h44, Nat.zero_le 8⟩, s, s1, fun i hi => by rw [e]; exact s2 i hi, fun i hi => absurd hi (Nat.not_lt_zero i)⟩, fun k hk => by rw [eo 105 (by omega) (by omega) (by omega)]; exact x7 k hk⟩
theorem YS.pl {h h1 : HP} {S : St} {A : AV} {P : PV} (Y : YS h S) (e14 : h1.1 110 14 = h.1 110 14) (e18 : h1.1 110 18 = h.1 110 18) (e25 : h1.1 110 25 = h.1 110 25) (e21 : h1.1 110 21 = 0) (r1 : h1.1 111 = h.1 111) (r2 : h1.1 119 = h.1 119) (r3 : h1.1 126 = h.1 126) (r4 : ∀ j, j < 53 → h1.1 123 j = h.1 123 j) (F : ModIs h1 A) (T : PlY h1 P) : YS h1 (pS S A P) := by
  obtain ⟨y1, y2, y3, y4, y5, y6, y7⟩ := Y
  exact ⟨F, T, y3.fr e25 r3, y4.fr e14 r2, y5.fr e18 r4, ⟨e21, fun i hi => absurd hi (Nat.not_lt_zero i)⟩, fun k hk => by rw [r1]; exact y7 k hk⟩
def reN (S : St) : Int32 := if S.2.2.2.2.1.1 = true then 0 else -3
theorem ok_restore : Ok (f_X6_restore 0) (f_X7_restore 110) := by
  refine Ok.c reN (fun S => nI S.2.2.2.2.1.2.1.2.2) (fun S => pS S S.2.2.2.2.1.2.1 S.2.2.2.2.1.2.2) (fun h S xs gs => ?_) (fun h S R ys gs => ?_) fun S G e => ?_
  · have R := xs.1
    obtain ⟨i1, i2⟩ := xs.2.2.2.2.2.1
    unfold f_X6_restore
    refine wp_eq g0_3 ?_
    rw [i1]
    cases z : S.2.2.2.2.1.1
    · rw [if_neg (by decide)]
      exact cXr xs (by unfold reN; rw [z]; rfl) (Or.inr (Or.inr (Or.inl rfl)))
    · rw [if_pos (by decide)]
      have e0 : reN S = 0 := by unfold reN; rw [z]; rfl
      refine cXz e0 ?_
      obtain ⟨F, T⟩ := i2 z
      refine wp_eq (g0_0 R) (wp_eq (g0_2 R) (wp_bnd (wp_mono (X5_copyFrom (TB.of1 R) (TB.of25 R) F T (by omega)) fun _ h1 q => ?_)))
      obtain ⟨F1, T1, S1⟩ := q
      have R1 : RefOk h1.2 := by rw [S1.1]; exact R
      have so : ∀ a, ¬ inT 1 a → h1.1 a = h.1 a := S1.2
      unfold inT at so
      have e3 : ∀ a, ¬ a = 44 → (setR h1.1 44 (upd (h1.1 44) 0 0), h1.2).1 a = h1.1 a := fun a ha => by dsimp only; rw [set_ne _ _ ha]
      have B : FB (setR h1.1 44 (upd (h1.1 44) 0 0), h1.2).2 2 := FB.of R1 (by decide)
      refine wp_eq (g0_5 R1) (wp_eq p44_0 (wp_eq (x_gr0 (by exact R1)) (wp_eq (bI B) (wp_rt ⟨?_, ?_, fun a ha => ?_⟩))))
      · rw [e3 2 (by omega)]
        exact F1.1.2
      · refine xs.pl S1.1 (fun a h1 h2 h3 => by rw [e3 a h3, so a (by omega)]) (F1.fr fun a h1 h2 => e3 a (by omega)) (PlB.fr T1 (e3 10 (by omega)) (e3 11 (by omega))) ?_
        dsimp only
        rw [set_eq, upd_eq]
      · rw [e3 a (by omega), so a (by omega)]
  · obtain ⟨i1, i2⟩ := ys.2.2.2.2.1
    unfold f_X7_restore
    refine wp_eq g110_18 ?_
    rw [i1]
    cases z : S.2.2.2.2.1.1
    · rw [if_neg (by decide)]
      exact cYr R ys (by unfold reN; rw [z]; rfl) (Or.inr (Or.inr (Or.inl rfl)))
    · rw [if_pos (by decide)]
      have e0 : reN S = 0 := by unfold reN; rw [z]; rfl
      refine cYz e0 ?_
      refine wp_bnd (wp_mono (X7_passesAllR (w := 0) R (by omega)) fun _ h2 q => ?_)
      obtain ⟨K, k1, S2, k2⟩ := q
      obtain ⟨F, T⟩ := K.get (i2 z)
      have s2 : ∀ a, ¬ (a = 110 ∨ (112 ≤ a ∧ a ≤ 118)) → h2.1 a = h.1 a := S2.2
      have e3 : ∀ a, ¬ a = 110 → (setR h2.1 110 (upd (h2.1 110) 21 0), h2.2).1 a = h2.1 a := fun a ha => by dsimp only; rw [set_ne _ _ ha]
      have e4 : ∀ k, ¬ k = 21 → (setR h2.1 110 (upd (h2.1 110) 21 0), h2.2).1 110 k = h2.1 110 k := fun k hk => by dsimp only; rw [set_eq, upd_ne _ _ hk]
      refine wp_eq p110_21 (wp_eq g110_9 (wp_rt ⟨?_, ?_, fun a ha => ?_, S2.1⟩))
      · rw [e4 9 (by omega)]
        exact F.1.2
      · refine ys.pl (by rw [e4 14 (by omega), k2 14 (by omega) (by omega) (by omega) (by omega)]) (by rw [e4 18 (by omega), k2 18 (by omega) (by omega) (by omega) (by omega)]) (by rw [e4 25 (by omega), k2 25 (by omega) (by omega) (by omega) (by omega)]) ?_ (by rw [e3 111 (by omega), s2 111 (by omega)]) (by rw [e3 119 (by omega), s2 119 (by omega)]) (by rw [e3 126 (by omega), s2 126 (by omega)]) (fun j hj => by rw [e3 123 (by omega), s2 123 (by omega)]) (F.fr (e4 _ (by omega)) (e4 _ (by omega)) fun a h1 h2 => e3 a (by omega)) (T.fr (e3 117 (by omega)) (e3 118 (by omega)))
        dsimp only
        rw [set_eq, upd_eq]
      · rw [e3 a (by omega), s2 a (by omega)]
  · have z : S.2.2.2.2.1.1 = true := by
      unfold reN at e
      cases z : S.2.2.2.2.1.1
      · rw [z] at e
        exact absurd e (by decide)
      · rfl
    obtain ⟨a, p⟩ := G.2.2.2.2.1 z
    exact pS_good G a p
