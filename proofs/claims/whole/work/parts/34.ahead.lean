/-! WEEKS IN MIND: the class's own way -/
theorem b_cpy {β : Type} {f : Unit → M β} {h : HP} {o d : Nat} (ho : SHF[o]? = some (1, 7)) (hd : SHF[d]? = some (1, 7)) : bnd (cpy o (0 : Int32) d (0 : Int32) (7 : Int32)) f h = f () (setR h.1 d (va_cpy (h.1 o) (h.1 d) 0 0 7), h.2) :=
  e_bnd (e_cpy (sp := 0) (dp := 0) (n := 7) ho hd (by decide) (by decide) (by decide) (by decide))
theorem cpy_at {f g : Nat → Int32} {k : Nat} (hk : k < 7) : va_cpy f g 0 0 7 k = f k := by
  unfold va_cpy
  rw [if_pos (by omega)]
  congr 1
  omega
/-- a Folk's own rows -/
def inF (b a : Nat) : Prop := b ≤ a ∧ a ≤ b + 6
set_option maxHeartbeats 1000000 in
theorem X0_copyFrom {h : HP} {b c : Nat} {A : AV} (H : FB h.2 b) (C : FB h.2 c) (F : FolkIs h c A) (hbc : b + 6 < c ∨ c + 6 < b) : wp (f_X0_copyFrom b c) h fun _ h' => FolkIs h' b A ∧ Same (inF b) h h' := by
  obtain ⟨⟨c0, c1⟩, f0, f1, f2, f3, f4⟩ := F
  have s1 := H.1.2 0 (by omega)
  have s2 := H.1.2 1 (by omega)
  have s3 := H.1.2 2 (by omega)
  have s4 := H.1.2 3 (by omega)
  have s5 := H.1.2 4 (by omega)
  have t1 := C.1.2 0 (by omega)
  have t2 := C.1.2 1 (by omega)
  have t3 := C.1.2 2 (by omega)
  have t4 := C.1.2 3 (by omega)
  have t5 := C.1.2 4 (by omega)
  unfold f_X0_copyFrom wp
  rw [bI C, bP H]
  generalize hg1 : (setR h.1 b (upd (h.1 b) 0 (h.1 c 0))) = g1
  have H1 : FB ((g1, h.2) : HP).2 b := H
  have C1 : FB ((g1, h.2) : HP).2 c := C
  rw [bI C1, bP H1]
  generalize hg2 : (setR g1 b (upd (g1 b) 1 (g1 c 1))) = g2
  have H2 : FB ((g2, h.2) : HP).2 b := H
  have C2 : FB ((g2, h.2) : HP).2 c := C
  rw [bR3 C2, bR3 H2, b_cpy t1 s1]
  generalize hg3 : (setR g2 (b + 1) (va_cpy (g2 (c + 1)) (g2 (b + 1)) 0 0 7)) = g3
  have H3 : FB ((g3, h.2) : HP).2 b := H
  have C3 : FB ((g3, h.2) : HP).2 c := C
  rw [bR4 C3, bR4 H3, b_cpy t2 s2]
  generalize hg4 : (setR g3 (b + 2) (va_cpy (g3 (c + 2)) (g3 (b + 2)) 0 0 7)) = g4
  have H4 : FB ((g4, h.2) : HP).2 b := H
  have C4 : FB ((g4, h.2) : HP).2 c := C
  rw [bR5 C4, bR5 H4, b_cpy t3 s3]
  generalize hg5 : (setR g4 (b + 3) (va_cpy (g4 (c + 3)) (g4 (b + 3)) 0 0 7)) = g5
  have H5 : FB ((g5, h.2) : HP).2 b := H
  have C5 : FB ((g5, h.2) : HP).2 c := C
  rw [bR6 C5, bR6 H5, b_cpy t4 s4]
  generalize hg6 : (setR g5 (b + 4) (va_cpy (g5 (c + 4)) (g5 (b + 4)) 0 0 7)) = g6
  have H6 : FB ((g6, h.2) : HP).2 b := H
  have C6 : FB ((g6, h.2) : HP).2 c := C
  rw [bR7 C6, bR7 H6, b_cpy t5 s5]
  generalize hg7 : (setR g6 (b + 5) (va_cpy (g6 (c + 5)) (g6 (b + 5)) 0 0 7)) = g7
  have k1 : ∀ a, ¬ a = b → g2 a = h.1 a := fun a ha => by rw [← hg2, set_ne _ _ ha, ← hg1, set_ne _ _ ha]
  have k3 : ∀ a, ¬ a = b + 1 → g3 a = g2 a := fun a ha => by rw [← hg3, set_ne _ _ ha]
  have k4 : ∀ a, ¬ a = b + 2 → g4 a = g3 a := fun a ha => by rw [← hg4, set_ne _ _ ha]
  have k5 : ∀ a, ¬ a = b + 3 → g5 a = g4 a := fun a ha => by rw [← hg5, set_ne _ _ ha]
  have k6 : ∀ a, ¬ a = b + 4 → g6 a = g5 a := fun a ha => by rw [← hg6, set_ne _ _ ha]
  have k7 : ∀ a, ¬ a = b + 5 → g7 a = g6 a := fun a ha => by rw [← hg7, set_ne _ _ ha]
  refine ⟨_, _, rfl, ⟨⟨?_, ?_⟩, fun k hk => ?_, fun k hk => ?_, fun k hk => ?_, fun k hk => ?_, fun k hk => ?_⟩, rfl, fun a ha => ?_⟩
  · show g7 b 0 = _
    rw [k7 _ (by omega), k6 _ (by omega), k5 _ (by omega), k4 _ (by omega), k3 _ (by omega), ← hg2, set_eq, upd_ne _ _ (by decide), ← hg1, set_eq, upd_eq]
    exact c0
  · show g7 b 1 = _
    rw [k7 _ (by omega), k6 _ (by omega), k5 _ (by omega), k4 _ (by omega), k3 _ (by omega), ← hg2, set_eq, upd_eq, ← hg1, set_ne _ _ (by omega)]
    exact c1
  · show g7 (b + 1) k = _
    rw [k7 _ (by omega), k6 _ (by omega), k5 _ (by omega), k4 _ (by omega), ← hg3, set_eq, cpy_at hk, k1 _ (by omega)]
    exact f0 k hk
  · show g7 (b + 2) k = _
    rw [k7 _ (by omega), k6 _ (by omega), k5 _ (by omega), ← hg4, set_eq, cpy_at hk, k3 _ (by omega), k1 _ (by omega)]
    exact f1 k hk
  · show g7 (b + 3) k = _
    rw [k7 _ (by omega), k6 _ (by omega), ← hg5, set_eq, cpy_at hk, k4 _ (by omega), k3 _ (by omega), k1 _ (by omega)]
    exact f2 k hk
  · show g7 (b + 4) k = _
    rw [k7 _ (by omega), ← hg6, set_eq, cpy_at hk, k5 _ (by omega), k4 _ (by omega), k3 _ (by omega), k1 _ (by omega)]
    exact f3 k hk
  · show g7 (b + 5) k = _
    rw [← hg7, set_eq, cpy_at hk, k6 _ (by omega), k5 _ (by omega), k4 _ (by omega), k3 _ (by omega), k1 _ (by omega)]
    exact f4 k hk
  · unfold inF at ha
    show g7 a = _
    rw [k7 _ (by omega), k6 _ (by omega), k5 _ (by omega), k4 _ (by omega), k3 _ (by omega), k1 _ (by omega)]
def wks (A : AV) : Nat → AV
  | 0 => A
  | n + 1 => wk (wks A n)
theorem wks_n (A : AV) (n : Nat) : (wks A n).2.1 = A.2.1 := by
  induction n with
  | zero => rfl
  | succ n ih => exact ih
theorem wks_w (A : AV) (n : Nat) : (wks A n).2.2 = A.2.2 + n := by
  induction n with
  | zero => rfl
  | succ n ih =>
    show (wks A n).2.2 + 1 = _
    rw [ih]
    rfl
theorem wks_good {A : AV} (G : GoodA A) (n : Nat) (hw : A.2.2 + n ≤ 100000) : GoodA (wks A n) := by
  induction n with
  | zero => exact G
  | succ n ih => exact wk_good (ih (by omega)) (by rw [wks_w]; omega)
theorem X0_passWeeks {h : HP} {b n : Nat} {A : AV} (H : FB h.2 b) (F : FolkIs h b A) (G : GoodA A) (hn : n < 100000) (hw : A.2.2 + n ≤ 100000) : wp (f_X0_passWeeks b (nI n)) h fun _ h' => FolkIs h' b (wks A n) ∧ Same (inF b) h h' := by
  unfold f_X0_passWeeks
  refine wp_loop (fun i s h' => s = nI i ∧ FolkIs h' b (wks A i) ∧ Same (inF b) h h') n (nf_lt (by omega)) (fun i hi s h1 hI k K => ?_) (fun s h1 k hI => ?_) ⟨rfl, F, Same.rfl'⟩
  · obtain ⟨rfl, F1, hS⟩ := hI
    have H1 : FB h1.2 b := by rw [hS.1]; exact H
    rw [if_neg (nI_ge hi (by omega))]
    refine wp_bnd ?_
    unfold wp
    rw [e_cv H1.1.1]
    refine wp_mono (X0_passWeek H1 F1 (wks_good G i (by omega))) fun v h2 q => ?_
    exact K _ _ ⟨nI_1 i, q.2.1, hS.trans q.2.2.2 (fun x hx => hx) (fun x hx => by unfold inF; omega)⟩
  · obtain ⟨rfl, F1, hS⟩ := hI
    rw [if_pos (nI_le (Nat.le_refl _) (by omega))]
    exact wp_rt ⟨F1, hS⟩
/-- the class's thought of weeks to come stands in 'mind' -/
theorem X6_ahead {h : HP} {n : Nat} {A : AV} (R : RefOk h.2) (F : FolkIs h 2 A) (G : GoodA A) (hn : n < 1000) (hw : A.2.2 ≤ 90000) : wp (f_X6_ahead 0 (nI n)) h fun v h' => v = 37 ∧ FolkIs h' 37 (wks A n) ∧ Same (inF 37) h h' := by
  have B2 : FB h.2 2 := FB.of R (by decide)
  have B37 : FB h.2 37 := FB.of R (by decide)
  unfold f_X6_ahead wp
  rw [g0_4 R, g0_0 R, g1_0 R, bC B37]
  refine wp_bnd (wp_mono (X0_copyFrom B37 B2 F (by omega)) fun _ h1 q => ?_)
  obtain ⟨F1, S1⟩ := q
  have R1 : RefOk h1.2 := by rw [S1.1]; exact R
  have B1 : FB h1.2 37 := by rw [S1.1]; exact B37
  unfold wp
  rw [g0_4 R1, bC B1]
  refine wp_bnd (wp_mono (X0_passWeeks B1 F1 G (by omega) (by omega)) fun _ h2 q => ?_)
  obtain ⟨F2, S2⟩ := q
  have R2 : RefOk h2.2 := by rw [S2.1]; exact R1
  unfold wp
  rw [g0_4 R2]
  exact ⟨_, _, rfl, rfl, F2, S1.trans S2 (fun _ q => q) (fun _ q => q)⟩
