/-! PEOPLE WITH ONE THING OTHERWISE -/
def upA (A : AV) (r p v : Nat) : AV := (fun r' k => if r' = r ∧ k = p then v else A.1 r' k, A.2)
theorem upA_at (A : AV) (r p v : Nat) : (upA A r p v).1 r p = v := if_pos ⟨rfl, rfl⟩
theorem upA_r {A : AV} {r p v r' k : Nat} (h : ¬ r' = r) : (upA A r p v).1 r' k = A.1 r' k := if_neg (fun q => h q.1)
theorem upA_k {A : AV} {r p v r' k : Nat} (h : ¬ k = p) : (upA A r p v).1 r' k = A.1 r' k := if_neg (fun q => h q.2)
def okR (A : AV) (r v : Nat) : Prop := (r = 0 → v ≤ 5) ∧ (r = 1 → v ≤ 9) ∧ (r = 2 → v ≤ 99) ∧ (r = 3 → v ≤ 99) ∧ (r = 4 → v < 2 ^ A.2.1)
theorem GoodA.up {A : AV} {r p v : Nat} (G : GoodA A) (h : okR A r v) : GoodA (upA A r p v) := by
  refine ⟨G.1, fun k hk => ?_⟩
  obtain ⟨g0, g1, g2, g3, g4⟩ := G.2 k hk
  obtain ⟨h0, h1, h2, h3, h4⟩ := h
  show ((if 0 = r ∧ k = p then v else A.1 0 k) ≤ 5 ∧ (if 1 = r ∧ k = p then v else A.1 1 k) ≤ 9 ∧ (if 2 = r ∧ k = p then v else A.1 2 k) ≤ 99 ∧ (if 3 = r ∧ k = p then v else A.1 3 k) ≤ 99 ∧ (if 4 = r ∧ k = p then v else A.1 4 k) < 2 ^ A.2.1)
  refine ⟨?_, ?_, ?_, ?_, ?_⟩
  all_goals (split)
  all_goals first | assumption | skip
  · rename_i q; exact h0 q.1.symm
  · rename_i q; exact h1 q.1.symm
  · rename_i q; exact h2 q.1.symm
  · rename_i q; exact h3 q.1.symm
  · rename_i q; exact h4 q.1.symm
theorem row_up {f : Nat → Int32} {A : AV} {r p v : Nat} (h : ∀ k, k < 7 → f k = nI (A.1 r k)) : ∀ k, k < 7 → upd f p (nI v) k = nI ((upA A r p v).1 r k) := by
  intro k hk
  by_cases c : k = p
  · rw [c, upd_eq, upA_at]
  · rw [upd_ne _ _ c, upA_k c]
    exact h k hk
theorem FolkIs.set {h : HP} {b r p v : Nat} {A : AV} (F : FolkIs h b A) (hr : r ≤ 4) : FolkIs (setR h.1 (b + 1 + r) (upd (h.1 (b + 1 + r)) p (nI v)), h.2) b (upA A r p v) := by
  obtain ⟨⟨fn, fw⟩, f0, f1, f2, f3, f4⟩ := F
  have key : ∀ r', r' ≤ 4 → (∀ k, k < 7 → h.1 (b + 1 + r') k = nI (A.1 r' k)) → ∀ k, k < 7 → setR h.1 (b + 1 + r) (upd (h.1 (b + 1 + r)) p (nI v)) (b + 1 + r') k = nI ((upA A r p v).1 r' k) := by
    intro r' hr' f k hk
    by_cases c : r' = r
    · subst c
      rw [set_eq]
      exact row_up f k hk
    · rw [set_ne _ _ (by omega), upA_r c]
      exact f k hk
  refine ⟨⟨?_, ?_⟩, key 0 (by omega) f0, key 1 (by omega) f1, key 2 (by omega) f2, key 3 (by omega) f3, key 4 (by omega) f4⟩
  · dsimp only
    rw [set_ne _ _ (by omega)]
    exact fn
  · dsimp only
    rw [set_ne _ _ (by omega)]
    exact fw
theorem ModIs.set {h : HP} {r p v : Nat} {A : AV} (F : ModIs h A) (hr : r ≤ 4) : ModIs (setR h.1 (112 + r) (upd (h.1 (112 + r)) p (nI v)), h.2) (upA A r p v) := by
  obtain ⟨⟨fn, fw⟩, f0, f1, f2, f3, f4⟩ := F
  have key : ∀ r', r' ≤ 4 → (∀ k, k < 7 → h.1 (112 + r') k = nI (A.1 r' k)) → ∀ k, k < 7 → setR h.1 (112 + r) (upd (h.1 (112 + r)) p (nI v)) (112 + r') k = nI ((upA A r p v).1 r' k) := by
    intro r' hr' f k hk
    by_cases c : r' = r
    · subst c
      rw [set_eq]
      exact row_up f k hk
    · rw [set_ne _ _ (by omega), upA_r c]
      exact f k hk
  refine ⟨⟨?_, ?_⟩, key 0 (by omega) f0, key 1 (by omega) f1, key 2 (by omega) f2, key 3 (by omega) f3, key 4 (by omega) f4⟩
  · dsimp only
    rw [set_ne _ _ (by omega)]
    exact fn
  · dsimp only
    rw [set_ne _ _ (by omega)]
    exact fw
/-- one thing is put otherwise, and back -/
theorem LvY.back {h h2 : HP} {a p : Nat} {v : Int32} (ha : 112 ≤ a ∧ a ≤ 116) (S : LvY (setR h.1 a (upd (h.1 a) p v), h.2) h2) : LvY h (setR h2.1 a (upd (h2.1 a) p (h.1 a p)), h2.2) := by
  obtain ⟨a1, a2, ⟨a3, a4, a5⟩, a6, a7, ⟨a8, a9, a10, a11, a12, a13⟩, a14⟩ := S
  have n1 : ∀ x, ¬ x = a → setR h2.1 a (upd (h2.1 a) p (h.1 a p)) x = h2.1 x := fun x hx => set_ne _ _ hx
  have n2 : ∀ x, ¬ x = a → setR h.1 a (upd (h.1 a) p v) x = h.1 x := fun x hx => set_ne _ _ hx
  dsimp only at *
  refine ⟨a1, fun x hx => ?_, ⟨?_, ?_, ?_⟩, fun x h1 h2' k hk => ?_, fun x h1 h2' k hk => ?_, ?_, fun j hj => ?_⟩
  all_goals try dsimp only
  · rw [n1 x (by omega), a2 x hx, n2 x (by omega)]
  · rw [n1 111 (by omega), a3, n2 111 (by omega)]
  · rw [n1 119 (by omega), a4, n2 119 (by omega)]
  · rw [n1 126 (by omega), a5, n2 126 (by omega)]
  · by_cases c : x = a
    · subst c
      rw [set_eq]
      by_cases d : k = p
      · rw [d, upd_eq]
      · rw [upd_ne _ _ d, a6 x h1 h2' k hk, set_eq, upd_ne _ _ d]
    · rw [n1 x c, a6 x h1 h2' k hk, n2 x c]
  · rw [n1 x (by omega), a7 x h1 h2' k hk, n2 x (by omega)]
  · rw [n1 110 (by omega)]
    rw [n2 110 (by omega)] at a8 a9 a10 a11 a12 a13
    exact ⟨a8, a9, a10, a11, a12, a13⟩
  · rw [n1 123 (by omega), a14 j hj, n2 123 (by omega)]
/-- a loop that gathers, over a heap that changes -/
theorem wp_fold {α β σ : Type} {B : σ → (σ → M β) → M β} {Q : β → HP → Prop} (g : Nat → α → α) (en : α → Int32 → σ) (I : HP → Prop) (n : Nat) {a0 : α} (hn : n < 1000000) (step : ∀ i, i < n → ∀ a h, I h → ∀ k, (∀ h', I h' → wp (k (en (g i a) (nI (i + 1)))) h' Q) → wp (B (en a (nI i)) k) h Q) (fin : ∀ h k, I h → wp (B (en (fold g n a0) (nI n)) k) h Q) {h : HP} (h0 : I h) : wp (loopK NF B (en a0 0)) h Q :=
  wp_loop (fun i s h' => s = en (fold g i a0) (nI i) ∧ I h') n (nf_lt hn) (fun i hi s h' q k K => by
    obtain ⟨rfl, q⟩ := q
    exact step i hi _ h' q k fun h2 q2 => K _ _ ⟨rfl, q2⟩) (fun s h' k q => by
    obtain ⟨rfl, q⟩ := q
    exact fin h' k q) ⟨rfl, h0⟩
theorem x_stay {h h' : HP} {A : AV} (S : Same GX h h') (R : RefOk h.2) (F : FolkIs h 2 A) : RefOk h'.2 ∧ FolkIs h' 2 A :=
  ⟨RefOk.same S R, F.same (by rw [S.2 2 (by unfold GX; omega)]) (by rw [S.2 2 (by unfold GX; omega)]) (fun j h1 h2 k hk => by rw [S.2 (2 + j) (by unfold GX; omega)])⟩
theorem x_gr0 {β : Type} {h : HP} {f : Nat → M β} (R : RefOk h.2) : bnd (gR 5 0 0) (fun r => bnd (gR 4 0 r) f) h = f 2 h := by
  rw [g0_0 R, g1_0 R]
theorem x_gr4 {β : Type} {h : HP} {f : Nat → M β} (R : RefOk h.2) : bnd (gR 5 4 0) f h = f 37 h := e_bnd (e_gR rfl (R 0 4 (by decide) (by decide) (by decide)))
/-- mind: the town's people, one thing otherwise, n weeks on -/
theorem x_aheadFig {h : HP} {p n f : Nat} {A : AV} (R : RefOk h.2) (F : FolkIs h 2 A) (G : GoodA A) (W : A.2.2 ≤ 999) (hp : p < 7) (hn : n < 1000) (hf : f ≤ 9) : wp (cv 5 0 (f_X6_aheadWithFigure 0 (nI p) (nI n) (nI f))) h fun v h' => v = 37 ∧ FolkIs h' 37 (wks (upA A 1 p f) n) ∧ Same (inF 37) h h' := by
  show wp (f_X6_aheadWithFigure 0 (nI p) (nI n) (nI f)) h _
  unfold f_X6_aheadWithFigure
  refine wp_eq (x_gr4 R) (wp_eq (x_gr0 R) ?_)
  refine wp_bnd (wp_mono (X0_copyFrom (FB.of R (b := 37) (by decide)) (FB.of R (b := 2) (by decide)) F (by omega)) fun _ h1 q => ?_)
  obtain ⟨F1, S1⟩ := q
  have R1 := RefOk.same S1 R
  have B1 := FB.of R1 (b := 37) (by decide)
  refine wp_eq (x_gr4 R1) (wp_eq (bR4 B1) (wp_eq (bS2 B1 hp) (wp_eq (x_gr4 (by exact R1)) ?_)))
  have F2 := F1.set (r := 1) (p := p) (v := f) (by omega)
  have G2 : GoodA (upA A 1 p f) := G.up ⟨by omega, by omega, by omega, by omega, by omega⟩
  refine wp_bnd (wp_mono (X0_passWeeks (b := 37) (n := n) (FB.of (by exact R1) (by decide)) F2 G2 (by omega) (show A.2.2 + n ≤ 100000 by omega)) fun _ h3 q => ?_)
  obtain ⟨F3, S3⟩ := q
  have R3 : RefOk h3.2 := RefOk.same S3 R1
  refine wp_eq (x_gr4 R3) (wp_rt ⟨rfl, F3, ?_⟩)
  refine ⟨by rw [S3.1]; exact S1.1, fun a ha => ?_⟩
  rw [S3.2 a ha]
  dsimp only
  rw [set_ne _ _ (by unfold inF at ha; omega)]
  exact S1.2 a ha
/-! humble -/
def huG (A : AV) (n p : Nat) (s : Int32 × Int32) : Int32 × Int32 := if s.2 ≤ erS (wks (upA A 1 p 0) n) then s else (nI p, erS (wks (upA A 1 p 0) n))
def huS (A : AV) (n : Nat) : Int32 := (fold (huG A n) A.2.1 (-9, erS (wks A n))).1
theorem QX_humble {h : HP} {A : AV} {x : Int32} (R : RefOk h.2) (F : FolkIs h 2 A) (G : GoodA A) (W : A.2.2 ≤ 999) : wp (f_X6_humble 0 x) h (OutX h (ob x 0 60) (huS A (ix x))) := by
  unfold f_X6_humble
  refine wp_call X6_outside (gX R ob_no fun e => ?_)
  have hn := G.1.1
  obtain ⟨n, -, hn60, rfl⟩ := ob_ix (lo := 0) (hi := 60) e (by decide) (by decide)
  rw [ix_nI (by omega)]
  refine wp_bnd (wp_mono (x_ahead R F G W (n := n) (by omega)) fun v h1 q => ?_)
  obtain ⟨rfl, ⟨B, R1, F1, G1⟩, S1⟩ := q
  refine wp_call (show cv 0 37 (f_X0_allErrors 37) h1 = _ from X0_allErrors B F1 G1) ?_
  refine wp_fold (huG A n) (fun a x => (a.1, a.2, x)) (fun h' => Same GX h h') A.2.1 (a0 := (-9, erS (wks A n))) (by omega) (fun i hi a h' S k K => ?_) (fun h' k S => ?_) S1
  · obtain ⟨R2, F2⟩ := x_stay S R F
    refine wp_eq (x_gr0 R2) (wp_eq (bI (FB.of R2 (b := 2) (by decide))) ?_)
    rw [F2.1.1, if_neg (nI_ge hi (by omega))]
    refine wp_bnd (wp_mono (x_aheadFig (f := 0) R2 F2 G W (show i < 7 by omega) (show n < 1000 by omega) (by omega)) fun v h3 q => ?_)
    obtain ⟨rfl, F3, S3⟩ := q
    have G3 : GoodA (wks (upA A 1 i 0) n) := wks_good (G.up ⟨by omega, by omega, by omega, by omega, by omega⟩) n (show A.2.2 + n ≤ 100000 by omega)
    refine wp_call (show cv 0 37 (f_X0_allErrors 37) h3 = _ from X0_allErrors (FB.of (RefOk.same S3 R2) (by decide)) F3 G3) ?_
    have K' := K h3 (S.trans (GX37 S3) (fun _ q => q) (fun _ q => q))
    dsimp only at K' ⊢
    unfold huG at K'
    by_cases c : a.2 ≤ erS (wks (upA A 1 i 0) n)
    · rw [if_pos c] at K' ⊢
      rw [nI_1]
      exact K'
    · rw [if_neg c] at K' ⊢
      rw [nI_1]
      exact K'
  · obtain ⟨R2, F2⟩ := x_stay S R F
    refine wp_eq (x_gr0 R2) (wp_eq (bI (FB.of R2 (b := 2) (by decide))) ?_)
    rw [F2.1.1, if_pos (nI_le (Nat.le_refl _) (by omega))]
    exact wp_rt ⟨rfl, S⟩
theorem QY_humble {h : HP} {A : AV} {x : Int32} (R : RefOk h.2) (F : ModIs h A) (G : GoodA A) (W : A.2.2 ≤ 999) : wp (f_X7_humble 110 x) h (OutY h (ob x 0 60) (huS A (ix x))) := by
  unfold f_X7_humble
  refine wp_call X7_notWeeks (gY R ob_no fun e => ?_)
  have hn := G.1.1
  obtain ⟨n, -, hn60, rfl⟩ := ob_ix (lo := 0) (hi := 60) e (by decide) (by decide)
  rw [ix_nI (by omega)]
  refine wp_bnd (wp_mono (y_errorB R F G W (k := n) (by omega)) fun v h1 q => ?_)
  obtain ⟨rfl, S1⟩ := q
  refine wp_fold (huG A n) (fun a x => (a.2, a.1, x)) (fun h' => LvY h h') A.2.1 (a0 := (-9, erS (wks A n))) (by omega) (fun i hi a h' S k K => ?_) (fun h' k S => ?_) S1
  · have R2 := S.ref R
    have F2 := S.mod F
    have i7 : i < 7 := by omega
    refine wp_eq (g110_8) ?_
    rw [F2.1.1, if_neg (nI_ge hi (by omega))]
    refine wp_eq (g110_2 R2) (wp_eq (a113 i7) (wp_eq (g110_2 R2) (wp_eq (s113 i7) ?_)))
    have F3 := F2.set (r := 1) (p := i) (v := 0) (by omega)
    have G3 : GoodA (upA A 1 i 0) := G.up ⟨by omega, by omega, by omega, by omega, by omega⟩
    refine wp_bnd (wp_mono (y_errorB (h := (setR h'.1 113 (upd (h'.1 113) i 0), h'.2)) R2 F3 G3 W (k := n) (by omega)) fun v h3 q => ?_)
    obtain ⟨rfl, S3⟩ := q
    have R3 := S3.ref (by exact R2)
    refine wp_eq (g110_2 R3) (wp_eq (s113 i7) ?_)
    have K' := K _ (S.tr (S3.back (h := h') (by omega)))
    dsimp only at K' ⊢
    unfold huG at K'
    by_cases c : a.2 ≤ erS (wks (upA A 1 i 0) n)
    · rw [if_pos c] at K'
      rw [if_neg (Int32.not_lt.mpr c), nI_1]
      exact K'
    · rw [if_neg c] at K'
      rw [if_pos (Int32.not_le.mp c), nI_1]
      exact K'
  · have F2 := S.mod F
    refine wp_eq (g110_8) ?_
    rw [F2.1.1, if_pos (nI_le (Nat.le_refl _) (by omega))]
    exact wp_rt ⟨rfl, S⟩
