/-! WORTH -/
/-- nobody asks p -/
def noEar (A : AV) (p : Nat) : AV := (fun r k => if r = 4 ∧ k < A.2.1 then wo (A.1 4 k) (2 ^ p) else A.1 r k, A.2)
/-- the first i no longer ask p -/
def noEars (A : AV) (p i : Nat) : AV := (fun r k => if r = 4 ∧ k < i then wo (A.1 4 k) (2 ^ p) else A.1 r k, A.2)
theorem noEars_0 (A : AV) (p : Nat) : noEars A p 0 = A := by
  unfold noEars
  have : (fun r k => if r = 4 ∧ k < 0 then wo (A.1 4 k) (2 ^ p) else A.1 r k) = A.1 := by
    funext r k
    rw [if_neg (by omega)]
  rw [this]
theorem noEars_s (A : AV) (p i : Nat) : noEars A p (i + 1) = upA (noEars A p i) 4 i (wo (A.1 4 i) (2 ^ p)) := by
  unfold noEars upA
  have : (fun r k => if r = 4 ∧ k < i + 1 then wo (A.1 4 k) (2 ^ p) else A.1 r k) = fun r' k => if r' = 4 ∧ k = i then wo (A.1 4 i) (2 ^ p) else if r' = 4 ∧ k < i then wo (A.1 4 k) (2 ^ p) else A.1 r' k := by
    funext r k
    by_cases c : r = 4
    · by_cases d : k = i
      · rw [if_pos ⟨c, by omega⟩, if_pos ⟨c, d⟩, d]
      · by_cases e : k < i
        · rw [if_pos ⟨c, by omega⟩, if_neg (fun q => d q.2), if_pos ⟨c, e⟩]
        · rw [if_neg (by omega), if_neg (fun q => d q.2), if_neg (by omega)]
    · rw [if_neg (fun q => c q.1), if_neg (fun q => c q.1), if_neg (fun q => c q.1)]
  rw [this]
theorem noEars_i (A : AV) (p i : Nat) : (noEars A p i).1 4 i = A.1 4 i := by
  unfold noEars
  dsimp only
  rw [if_neg (by omega)]
theorem noEars_g {A : AV} {p i : Nat} (G : GoodA A) : GoodA (noEars A p i) := by
  refine ⟨G.1, fun k hk => ?_⟩
  obtain ⟨g0, g1, g2, g3, g4⟩ := G.2 k hk
  unfold noEars
  dsimp only
  refine ⟨by rw [if_neg (by omega)]; exact g0, by rw [if_neg (by omega)]; exact g1, by rw [if_neg (by omega)]; exact g2, by rw [if_neg (by omega)]; exact g3, ?_⟩
  split
  · exact wo_lt g4
  · exact g4
def woS (A : AV) (p n : Nat) : Int32 := erS (wks (noEars A p A.2.1) n) - erS (wks A n)
/-- worth gives its refusals otherwise -/
def OutXw (h : HP) (nm am : Int32) (v : Int32) (h' : HP) : Prop := (nm = 0 ∧ v = am ∧ Same GX h h') ∨ (IsNo nm ∧ v = 1000000000 - nm ∧ h' = Rf 105 h nm)
def OutYw (h : HP) (nm am : Int32) (v : Int32) (h' : HP) : Prop := (nm = 0 ∧ v = am ∧ LvY h h') ∨ (IsNo nm ∧ v = 1000000000 - nm ∧ h' = Rf 111 h nm)
theorem QX_worth {h : HP} {A : AV} {x v : Int32} (R : RefOk h.2) (F : FolkIs h 2 A) (G : GoodA A) (W : A.2.2 ≤ 999) : wp (f_X6_worth 0 x v) h (OutXw h (fs (np A.2.1 x) (ob v 0 60)) (woS A (ix x) (ix v))) := by
  unfold f_X6_worth
  refine wp_call (noP R F.1.1) (wp_call X6_outside (wp_call X6_first ?_))
  have hn := G.1.1
  by_cases e : fs (np A.2.1 x) (ob v 0 60) = 0
  · rw [if_pos e]
    refine wp_mono ?_ fun v h' q => Or.inl ⟨e, q⟩
    obtain ⟨p, hp, rfl⟩ := np_ix (fs_z e).1 (by omega)
    obtain ⟨n, -, hn60, rfl⟩ := ob_ix (lo := 0) (hi := 60) (fs_z e).2 (by decide) (by decide)
    rw [ix_nI (by omega), ix_nI (by omega)]
    refine wp_bnd (wp_mono (x_ahead R F G W (n := n) (by omega)) fun v1 h1 q => ?_)
    obtain ⟨rfl, ⟨B1, R1, F1, G1⟩, S1⟩ := q
    refine wp_call (show cv 0 37 (f_X0_allErrors 37) h1 = _ from X0_allErrors B1 F1 G1) ?_
    obtain ⟨-, F1'⟩ := x_stay S1 R F
    refine wp_eq (x_gr4 R1) (wp_eq (x_gr0 R1) ?_)
    refine wp_bnd (wp_mono (X0_copyFrom (b := 37) (c := 2) (FB.of R1 (by decide)) (FB.of R1 (by decide)) F1' (by omega)) fun _ h2 q => ?_)
    obtain ⟨F2, S2⟩ := q
    have S2' : Same GX h h2 := S1.trans (GX37 S2) (fun _ q => q) (fun _ q => q)
    refine wp_loop (fun i s h' => s = nI i ∧ FolkIs h' 37 (noEars A p i) ∧ Same GX h h') A.2.1 (nf_lt (by omega)) (fun i hi s h' q k K => ?_) (fun s h' k q => ?_) ⟨rfl, by rw [noEars_0]; exact F2, S2'⟩
    · obtain ⟨rfl, F', S'⟩ := q
      have R' := RefOk.same S' R
      have B' := FB.of R' (b := 37) (by decide)
      have i7 : i < 7 := by omega
      refine wp_eq (x_gr4 R') (wp_eq (bI B') ?_)
      rw [F'.1.1, if_neg (show ¬ nI (noEars A p i).2.1 ≤ nI i from nI_ge (b := A.2.1) hi (by omega))]
      refine wp_eq (x_gr4 R') (wp_eq (bR7 B') (wp_eq (bA5 B' i7) ?_))
      have l1 := lt31 (ear31 G i7) (by omega)
      have l2 : 2 ^ p < 2 ^ 31 := pow_lt31 (by omega)
      rw [F'.2.2.2.2.2 i i7, noEars_i, nI_shl1 (by omega), nI_wo l1 l2]
      refine wp_eq (bS5 B' i7) ?_
      have F3 := F'.set (r := 4) (p := i) (v := wo (A.1 4 i) (2 ^ p)) (by omega)
      rw [← noEars_s] at F3
      rw [nI_1]
      refine K _ _ ⟨rfl, F3, ⟨S'.1, fun a ha => ?_⟩⟩
      dsimp only
      rw [set_ne _ _ (by unfold GX at ha; omega)]
      exact S'.2 a ha
    · obtain ⟨rfl, F', S'⟩ := q
      have R' := RefOk.same S' R
      have B' := FB.of R' (b := 37) (by decide)
      refine wp_eq (x_gr4 R') (wp_eq (bI B') ?_)
      rw [F'.1.1, if_pos (show nI (noEars A p A.2.1).2.1 ≤ nI A.2.1 from nI_le (Nat.le_refl _) (by omega))]
      refine wp_eq (x_gr4 R') ?_
      refine wp_bnd (wp_mono (X0_passWeeks (b := 37) (n := n) B' F' (noEars_g G) (by omega) (show A.2.2 + n ≤ 100000 by omega)) fun _ h3 q => ?_)
      obtain ⟨F3, S3⟩ := q
      have R3 := RefOk.same S3 R'
      refine wp_eq (x_gr4 R3) ?_
      exact wp_call (show cv 0 37 (f_X0_allErrors 37) h3 = _ from X0_allErrors (FB.of R3 (by decide)) F3 (wks_good (noEars_g G) n (show A.2.2 + n ≤ 100000 by omega))) (wp_rt ⟨rfl, S'.trans (GX37 S3) (fun _ q => q) (fun _ q => q)⟩)
  · rw [if_neg e]
    have hno := (fs_no np_no ob_no).resolve_left e
    exact wp_call (show cv 5 0 (f_X6_refuse 0 _) h = some (_, Rf 105 h _) from X6_refuse R hno) (wp_rt (Or.inr ⟨hno, rfl, rfl⟩))
/-! the reference: a save, and back -/
def LvF (h h' : HP) : Prop := LvY h h' ∧ ∀ j, j < 110 → h'.1 123 j = h.1 123 j
theorem y_errorBF {h : HP} {A : AV} {k : Nat} (R : RefOk h.2) (F : ModIs h A) (G : GoodA A) (W : A.2.2 ≤ 999) (hk : k ≤ 120) : wp (cv 6 110 (f_X7_errorBehind 110 (nI k))) h fun v h' => v = erS (wks A k) ∧ LvF h h' ∧ TrailIs h' A k := by
  show wp (f_X7_errorBehind 110 (nI k)) h _
  unfold f_X7_errorBehind
  refine wp_bnd (wp_mono (show wp (cv 6 110 (f_X7_findWeeks 110 (nI k))) h _ from X7_findWeeksF R F G hk (by omega)) fun v h' q => ?_)
  obtain ⟨T, S, S2, -⟩ := q
  exact wp_call (show cv 6 110 (f_X7_errorAt 110 (nI k)) h' = _ from X7_errorAt (S.ref R) (S.mod F) G T (Nat.le_refl _) hk (by omega)) (wp_rt ⟨rfl, ⟨S, S2⟩, T⟩)
/-- all but the ears -/
def LvE (h h' : HP) : Prop := h'.2 = h.2 ∧ (∀ a, a < 110 → h'.1 a = h.1 a) ∧ (h'.1 111 = h.1 111 ∧ h'.1 119 = h.1 119 ∧ h'.1 126 = h.1 126) ∧ (h'.1 110 14 = h.1 110 14 ∧ h'.1 110 18 = h.1 110 18 ∧ h'.1 110 21 = h.1 110 21 ∧ h'.1 110 25 = h.1 110 25) ∧ (∀ j, j < 55 ∨ 165 ≤ j → h'.1 123 j = h.1 123 j) ∧ KeptAt (h'.1 123) 55 h
theorem y_save {h : HP} (R : RefOk h.2) : wp (cv 6 110 (f_X7_passesAll 110 (1 : Int32) (1 : Int32))) h fun _ h' => LvE h h' ∧ ∀ A, ModIs h A → ModIs h' A := by
  refine wp_mono (X7_passesAllK (w := 1) R (by omega)) fun _ h' q => ?_
  obtain ⟨K1, O1, S1, Q1⟩ := q
  refine ⟨⟨S1.1, fun a ha => S1.2 a (by omega), ⟨S1.2 _ (by omega), S1.2 _ (by omega), S1.2 _ (by omega)⟩, ⟨Q1 _ (by decide) (by decide), Q1 _ (by decide) (by decide), Q1 _ (by decide) (by decide), Q1 _ (by decide) (by decide)⟩, fun j hj => O1 j (by omega), K1⟩, fun A F => F.same (Q1 8 (by decide) (by decide)) (Q1 9 (by decide) (by decide)) (fun j h1 h2 k hk => by rw [S1.2 j (by omega)])⟩
theorem LvE.lv {h h1 h2 : HP} (a : LvE h h1) (b : LvF h1 h2) : LvE h h2 := by
  obtain ⟨a1, a2, ⟨a3, a4, a5⟩, ⟨a6, a7, a8, a9⟩, a10, a11⟩ := a
  obtain ⟨⟨b1, b2, ⟨b3, b4, b5⟩, -, -, ⟨-, -, b6, b7, b8, b9⟩, b10⟩, b11⟩ := b
  obtain ⟨c0, c1, c2, c3, c4, c5, c6, c7, c8⟩ := a11
  have e : ∀ j, j < 110 → h2.1 123 j = h1.1 123 j := b11
  refine ⟨b1.trans a1, fun a ha => (b2 a ha).trans (a2 a ha), ⟨b3.trans a3, b4.trans a4, b5.trans a5⟩, ⟨b6.trans a6, b7.trans a7, b8.trans a8, b9.trans a9⟩, fun j hj => (b10 j hj).trans (a10 j hj), ?_⟩
  refine ⟨fun k hk => ?_, fun k hk => ?_, fun k hk => ?_, fun k hk => ?_, fun k hk => ?_, fun k hk => ?_, fun k hk => ?_, ?_, ?_⟩
  · rw [e _ (by omega)]; exact c0 k hk
  · rw [e _ (by omega)]; exact c1 k hk
  · rw [e _ (by omega)]; exact c2 k hk
  · rw [e _ (by omega)]; exact c3 k hk
  · rw [e _ (by omega)]; exact c4 k hk
  · rw [e _ (by omega)]; exact c5 k hk
  · rw [e _ (by omega)]; exact c6 k hk
  · rw [e _ (by omega)]; exact c7
  · rw [e _ (by omega)]; exact c8
theorem LvE.ear {h h1 : HP} {i : Nat} {v : Int32} (a : LvE h h1) : LvE h (setR h1.1 116 (upd (h1.1 116) i v), h1.2) := by
  obtain ⟨a1, a2, ⟨a3, a4, a5⟩, ⟨a6, a7, a8, a9⟩, a10, a11⟩ := a
  have n1 : ∀ x, ¬ x = 116 → setR h1.1 116 (upd (h1.1 116) i v) x = h1.1 x := fun x hx => set_ne _ _ hx
  refine ⟨a1, fun a ha => ?_, ⟨?_, ?_, ?_⟩, ?_, fun j hj => ?_, ?_⟩
  all_goals dsimp only
  · rw [n1 _ (by omega)]; exact a2 a ha
  · rw [n1 _ (by omega)]; exact a3
  · rw [n1 _ (by omega)]; exact a4
  · rw [n1 _ (by omega)]; exact a5
  · rw [n1 110 (by omega)]; exact ⟨a6, a7, a8, a9⟩
  · rw [n1 _ (by omega)]; exact a10 j hj
  · rw [n1 123 (by omega)]; exact a11
/-- what was saved is put back -/
theorem y_unsave {h h1 : HP} (R : RefOk h.2) (a : LvE h h1) : wp (cv 6 110 (f_X7_passesAll 110 (1 : Int32) (0 : Int32))) h1 fun _ h' => LvY h h' := by
  obtain ⟨a1, a2, ⟨a3, a4, a5⟩, ⟨a6, a7, a8, a9⟩, a10, a11⟩ := a
  refine wp_mono (X7_passesAllR (w := 1) (by rw [a1]; exact R) (by omega)) fun _ h' q => ?_
  obtain ⟨K1, O1, S1, Q1⟩ := q
  obtain ⟨c0, c1, c2, c3, c4, c5, c6, c7, c8⟩ := a11
  obtain ⟨b0, b1, b2, b3, b4, b5, b6, b7, b8⟩ := K1
  refine ⟨by rw [S1.1, a1], fun a ha => (S1.2 a (by omega)).trans (a2 a ha), ⟨(S1.2 _ (by omega)).trans a3, (S1.2 _ (by omega)).trans a4, (S1.2 _ (by omega)).trans a5⟩, fun a h1 h2 k hk => ?_, fun a h1 h2 k hk => ?_, ⟨b7.symm.trans c7, b8.symm.trans c8, (Q1 _ (by decide) (by decide) (by decide) (by decide)).trans a6, (Q1 _ (by decide) (by decide) (by decide) (by decide)).trans a7, (Q1 _ (by decide) (by decide) (by decide) (by decide)).trans a8, (Q1 _ (by decide) (by decide) (by decide) (by decide)).trans a9⟩, fun j hj => ?_⟩
  · rcases (show a = 112 ∨ a = 113 ∨ a = 114 ∨ a = 115 ∨ a = 116 by omega) with rfl | rfl | rfl | rfl | rfl
    · exact (b0 k hk).symm.trans (c0 k hk)
    · exact (b1 k hk).symm.trans (c1 k hk)
    · exact (b2 k hk).symm.trans (c2 k hk)
    · exact (b3 k hk).symm.trans (c3 k hk)
    · exact (b4 k hk).symm.trans (c4 k hk)
  · rcases (show a = 117 ∨ a = 118 by omega) with rfl | rfl
    · exact (b5 k hk).symm.trans (c5 k hk)
    · exact (b6 k hk).symm.trans (c6 k hk)
  · rw [O1]
    exact a10 j hj
theorem QY_worth {h : HP} {A : AV} {x v : Int32} (R : RefOk h.2) (F : ModIs h A) (G : GoodA A) (W : A.2.2 ≤ 999) : wp (f_X7_worth 110 x v) h (OutYw h (fs (np A.2.1 x) (ob v 0 60)) (woS A (ix x) (ix v))) := by
  unfold f_X7_worth
  refine gu_pw F.1.1 ?_
  have hn := G.1.1
  by_cases e : fs (np A.2.1 x) (ob v 0 60) = 0
  · rw [if_pos e]
    refine wp_mono ?_ fun v h' q => Or.inl ⟨e, q⟩
    obtain ⟨p, hp, rfl⟩ := np_ix (fs_z e).1 (by omega)
    obtain ⟨n, -, hn60, rfl⟩ := ob_ix (lo := 0) (hi := 60) (fs_z e).2 (by decide) (by decide)
    rw [ix_nI (by omega), ix_nI (by omega)]
    refine wp_bnd (wp_mono (y_errorB R F G W (k := n) (by omega)) fun v1 h1 q => ?_)
    obtain ⟨rfl, S1⟩ := q
    have R1 := S1.ref R
    refine wp_bnd (wp_mono (y_save R1) fun _ h2 q => ?_)
    obtain ⟨E2, M2⟩ := q
    have F2 := M2 A (S1.mod F)
    refine wp_loop (fun i s h' => s = nI i ∧ ModIs h' (noEars A p i) ∧ LvE h1 h') A.2.1 (nf_lt (by omega)) (fun i hi s h' q k K => ?_) (fun s h' k q => ?_) ⟨rfl, by rw [noEars_0]; exact F2, E2⟩
    · obtain ⟨rfl, F', E'⟩ := q
      have R' : RefOk h'.2 := by rw [E'.1]; exact R1
      have i7 : i < 7 := by omega
      refine wp_eq g110_8 ?_
      rw [F'.1.1, if_neg (show ¬ nI (noEars A p i).2.1 ≤ nI i from nI_ge (b := A.2.1) hi (by omega))]
      refine wp_eq (g110_5 R') (wp_eq (a116 i7) ?_)
      have l1 := lt31 (ear31 G i7) (by omega)
      have l2 : 2 ^ p < 2 ^ 31 := pow_lt31 (by omega)
      rw [F'.2.2.2.2.2 i i7, noEars_i, nI_shl1 (by omega), nI_wo l1 l2]
      refine wp_eq (s116 i7) ?_
      have F3 := F'.set (r := 4) (p := i) (v := wo (A.1 4 i) (2 ^ p)) (by omega)
      rw [← noEars_s] at F3
      rw [nI_1]
      exact K _ _ ⟨rfl, F3, E'.ear⟩
    · obtain ⟨rfl, F', E'⟩ := q
      have R' : RefOk h'.2 := by rw [E'.1]; exact R1
      refine wp_eq g110_8 ?_
      rw [F'.1.1, if_pos (show nI (noEars A p A.2.1).2.1 ≤ nI A.2.1 from nI_le (Nat.le_refl _) (by omega))]
      refine wp_bnd (wp_mono (y_errorBF R' F' (noEars_g G) W (k := n) (by omega)) fun v3 h3 q => ?_)
      obtain ⟨rfl, S3, -⟩ := q
      refine wp_bnd (wp_mono (y_unsave R1 (E'.lv S3)) fun _ h4 q => ?_)
      exact wp_rt ⟨rfl, S1.tr q⟩
  · rw [if_neg e]
    have hno := (fs_no np_no ob_no).resolve_left e
    exact wp_call (show cv 6 110 (f_X7_lower 110 _) h = some (_, Rf 111 h _) from X7_lower R hno) (wp_rt (Or.inr ⟨hno, rfl, rfl⟩))
