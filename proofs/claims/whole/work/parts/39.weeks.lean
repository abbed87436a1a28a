/-! WHAT IS SEEN BEHIND WEEKS -/
theorem wks_row (A : AV) (n r k : Nat) (hr : ¬ r = 3) : (wks A n).1 r k = A.1 r k := by
  induction n with
  | zero => rfl
  | succ n ih =>
    show (wk (wks A n)).1 r k = _
    unfold wk
    simp only [hr, false_and, if_false]
    exact ih
theorem or0 (x : Int32) : x ||| 0 = x := Int32.or_zero
def erS (A : AV) : Int32 := fold (fun p a => a + nI (ds (A.1 3 p) (A.1 2 p))) A.2.1 0
def foS (A : AV) (d : Int32) : Int32 := fold (fun p a => if nI (ds (A.1 3 p) (A.1 2 p)) ≤ d then a else a ||| ((1 : Int32) <<< (nI p &&& 31))) A.2.1 0
theorem X0_allErrors {h : HP} {b : Nat} {A : AV} (H : FB h.2 b) (F : FolkIs h b A) (G : GoodA A) : f_X0_allErrors b h = some (erS A, h) := by
  obtain ⟨⟨fn, -⟩, f0, f1, f2, f3, f4⟩ := F
  have hn := G.1.1
  unfold f_X0_allErrors
  refine lp_fold (fun p a => a + nI (ds (A.1 3 p) (A.1 2 p))) A.2.1 (by omega) (fun i hi a k => ?_) (fun k => ?_)
  · have hk : i < 7 := by omega
    obtain ⟨-, -, g2, g3, -⟩ := G.2 i hk
    simp only [bR3 H, bR4 H, bR5 H, bR6 H, bR7 H, bR8 H, bI H, bC H, bA1 H hk, bA2 H hk, bA3 H hk, bA4 H hk, bA5 H hk, bA6 H hk, fn, f2 i hk, f3 i hk, ifa]
    rw [if_neg (nI_ge hi (by omega)), mabs_sub (by omega) (by omega), nI_1]
  · simp only [bR3 H, bR4 H, bR5 H, bR6 H, bR7 H, bR8 H, bI H, bC H, fn, ifa]
    rw [if_pos (nI_le (Nat.le_refl _) (by omega))]
    rfl
theorem X0_fooledBy {h : HP} {b : Nat} {A : AV} {d : Int32} (H : FB h.2 b) (F : FolkIs h b A) (G : GoodA A) : f_X0_fooledBy b d h = some (foS A d, h) := by
  obtain ⟨⟨fn, -⟩, f0, f1, f2, f3, f4⟩ := F
  have hn := G.1.1
  unfold f_X0_fooledBy
  refine lp_fold (fun p a => if nI (ds (A.1 3 p) (A.1 2 p)) ≤ d then a else a ||| ((1 : Int32) <<< (nI p &&& 31))) A.2.1 (by omega) (fun i hi a k => ?_) (fun k => ?_)
  · have hk : i < 7 := by omega
    obtain ⟨-, -, g2, g3, -⟩ := G.2 i hk
    simp only [bR3 H, bR4 H, bR5 H, bR6 H, bR7 H, bR8 H, bI H, bC H, bA1 H hk, bA2 H hk, bA3 H hk, bA4 H hk, bA5 H hk, bA6 H hk, fn, f2 i hk, f3 i hk, ifa]
    rw [if_neg (nI_ge hi (by omega)), mabs_sub (by omega) (by omega), nI_1]
    split <;> rfl
  · simp only [bR3 H, bR4 H, bR5 H, bR6 H, bR7 H, bR8 H, bI H, bC H, fn, ifa]
    rw [if_pos (nI_le (Nat.le_refl _) (by omega))]
    rfl
theorem X7_beliefAt {h : HP} {k p N : Nat} {A : AV} (R : RefOk h.2) (T : TrailIs h A N) (hk : k ≤ N) (hN : N ≤ 120) (hp : p < A.2.1) (hn : A.2.1 ≤ 7) : f_X7_beliefAt 110 (nI k) (nI p) h = some (nI ((wks A k).1 3 p), h) := by
  unfold f_X7_beliefAt
  rw [g110_23 R, n7, pk_mul, nI_add, a125 (by omega), T k hk p hp]
  rfl
theorem X7_errorAt {h : HP} {k N : Nat} {A : AV} (R : RefOk h.2) (F : ModIs h A) (G : GoodA A) (T : TrailIs h A N) (hk : k ≤ N) (hN : N ≤ 120) (hw : A.2.2 ≤ 90000) : f_X7_errorAt 110 (nI k) h = some (erS (wks A k), h) := by
  obtain ⟨⟨fn, -⟩, f0, f1, f2, f3, f4⟩ := F
  have hn := G.1.1
  have G' := wks_good G k (by omega)
  unfold f_X7_errorAt erS
  rw [wks_n]
  refine lp_fold (fun p a => a + nI (ds ((wks A k).1 3 p) ((wks A k).1 2 p))) A.2.1 (by omega) (fun i hi a q => ?_) (fun q => ?_)
  · have hk7 : i < 7 := by omega
    obtain ⟨-, -, g2, g3, -⟩ := G'.2 i hk7
    rw [wks_row A k 2 i (by decide)] at g2 ⊢
    simp only [g110_8, fn, ifa]
    rw [if_neg (nI_ge hi (by omega)), c110, e_bnd (X7_beliefAt R T hk hN hi hn), g110_3 R, a114 hk7, f2 i hk7, e_bnd (X7_far (by omega) (by omega)), nI_1]
  · simp only [g110_8, fn, ifa]
    rw [if_pos (nI_le (Nat.le_refl _) (by omega))]
    rfl
theorem X7_fooledAt {h : HP} {k N : Nat} {A : AV} {d : Int32} (R : RefOk h.2) (F : ModIs h A) (G : GoodA A) (T : TrailIs h A N) (hk : k ≤ N) (hN : N ≤ 120) (hw : A.2.2 ≤ 90000) : f_X7_fooledAt 110 (nI k) d h = some (foS (wks A k) d, h) := by
  obtain ⟨⟨fn, -⟩, f0, f1, f2, f3, f4⟩ := F
  have hn := G.1.1
  have G' := wks_good G k (by omega)
  unfold f_X7_fooledAt foS
  rw [wks_n]
  refine lp_fold (fun p a => if nI (ds ((wks A k).1 3 p) ((wks A k).1 2 p)) ≤ d then a else a ||| ((1 : Int32) <<< (nI p &&& 31))) A.2.1 (by omega) (fun i hi a q => ?_) (fun q => ?_)
  · have hk7 : i < 7 := by omega
    obtain ⟨-, -, g2, g3, -⟩ := G'.2 i hk7
    rw [wks_row A k 2 i (by decide)] at g2 ⊢
    simp only [g110_8, fn, ifa]
    rw [if_neg (nI_ge hi (by omega)), c110, e_bnd (X7_beliefAt R T hk hN hi hn), g110_3 R, a114 hk7, f2 i hk7, e_bnd (X7_far (by omega) (by omega)), nI_1, or0, ifa]
    split <;> rfl
  · simp only [g110_8, fn, ifa]
    rw [if_pos (nI_le (Nat.le_refl _) (by omega))]
    rfl
/-! error, fooled, belief -/
theorem GX37 {h h' : HP} (S : Same (inF 37) h h') : Same GX h h' := S.wide fun x q => by
  unfold inF at q
  unfold GX
  omega
theorem RefOk.same {G : Nat → Prop} {h h' : HP} (S : Same G h h') (R : RefOk h.2) : RefOk h'.2 := by rw [S.1]; exact R
theorem x_ahead {h : HP} {n : Nat} {A : AV} (R : RefOk h.2) (F : FolkIs h 2 A) (G : GoodA A) (W : A.2.2 ≤ 999) (hn : n < 1000) : wp (cv 5 0 (f_X6_ahead 0 (nI n))) h fun v h' => v = 37 ∧ (FB h'.2 37 ∧ RefOk h'.2 ∧ FolkIs h' 37 (wks A n) ∧ GoodA (wks A n)) ∧ Same GX h h' :=
  wp_mono (X6_ahead R F G hn (by omega)) fun v h' q => ⟨q.1, ⟨FB.of (RefOk.same q.2.2 R) (by decide), RefOk.same q.2.2 R, q.2.1, wks_good G n (by omega)⟩, GX37 q.2.2⟩
theorem y_find {h : HP} {n : Nat} {A : AV} (R : RefOk h.2) (F : ModIs h A) (G : GoodA A) (W : A.2.2 ≤ 999) (hn : n ≤ 120) : wp (cv 6 110 (f_X7_findWeeks 110 (nI n))) h fun _ h' => TrailIs h' A n ∧ (RefOk h'.2 ∧ ModIs h' A) ∧ LvY h h' :=
  wp_mono (X7_findWeeks R F G hn (by omega)) fun _ h' q => ⟨q.1, ⟨q.2.ref R, q.2.mod F⟩, q.2⟩
theorem QX_error {h : HP} {A : AV} {x : Int32} (R : RefOk h.2) (F : FolkIs h 2 A) (G : GoodA A) (W : A.2.2 ≤ 999) : wp (f_X6_error 0 x) h (OutX h (ob x 0 60) (erS (wks A (ix x)))) := by
  refine wp_call X6_outside (gX R ob_no fun e => ?_)
  obtain ⟨k, -, hk, rfl⟩ := ob_ix (lo := 0) (hi := 60) e (by decide) (by decide)
  rw [ix_nI (by omega)]
  refine wp_bnd (wp_mono (x_ahead R F G W (n := k) (by omega)) fun v h' q => ?_)
  obtain ⟨rfl, ⟨B, R', F', G'⟩, S⟩ := q
  exact wp_call (show cv 0 37 (f_X0_allErrors 37) h' = _ from X0_allErrors B F' G') (wp_rt ⟨rfl, S⟩)
theorem y_errorB {h : HP} {A : AV} {k : Nat} (R : RefOk h.2) (F : ModIs h A) (G : GoodA A) (W : A.2.2 ≤ 999) (hk : k ≤ 120) : wp (cv 6 110 (f_X7_errorBehind 110 (nI k))) h fun v h' => v = erS (wks A k) ∧ LvY h h' := by
  show wp (f_X7_errorBehind 110 (nI k)) h _
  unfold f_X7_errorBehind
  refine wp_bnd (wp_mono (y_find R F G W hk) fun v h' q => ?_)
  obtain ⟨T, ⟨R', F'⟩, S⟩ := q
  exact wp_call (show cv 6 110 (f_X7_errorAt 110 (nI k)) h' = _ from X7_errorAt R' F' G T (Nat.le_refl _) hk (by omega)) (wp_rt ⟨rfl, S⟩)
theorem QY_error {h : HP} {A : AV} {x : Int32} (R : RefOk h.2) (F : ModIs h A) (G : GoodA A) (W : A.2.2 ≤ 999) : wp (f_X7_error 110 x) h (OutY h (ob x 0 60) (erS (wks A (ix x)))) := by
  refine wp_call X7_notWeeks (gY R ob_no fun e => ?_)
  obtain ⟨k, -, hk, rfl⟩ := ob_ix (lo := 0) (hi := 60) e (by decide) (by decide)
  rw [ix_nI (by omega)]
  exact wp_bnd (wp_mono (y_errorB R F G W (k := k) (by omega)) fun v h' q => wp_rt q)
theorem QX_fooled {h : HP} {A : AV} {x d : Int32} (R : RefOk h.2) (F : FolkIs h 2 A) (G : GoodA A) (W : A.2.2 ≤ 999) : wp (f_X6_fooled 0 x d) h (OutX h (ob2 x 60 d 0 99) (foS (wks A (ix x)) d)) := by
  refine wp_call X6_outside2 (gX R ob2_no fun e => ?_)
  obtain ⟨⟨k, hk, rfl⟩, -⟩ := ob2_ix (xm := 60) (yl := 0) (ym := 99) e (by decide) (by decide) (by decide)
  rw [ix_nI (by omega)]
  refine wp_bnd (wp_mono (x_ahead R F G W (n := k) (by omega)) fun v h' q => ?_)
  obtain ⟨rfl, ⟨B, R', F', G'⟩, S⟩ := q
  exact wp_call (show cv 0 37 (f_X0_fooledBy 37 d) h' = _ from X0_fooledBy B F' G') (wp_rt ⟨rfl, S⟩)
theorem QY_fooled {h : HP} {A : AV} {x d : Int32} (R : RefOk h.2) (F : ModIs h A) (G : GoodA A) (W : A.2.2 ≤ 999) : wp (f_X7_fooled 110 x d) h (OutY h (ob2 x 60 d 0 99) (foS (wks A (ix x)) d)) := by
  have key : wp (if ob2 x 60 d 0 99 = 0 then bnd (cv 6 110 (f_X7_findWeeks 110 x)) fun _ => bnd (cv 6 110 (f_X7_fooledAt 110 x d)) fun t5 => rt t5 else bnd (cv 6 110 (f_X7_no 110 (ob2 x 60 d 0 99))) fun t7 => rt t7) h (OutY h (ob2 x 60 d 0 99) (foS (wks A (ix x)) d)) := by
    refine gY R ob2_no fun e => ?_
    obtain ⟨⟨k, hk, rfl⟩, -⟩ := ob2_ix (xm := 60) (yl := 0) (ym := 99) e (by decide) (by decide) (by decide)
    rw [ix_nI (by omega)]
    refine wp_bnd (wp_mono (y_find R F G W (n := k) (by omega)) fun v h' q => ?_)
    obtain ⟨T, ⟨R', F'⟩, S⟩ := q
    exact wp_call (show cv 6 110 (f_X7_fooledAt 110 (nI k) d) h' = _ from X7_fooledAt R' F' G T (Nat.le_refl _) (by omega) (by omega)) (wp_rt ⟨rfl, S⟩)
  unfold f_X7_fooled jn
  unfold ob2 at key ⊢
  repeat' split
  all_goals (simp only [*, if_true, if_false] at key ⊢)
  all_goals exact key
