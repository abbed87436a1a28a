/-! NEWEAR -/
def neE (A : AV) (n i j : Nat) : Int32 := erS (wks (upA A 4 i (A.1 4 i ||| 2 ^ j)) n)
def neG (A : AV) (n i j : Nat) (s : Int32 × Int32) : Int32 × Int32 := if i = j ∨ tb (A.1 4 i) j = true then s else if s.2 ≤ neE A n i j then s else (nI (10 * i + j), neE A n i j)
def neS (A : AV) (n : Nat) : Int32 := (fold (fun i a => fold (neG A n i) A.2.1 a) A.2.1 (-9, erS (wks A n))).1
theorem GoodA.ear {A : AV} {i j : Nat} (G : GoodA A) (hi : i < A.2.1) (hj : j < A.2.1) : GoodA (upA A 4 i (A.1 4 i ||| 2 ^ j)) := by
  have hn := G.1.1
  refine G.up ⟨by omega, by omega, by omega, by omega, fun _ => Nat.or_lt_two_pow (G.2 i (by omega)).2.2.2.2 (pow_lt31 hj)⟩
theorem ear31 {A : AV} {i : Nat} (G : GoodA A) (hi : i < 7) : A.1 4 i < 2 ^ 7 := Nat.lt_of_lt_of_le (G.2 i hi).2.2.2.2 (Nat.pow_le_pow_right (by decide) G.1.1)
theorem x_errEar {h : HP} {i j n : Nat} {A : AV} (R : RefOk h.2) (F : FolkIs h 2 A) (G : GoodA A) (W : A.2.2 ≤ 999) (hi : i < A.2.1) (hj : j < A.2.1) (hn : n < 1000) : wp (cv 5 0 (f_X6_errorsWithEar 0 (nI i) (nI j) (nI n))) h fun v h' => v = neE A n i j ∧ Same GX h h' := by
  show wp (f_X6_errorsWithEar 0 (nI i) (nI j) (nI n)) h _
  unfold f_X6_errorsWithEar
  have h7 := G.1.1
  have i7 : i < 7 := by omega
  refine wp_eq (x_gr4 R) (wp_eq (x_gr0 R) ?_)
  refine wp_bnd (wp_mono (X0_copyFrom (FB.of R (b := 37) (by decide)) (FB.of R (b := 2) (by decide)) F (by omega)) fun _ h1 q => ?_)
  obtain ⟨F1, S1⟩ := q
  have R1 := RefOk.same S1 R
  have B1 := FB.of R1 (b := 37) (by decide)
  refine wp_eq (x_gr4 R1) (wp_eq (bR7 B1) (wp_eq (bA5 B1 i7) ?_))
  have l1 := lt31 (ear31 G i7) (by omega)
  have l2 : 2 ^ j < 2 ^ 31 := pow_lt31 (by omega)
  rw [F1.2.2.2.2.2 i i7, nI_shl1 (by omega), nI_or l1 l2]
  refine wp_eq (bS5 B1 i7) (wp_eq (x_gr4 (by exact R1)) ?_)
  have F2 := F1.set (r := 4) (p := i) (v := A.1 4 i ||| 2 ^ j) (by omega)
  refine wp_bnd (wp_mono (X0_passWeeks (b := 37) (n := n) (FB.of (by exact R1) (by decide)) F2 (G.ear hi hj) (by omega) (show A.2.2 + n ≤ 100000 by omega)) fun _ h3 q => ?_)
  obtain ⟨F3, S3⟩ := q
  have R3 : RefOk h3.2 := RefOk.same S3 R1
  refine wp_eq (x_gr4 R3) ?_
  refine wp_call (show cv 0 37 (f_X0_allErrors 37) h3 = _ from X0_allErrors (FB.of R3 (by decide)) F3 (wks_good (G.ear hi hj) n (show A.2.2 + n ≤ 100000 by omega))) (wp_rt ⟨rfl, ?_⟩)
  refine GX37 ⟨by rw [S3.1]; exact S1.1, fun a ha => ?_⟩
  rw [S3.2 a ha]
  dsimp only
  rw [set_ne _ _ (by unfold inF at ha; omega)]
  exact S1.2 a ha
theorem QX_newEar {h : HP} {A : AV} {x : Int32} (R : RefOk h.2) (F : FolkIs h 2 A) (G : GoodA A) (W : A.2.2 ≤ 999) : wp (f_X6_newEar 0 x) h (OutX h (ob x 0 60) (neS A (ix x))) := by
  unfold f_X6_newEar
  refine wp_call X6_outside (gX R ob_no fun e => ?_)
  have hn := G.1.1
  obtain ⟨n, -, hn60, rfl⟩ := ob_ix (lo := 0) (hi := 60) e (by decide) (by decide)
  rw [ix_nI (by omega)]
  refine wp_bnd (wp_mono (x_ahead R F G W (n := n) (by omega)) fun v h1 q => ?_)
  obtain ⟨rfl, ⟨B, R1, F1, G1⟩, S1⟩ := q
  refine wp_call (show cv 0 37 (f_X0_allErrors 37) h1 = _ from X0_allErrors B F1 G1) ?_
  refine wp_fold (fun i a => fold (neG A n i) A.2.1 a) (fun a x => (a.1, a.2, x)) (fun h' => Same GX h h') A.2.1 (a0 := (-9, erS (wks A n))) (by omega) (fun i hi a h' S k K => ?_) (fun h' k S => ?_) S1
  · obtain ⟨R2, F2⟩ := x_stay S R F
    refine wp_eq (x_gr0 R2) (wp_eq (bI (FB.of R2 (b := 2) (by decide))) ?_)
    rw [F2.1.1, if_neg (nI_ge hi (by omega))]
    refine wp_fold (neG A n i) (fun a x => (a.1, a.2, x)) (fun h' => Same GX h h') A.2.1 (a0 := a) (by omega) (fun j hj a2 h3 S3 k2 K2 => ?_) (fun h3 k2 S3 => ?_) S
    · obtain ⟨R3, F3⟩ := x_stay S3 R F
      have B3 := FB.of R3 (b := 2) (by decide)
      have l1 := lt31 (ear31 G (show i < 7 by omega)) (by omega)
      refine wp_eq (x_gr0 R3) (wp_eq (bI B3) ?_)
      rw [F3.1.1, if_neg (nI_ge hj (by omega))]
      dsimp only
      have K3 := K2
      unfold neG at K3
      by_cases c : i = j
      · rw [if_pos (by rw [c])]
        rw [nI_1]
        simp only [c, true_or, if_true] at K3
        exact K3 h3 S3
      · rw [if_neg (fun q => c ((nI_eq (by omega) (by omega)).mp q))]
        rw [show (fun r20 => bnd (gR 4 0 r20) fun r21 => bnd (gR 0 7 r21) fun r22 => bnd (aI r22 (nI i)) fun t23 => bnd (f_X6_holds t23 (nI j)) fun t24 => if t24 = (0 : Int32) then bnd (cv 5 0 (f_X6_errorsWithEar 0 (nI i) (nI j) (nI n))) fun t26 => if a2.2 ≤ t26 then k2 (a2.1, a2.2, (nI j + (1 : Int32))) else k2 ((((10 : Int32) * nI i) + nI j), t26, (nI j + (1 : Int32))) else k2 (a2.1, a2.2, (nI j + (1 : Int32)))) = _ from rfl]
        refine wp_eq (x_gr0 R3) (wp_eq (bR7 B3) (wp_eq (bA5 B3 (show i < 7 by omega)) ?_))
        rw [F3.2.2.2.2.2 i (by omega)]
        refine wp_call (X6_holds l1 (by omega)) ?_
        rw [tb_if]
        cases z : tb (A.1 4 i) j
        · simp only [c, z, Bool.false_eq_true, or_self, if_false] at K3 ⊢
          refine wp_bnd (wp_mono (x_errEar R3 F3 G W hi hj (show n < 1000 by omega)) fun v h4 q => ?_)
          obtain ⟨rfl, S4⟩ := q
          have K4 := K3 h4 (S3.trans S4 (fun _ q => q) (fun _ q => q))
          rw [nI_1, show (10 : Int32) = nI 10 from rfl, pk_mul, nI_add]
          by_cases d : a2.2 ≤ neE A n i j
          · rw [if_pos d] at K4 ⊢
            exact K4
          · rw [if_neg d] at K4 ⊢
            exact K4
        · simp only [z, or_true, if_true] at K3 ⊢
          rw [nI_1]
          exact K3 h3 S3
    · obtain ⟨R3, F3⟩ := x_stay S3 R F
      refine wp_eq (x_gr0 R3) (wp_eq (bI (FB.of R3 (b := 2) (by decide))) ?_)
      rw [F3.1.1, if_pos (nI_le (Nat.le_refl _) (by omega)), nI_1]
      exact K h3 S3
  · obtain ⟨R2, F2⟩ := x_stay S R F
    refine wp_eq (x_gr0 R2) (wp_eq (bI (FB.of R2 (b := 2) (by decide))) ?_)
    rw [F2.1.1, if_pos (nI_le (Nat.le_refl _) (by omega))]
    exact wp_rt ⟨rfl, S⟩
/-- a fold over 7 times 7 in one -/
theorem fold_skip {α : Type} {g : Nat → α → α} {n m : Nat} {a : α} (h : n ≤ m) (hs : ∀ j, n ≤ j → j < m → ∀ a, g j a = a) : fold g m a = fold g n a := by
  induction m with
  | zero =>
    have : n = 0 := by omega
    rw [this]
  | succ m ih =>
    rcases Nat.lt_or_ge n (m + 1) with c | c
    · show g m (fold g m a) = _
      rw [hs m (by omega) (by omega), ih (by omega) fun j h1 h2 => hs j h1 (by omega)]
    · have : n = m + 1 := by omega
      rw [this]
theorem fold_add {α : Type} {g : Nat → α → α} {n m : Nat} {a : α} : fold g (n + m) a = fold (fun j => g (n + j)) m (fold g n a) := by
  induction m with
  | zero => rfl
  | succ m ih =>
    show g (n + m) (fold g (n + m) a) = _
    rw [ih]
    rfl
theorem fold_congr {α : Type} {g g' : Nat → α → α} {n : Nat} {a : α} (h : ∀ i, i < n → ∀ a, g i a = g' i a) : fold g n a = fold g' n a := by
  induction n with
  | zero => rfl
  | succ n ih =>
    show g n (fold g n a) = g' n (fold g' n a)
    rw [ih fun i hi => h i (by omega), h n (by omega)]
theorem fold_flat {α : Type} {g : Nat → Nat → α → α} {w i : Nat} {a : α} (hw : 0 < w) : fold (fun k => g (k / w) (k % w)) (w * i) a = fold (fun i a => fold (g i) w a) i a := by
  induction i with
  | zero => rfl
  | succ i ih =>
    rw [Nat.mul_succ, fold_add, ih]
    show _ = fold (g i) w _
    refine fold_congr fun j hj a => ?_
    rw [Nat.mul_add_div hw, Nat.div_eq_of_lt hj, Nat.mul_add_mod, Nat.mod_eq_of_lt hj, Nat.add_zero]
/-- the reference skips who is nobody -/
def neM (A : AV) (n i j : Nat) (s : Int32 × Int32) : Int32 × Int32 := if i < A.2.1 ∧ j < A.2.1 then neG A n i j s else s
theorem ne_flat {A : AV} {n : Nat} {a : Int32 × Int32} (h7 : A.2.1 ≤ 7) : fold (fun k => neM A n (k / 7) (k % 7)) 49 a = fold (fun i a => fold (neG A n i) A.2.1 a) A.2.1 a := by
  rw [show 49 = 7 * 7 from rfl, fold_flat (g := neM A n) (by decide), fold_skip h7 (fun i h1 h2 a => ?_)]
  · refine fold_congr fun i hi a => ?_
    rw [fold_skip (g := neM A n i) h7 (fun j h1 h2 a => (if_neg (by omega) : neM A n i j a = a))]
    exact fold_congr fun j hj a => if_pos ⟨hi, hj⟩
  · exact fold_skip (Nat.zero_le _) fun j h3 h4 a => if_neg (by omega)
theorem xor_or {x j : Nat} (h : tb x j = false) : x ^^^ 2 ^ j = x ||| 2 ^ j := tb_ext fun k => by
  rw [tb_xor, tb_or, tb_pow]
  by_cases c : j = k
  · subst c
    rw [h]
    simp
  · simp [c]
theorem QY_newEar {h : HP} {A : AV} {x : Int32} (R : RefOk h.2) (F : ModIs h A) (G : GoodA A) (W : A.2.2 ≤ 999) : wp (f_X7_newEar 110 x) h (OutY h (ob x 0 60) (neS A (ix x))) := by
  unfold f_X7_newEar
  refine wp_call X7_notWeeks (gY R ob_no fun e => ?_)
  have hn := G.1.1
  obtain ⟨n, -, hn60, rfl⟩ := ob_ix (lo := 0) (hi := 60) e (by decide) (by decide)
  rw [ix_nI (by omega)]
  refine wp_bnd (wp_mono (y_errorB R F G W (k := n) (by omega)) fun v h1 q => ?_)
  obtain ⟨rfl, S1⟩ := q
  unfold neS
  rw [← ne_flat hn]
  refine wp_fold (fun k => neM A n (k / 7) (k % 7)) (fun a x => (a.2, a.1, x)) (fun h' => LvY h h') 49 (a0 := (-9, erS (wks A n))) (by omega) (fun m hm a h' S k K => ?_) (fun h' k S => ?_) S1
  · have R2 := S.ref R
    have F2 := S.mod F
    have hi : m / 7 < 7 := by omega
    have hj : m % 7 < 7 := by omega
    dsimp only at K ⊢
    rw [if_neg (show ¬ (49 : Int32) ≤ nI m from nI_ge (b := 49) hm (by decide))]
    rw [n7]
    refine wp_eq (b_div (by omega) (by omega) (by omega)) (wp_eq (b_rem (by omega) (by omega) (by omega)) ?_)
    generalize m / 7 = i at *
    generalize m % 7 = j at *
    refine wp_call (show cv 6 110 (f_X7_areTwo 110 (nI i) (nI j)) h' = _ from X7_areTwo F2.1.1) ?_
    rw [tb_if, nI_1]
    have hp : ∀ i, i < 7 → pn A.2.1 (nI i) = decide (i < A.2.1) := fun i hi => by
      unfold pn
      rw [decide_eq_true (nI_pos (by omega)), Bool.true_and]
      exact decide_eq_decide.mpr ⟨fun q => Nat.lt_of_not_le fun r => q ((nI_leI (by omega) (by omega)).mpr r), fun q => nI_ge q (by omega)⟩
    rw [hp i hi, hp j hj]
    unfold neM neG at K
    by_cases ci : i < A.2.1
    · by_cases cj : j < A.2.1
      · by_cases c : i = j
        · simp only [ci, cj, c, decide_true, Bool.and_self, not_true_eq_false, decide_false, Bool.and_false, Bool.false_eq_true, if_false, and_self, if_true, true_or] at K ⊢
          exact K h' S
        · have c' : ¬ nI i = nI j := fun q => c ((nI_eq (by omega) (by omega)).mp q)
          have l1 := lt31 (ear31 G hi) (by omega)
          have l2 : 2 ^ j < 2 ^ 31 := pow_lt31 (by omega)
          simp only [ci, cj, c, c', decide_true, Bool.and_self, not_false_eq_true, and_self, if_true, false_or] at K ⊢
          refine wp_eq (g110_5 R2) (wp_eq (a116 hi) ?_)
          rw [F2.2.2.2.2.2 i hi]
          refine wp_call (X7_has l1 (by omega)) ?_
          rw [tb_if]
          cases z : tb (A.1 4 i) j
          · simp only [z, Bool.false_eq_true, if_false] at K ⊢
            refine wp_eq (g110_5 R2) (wp_eq (a116 hi) ?_)
            rw [F2.2.2.2.2.2 i hi, nI_shl1 (by omega), nI_xor l1 l2, xor_or z]
            refine wp_eq (s116 hi) ?_
            have F3 := F2.set (r := 4) (p := i) (v := A.1 4 i ||| 2 ^ j) (by omega)
            have G3 := G.ear ci cj
            refine wp_bnd (wp_mono (y_errorB (h := (setR h'.1 116 (upd (h'.1 116) i (nI (A.1 4 i ||| 2 ^ j))), h'.2)) R2 F3 G3 W (k := n) (by omega)) fun v h3 q => ?_)
            obtain ⟨rfl, S3⟩ := q
            have R3 := S3.ref (by exact R2)
            have F4 := S3.mod F3
            refine wp_eq (g110_5 R3) (wp_eq (a116 hi) ?_)
            rw [F4.2.2.2.2.2 i hi, upA_at]
            have l3 : A.1 4 i ||| 2 ^ j < 2 ^ 31 := Nat.or_lt_two_pow l1 l2
            have back : (A.1 4 i ||| 2 ^ j) ^^^ 2 ^ j = A.1 4 i := by rw [← xor_or z, Nat.xor_assoc, Nat.xor_self, Nat.xor_zero]
            rw [nI_xor l3 l2, back]
            refine wp_eq (s116 hi) ?_
            have L4 := S3.back (h := h') (by omega)
            rw [show h'.1 116 i = nI (A.1 4 i) from F2.2.2.2.2.2 i hi] at L4
            have K' := K _ (S.tr L4)
            rw [show (10 : Int32) = nI 10 from rfl, pk_mul, nI_add]
            by_cases d : a.2 ≤ neE A n i j
            · rw [if_pos d] at K'
              rw [show erS (wks (upA A 4 i (A.1 4 i ||| 2 ^ j)) n) = neE A n i j from rfl, if_neg (Int32.not_lt.mpr d)]
              exact K'
            · rw [if_neg d] at K'
              rw [show erS (wks (upA A 4 i (A.1 4 i ||| 2 ^ j)) n) = neE A n i j from rfl, if_pos (Int32.not_le.mp d)]
              exact K'
          · simp only [z, if_true] at K ⊢
            exact K h' S
      · simp only [ci, cj, decide_true, decide_false, Bool.and_false, Bool.false_and, Bool.false_eq_true, if_false, and_false] at K ⊢
        exact K h' S
    · simp only [ci, decide_false, Bool.false_and, Bool.false_eq_true, if_false, false_and] at K ⊢
      exact K h' S
  · rw [if_pos (show (49 : Int32) ≤ nI 49 from by decide)]
    exact wp_rt ⟨rfl, S⟩
