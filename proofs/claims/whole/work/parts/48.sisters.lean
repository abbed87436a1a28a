/-! SISTERS -/
theorem gu_twi {β : Type} {h : HP} {n : Nat} {Q : β → HP → Prop} {K : Int32 → M β} {x y a w : Int32} (e : h.1 110 8 = nI n) (H : wp (K (fs (n2p n x y) (fs (ob a 0 60) (nc 2 w)))) h Q) : wp (bnd (cv 6 110 (f_X7_areTwo 110 x y)) fun t1 => jn (fun k4 => if ¬ t1 = (0 : Int32) then bnd (f_X7_notWeeks a) fun t41 => k4 t41 else k4 (-1 : Int32)) (fun (s3 : Int32) => jn (fun k6 => if ¬ s3 = (0 : Int32) then k6 s3 else bnd (f_X7_isIn w (0 : Int32) (1 : Int32)) fun t39 => if ¬ t39 = (0 : Int32) then k6 s3 else k6 (-2 : Int32)) K)) h Q := by
  have two : ∀ c : Int32, c = 0 ∨ IsNo c → wp (K (fs c (nc 2 w))) h Q → wp (jn (fun k6 => if ¬ c = (0 : Int32) then k6 c else bnd (f_X7_isIn w (0 : Int32) (1 : Int32)) fun t39 => if ¬ t39 = (0 : Int32) then k6 c else k6 (-2 : Int32)) K) h Q := by
    intro c hc H
    show wp (if ¬ c = 0 then K c else bnd (f_X7_isIn w (0 : Int32) (nI 1)) fun t17 => if ¬ t17 = 0 then K c else K (-2 : Int32)) h Q
    unfold fs nc at H
    by_cases z : c = 0
    · subst z
      rw [if_neg (fun q => q rfl)]
      refine wp_call (X7_isIn (m := 1) (by decide)) ?_
      rw [tb_ifn]
      simp only [if_true] at H ⊢
      cases z : pn 2 w <;> simp only [z, Bool.false_eq_true, if_false, if_true] at H ⊢ <;> exact H
    · rw [if_pos z]
      simp only [z, if_false] at H
      exact H
  refine wp_call (X7_areTwo e) ?_
  show wp (if ¬ _ = 0 then bnd (f_X7_notWeeks a) fun t41 => jn (fun k6 => if ¬ t41 = (0 : Int32) then k6 t41 else bnd (f_X7_isIn w (0 : Int32) (1 : Int32)) fun t39 => if ¬ t39 = (0 : Int32) then k6 t41 else k6 (-2 : Int32)) K else jn (fun k6 => if ¬ (-1 : Int32) = (0 : Int32) then k6 (-1 : Int32) else bnd (f_X7_isIn w (0 : Int32) (1 : Int32)) fun t39 => if ¬ t39 = (0 : Int32) then k6 (-1 : Int32) else k6 (-2 : Int32)) K) h Q
  rw [tb_ifn]
  unfold n2p at H
  cases z : (pn n x && pn n y && decide (¬ x = y))
  · rw [z] at H
    rw [if_neg (by decide)]
    refine two (-1) (Or.inr (Or.inl rfl)) ?_
    exact H
  · rw [z] at H
    rw [if_pos rfl]
    refine wp_call X7_notWeeks (two _ ob_no ?_)
    exact H
/-- as sisters -/
def siA (A : AV) (i j : Nat) : AV := upA (upA A 4 i (2 ^ j)) 4 j (2 ^ i)
theorem sisG {A : AV} {i j : Nat} (G : GoodA A) (hi : i < A.2.1) (hj : j < A.2.1) : GoodA (siA A i j) := by
  have hn := G.1.1
  have G1 : GoodA (upA A 4 i (2 ^ j)) := G.up ⟨by omega, by omega, by omega, by omega, fun _ => pow_lt31 hj⟩
  exact G1.up ⟨by omega, by omega, by omega, by omega, fun _ => pow_lt31 hi⟩
def sd (B : AV) (i j k : Nat) : Nat := ds ((wks B k).1 3 i) ((wks B k).1 3 j)
def sx (B : AV) (i j : Nat) : Nat → Nat
  | 0 => 0
  | k + 1 => max (sx B i j k) (sd B i j k)
def siS (A : AV) (i j n : Nat) (w : Int32) : Int32 := if w = 0 then nI (sd (siA A i j) i j n) else nI (sx (siA A i j) i j (n + 1))
theorem sd_le {B : AV} {i j k : Nat} (G : GoodA B) (W : B.2.2 ≤ 999) (hi : i < 7) (hj : j < 7) (hk : k ≤ 200) : sd B i j k ≤ 99 := by
  have G' := wks_good G k (by omega)
  have := (G'.2 i hi).2.2.2.1
  have := (G'.2 j hj).2.2.2.1
  unfold sd ds
  omega
theorem sx_le {B : AV} {i j k : Nat} (G : GoodA B) (W : B.2.2 ≤ 999) (hi : i < 7) (hj : j < 7) (hk : k ≤ 200) : sx B i j k ≤ 99 := by
  induction k with
  | zero => exact Nat.zero_le _
  | succ k ih =>
    have := ih (by omega)
    have := sd_le (k := k) G W hi hj (by omega)
    unfold sx
    omega
theorem X0_apart {h : HP} {b i j : Nat} {A : AV} (H : FB h.2 b) (F : FolkIs h b A) (G : GoodA A) (hi : i < 7) (hj : j < 7) : f_X0_apart b (nI i) (nI j) h = some (nI (ds (A.1 3 i) (A.1 3 j)), h) := by
  have a1 := (G.2 i hi).2.2.2.1
  have a2 := (G.2 j hj).2.2.2.1
  unfold f_X0_apart
  rw [bR6 H, bA4 H hi, bR6 H, bA4 H hj, F.2.2.2.2.1 i hi, F.2.2.2.2.1 j hj, mabs_sub (by omega) (by omega)]
  rfl
theorem QX_sisters {h : HP} {A : AV} {x y a w : Int32} (R : RefOk h.2) (F : FolkIs h 2 A) (G : GoodA A) (W : A.2.2 ≤ 999) : wp (f_X6_sisters 0 x y a w) h (OutX h (fs (n2p A.2.1 x y) (fs (ob a 0 60) (nc 2 w))) (siS A (ix x) (ix y) (ix a) w)) := by
  unfold f_X6_sisters
  refine wp_call (noT R F.1.1) (wp_call X6_outside (wp_call (X6_noChoice (m := 2)) (wp_call X6_first (wp_call X6_first (gX R (fs_no n2p_no (fs_no ob_no nc_no)) fun e => ?_)))))
  have hn := G.1.1
  obtain ⟨i, j, hi, hj, rfl, rfl, hij⟩ := n2p_ix (fs_z e).1 (by omega)
  obtain ⟨n, -, hn60, rfl⟩ := ob_ix (lo := 0) (hi := 60) (fs_z (fs_z e).2).1 (by decide) (by decide)
  rw [ix_nI (by omega), ix_nI (by omega), ix_nI (by omega)]
  have i7 : i < 7 := by omega
  have j7 : j < 7 := by omega
  refine wp_bnd (wp_mono (x_ahead R F G W (n := 0) (by omega)) fun v1 h1 q => ?_)
  obtain ⟨rfl, ⟨B1, R1, F1, G1⟩, S1⟩ := q
  refine wp_eq (bR7 B1) ?_
  rw [nI_shl1 (show j < 31 by omega), nI_shl1 (show i < 31 by omega)]
  refine wp_eq (bS5 B1 i7) (wp_eq (bR7 (by exact B1)) (wp_eq (bS5 (by exact B1) j7) ?_))
  have F2 := (F1.set (r := 4) (p := i) (v := 2 ^ j) (by omega)).set (r := 4) (p := j) (v := 2 ^ i) (by omega)
  have G2 := sisG G hi hj
  have W2 : (siA A i j).2.2 ≤ 999 := W
  have S2 : Same GX h (setR (setR h1.1 (37 + 5) (upd (h1.1 (37 + 5)) i (nI (2 ^ j)))) (37 + 5) (upd (setR h1.1 (37 + 5) (upd (h1.1 (37 + 5)) i (nI (2 ^ j))) (37 + 5)) j (nI (2 ^ i))), h1.2) := ⟨S1.1, fun a ha => by
    dsimp only
    rw [set_ne _ _ (by unfold GX at ha; omega), set_ne _ _ (by unfold GX at ha; omega)]
    exact S1.2 a ha⟩
  have R2 : RefOk h1.2 := R1
  replace F2 : FolkIs (setR (setR h1.1 (37 + 5) (upd (h1.1 (37 + 5)) i (nI (2 ^ j)))) (37 + 5) (upd (setR h1.1 (37 + 5) (upd (h1.1 (37 + 5)) i (nI (2 ^ j))) (37 + 5)) j (nI (2 ^ i))), h1.2) 37 (wks (siA A i j) 0) := F2
  generalize hh2 : ((setR (setR h1.1 (37 + 5) (upd (h1.1 (37 + 5)) i (nI (2 ^ j)))) (37 + 5) (upd (setR h1.1 (37 + 5) (upd (h1.1 (37 + 5)) i (nI (2 ^ j))) (37 + 5)) j (nI (2 ^ i))), h1.2) : HP) = h2 at F2 S2 ⊢
  replace R2 : RefOk h2.2 := RefOk.same S2 R
  have d0 : ds ((wks (siA A i j) 0).1 3 i) ((wks (siA A i j) 0).1 3 j) = sd (siA A i j) i j 0 := rfl
  refine wp_call (show cv 0 37 (f_X0_apart 37 (nI i) (nI j)) h2 = _ from X0_apart (FB.of R2 (by decide)) F2 G2 i7 j7) ?_
  rw [d0]
  generalize hB : siA A i j = B at *
  have x1 : sx B i j 1 = sd B i j 0 := by
    show max 0 (sd B i j 0) = _
    omega
  refine wp_loop (fun k s h' => s = (nI (sd B i j k), nI (sx B i j (k + 1)), nI (k + 1)) ∧ RefOk h'.2 ∧ FolkIs h' 37 (wks B k) ∧ Same GX h h') n (nf_lt (by omega)) (fun k hk s h' q K HK => ?_) (fun s h' K q => ?_) ⟨by rw [x1]; rfl, R2, F2, S2⟩
  · obtain ⟨rfl, R', F', S'⟩ := q
    rw [if_neg (show ¬ nI n < nI (k + 1) from fun q => absurd ((nI_ltI (by omega) (by omega)).mp q) (by omega))]
    refine wp_bnd (wp_mono (x_week W2 G2 (by omega) R' F' S') fun v h3 q => ?_)
    obtain ⟨-, -, R3, F3, S3, -⟩ := q
    have l1 := sd_le (k := k + 1) G2 W2 i7 j7 (by omega)
    have l2 := sx_le (k := k + 1) G2 W2 i7 j7 (by omega)
    refine wp_call (show cv 0 37 (f_X0_apart 37 (nI i) (nI j)) h3 = _ from X0_apart (FB.of R3 (by decide)) F3 (wks_good G2 (k + 1) (by omega)) i7 j7) ?_
    refine HK _ _ ⟨?_, R3, F3, S3⟩
    dsimp only
    rw [show ds ((wks B (k + 1)).1 3 i) ((wks B (k + 1)).1 3 j) = sd B i j (k + 1) from rfl, mmax_nI (by omega) (by omega), nI_1]
    rfl
  · obtain ⟨rfl, R', F', S'⟩ := q
    rw [if_pos (show nI n < nI (n + 1) from (nI_ltI (by omega) (by omega)).mpr (by omega))]
    unfold siS
    rw [hB]
    by_cases c : w = 0
    · rw [if_neg (fun q => q c), if_pos c]
      exact wp_rt ⟨rfl, S'⟩
    · rw [if_pos c, if_neg c]
      exact wp_rt ⟨rfl, S'⟩
theorem QY_sisters {h : HP} {A : AV} {x y a w : Int32} (R : RefOk h.2) (F : ModIs h A) (G : GoodA A) (W : A.2.2 ≤ 999) : wp (f_X7_sisters 110 x y a w) h (OutY h (fs (n2p A.2.1 x y) (fs (ob a 0 60) (nc 2 w))) (siS A (ix x) (ix y) (ix a) w)) := by
  unfold f_X7_sisters
  refine gu_twi F.1.1 (gY R (fs_no n2p_no (fs_no ob_no nc_no)) fun e => ?_)
  have hn := G.1.1
  obtain ⟨i, j, hi, hj, rfl, rfl, hij⟩ := n2p_ix (fs_z e).1 (by omega)
  obtain ⟨n, -, hn60, rfl⟩ := ob_ix (lo := 0) (hi := 60) (fs_z (fs_z e).2).1 (by decide) (by decide)
  rw [ix_nI (by omega), ix_nI (by omega), ix_nI (by omega)]
  have i7 : i < 7 := by omega
  have j7 : j < 7 := by omega
  refine wp_eq (g110_5 R) (wp_eq (a116 i7) (wp_eq (g110_5 R) (wp_eq (a116 j7) (wp_eq (g110_5 R) ?_))))
  rw [nI_shl1 (show j < 31 by omega), nI_shl1 (show i < 31 by omega)]
  refine wp_eq (s116 i7) (wp_eq (g110_5 (by exact R)) (wp_eq (s116 j7) ?_))
  have F2 : ModIs _ (siA A i j) := (F.set (r := 4) (p := i) (v := 2 ^ j) (by omega)).set (r := 4) (p := j) (v := 2 ^ i) (by omega)
  have G2 := sisG G hi hj
  have W2 : (siA A i j).2.2 ≤ 999 := W
  refine wp_bnd (wp_mono (y_find (n := n) (by exact R) F2 G2 W2 (by omega)) fun _ h3 q => ?_)
  obtain ⟨T3, ⟨R3, F3⟩, S3⟩ := q
  refine wp_eq (g110_5 R3) (wp_eq (s116 i7) (wp_eq (g110_5 (by exact R3)) (wp_eq (s116 j7) ?_)))
  have L : LvY h (setR (setR h3.1 116 (upd (h3.1 116) i (h.1 116 i))) 116 (upd (setR h3.1 116 (upd (h3.1 116) i (h.1 116 i)) 116) j (h.1 116 j)), h3.2) := by
    have b1 := S3.back (h := (setR h.1 116 (upd (h.1 116) i (nI (2 ^ j))), h.2)) (by omega)
    have b2 := b1.back (h := h) (by omega)
    have ej : (setR h.1 116 (upd (h.1 116) i (nI (2 ^ j)))) 116 j = h.1 116 j := by rw [set_eq, upd_ne _ _ (fun q => hij q.symm)]
    dsimp only at b2
    rw [ej] at b2
    have key : ∀ h5 h6 : HP, h5 = h6 → LvY h h5 → LvY h h6 := fun _ _ e q => e ▸ q
    refine key _ _ ?_ b2
    refine hp_ext (fun q => ?_) rfl
    dsimp only
    by_cases c : q = 116
    · rw [c]
      simp only [set_eq]
      funext k
      by_cases d1 : k = i
      · subst d1
        rw [upd_eq, upd_ne _ _ hij, upd_eq]
      · rw [upd_ne _ _ d1]
        by_cases d2 : k = j
        · rw [d2, upd_eq, upd_eq]
        · rw [upd_ne _ _ d2, upd_ne _ _ d2, upd_ne _ _ d1]
    · simp only [set_ne _ _ c]
  have T4 : TrailIs (setR (setR h3.1 116 (upd (h3.1 116) i (h.1 116 i))) 116 (upd (setR h3.1 116 (upd (h3.1 116) i (h.1 116 i)) 116) j (h.1 116 j)), h3.2) (siA A i j) n := fun k hk q hq => by
    dsimp only
    rw [set_ne _ _ (by omega), set_ne _ _ (by omega)]
    exact T3 k hk q hq
  generalize ((setR (setR h3.1 116 (upd (h3.1 116) i (h.1 116 i))) 116 (upd (setR h3.1 116 (upd (h3.1 116) i (h.1 116 i)) 116) j (h.1 116 j)), h3.2) : HP) = h4 at L T4 ⊢
  have R4 := L.ref R
  generalize hB : siA A i j = B at *
  have hB1 : B.2.1 = A.2.1 := by rw [← hB]; rfl
  have T' : ∀ k, k ≤ n → ∀ p, p < A.2.1 → cv 6 110 (f_X7_beliefAt 110 (nI k) (nI p)) h4 = some (nI ((wks B k).1 3 p), h4) := fun k hk p hp => X7_beliefAt R4 T4 hk (by omega) (by omega) (by omega)
  have D : ∀ k, k ≤ n → ∀ p, p < 7 → (wks B k).1 3 p ≤ 99 := fun k hk p hp => ((wks_good G2 k (by omega)).2 p hp).2.2.2.1
  refine ⟨_, h4, ?_, rfl, L⟩
  refine lp_pure (s := fun k => (nI (sx B i j k), nI k)) (n + 1) (nf_lt (by omega)) (fun k hk K => ?_) (fun K => ?_)
  · have l1 := sd_le (k := k) G2 W2 i7 j7 (by omega)
    have l2 := sx_le (k := k) G2 W2 i7 j7 (by omega)
    have d1 := D k (by omega) i i7
    have d2 := D k (by omega) j j7
    rw [ifa, if_neg (show ¬ nI n < nI k from fun q => absurd ((nI_ltI (by omega) (by omega)).mp q) (by omega)), e_bnd (T' k (by omega) i hi), e_bnd (T' k (by omega) j hj), e_bnd (X7_far (by omega) (by omega)), ifa]
    rw [show ds ((wks B k).1 3 i) ((wks B k).1 3 j) = sd B i j k from rfl]
    have e1 : sx B i j (k + 1) = max (sx B i j k) (sd B i j k) := rfl
    rw [e1]
    by_cases c : sd B i j k ≤ sx B i j k
    · rw [if_pos ((nI_leI (by omega) (by omega)).mpr c), Nat.max_eq_left c, nI_1]
    · rw [if_neg (fun q => c ((nI_leI (by omega) (by omega)).mp q)), e_bnd (T' k (by omega) i hi), e_bnd (T' k (by omega) j hj), e_bnd (X7_far (by omega) (by omega)), nI_1, Nat.max_eq_right (by omega)]
      rfl
  · have d1 := D n (by omega) i i7
    have d2 := D n (by omega) j j7
    rw [ifa, if_pos (show nI n < nI (n + 1) from (nI_ltI (by omega) (by omega)).mpr (by omega))]
    unfold siS
    rw [hB]
    by_cases c : w = 0
    · rw [if_neg (fun q => q c), if_pos c, e_bnd (T' n (by omega) i hi), e_bnd (T' n (by omega) j hj), e_bnd (X7_far (by omega) (by omega))]
      rfl
    · rw [if_pos c, if_neg c]
      rfl
