/-! CHANGED -/
theorem gu_po {β : Type} {h : HP} {n : Nat} {Q : β → HP → Prop} {K : Int32 → M β} {x a b lo am bm : Int32} (e : h.1 110 8 = nI n) (H : wp (K (fs (np n x) (ob2 a am b lo bm))) h Q) : wp (bnd (cv 6 110 (f_X7_isPerson 110 x)) fun t1 => jn (fun k4 => if ¬ t1 = (0 : Int32) then if a < (0 : Int32) then k4 (-4 : Int32) else if lo ≤ b then if am < a then k4 (-6 : Int32) else if b ≤ bm then k4 (0 : Int32) else k4 (-6 : Int32) else k4 (-4 : Int32) else k4 (-1 : Int32)) K) h Q := by
  refine wp_call (X7_isPerson e) ?_
  show wp (if ¬ _ = 0 then if a < (0 : Int32) then K (-4 : Int32) else if lo ≤ b then if am < a then K (-6 : Int32) else if b ≤ bm then K (0 : Int32) else K (-6 : Int32) else K (-4 : Int32) else K (-1 : Int32)) h Q
  rw [tb_ifn]
  unfold fs np at H
  cases z : pn n x
  · simp only [z, Bool.false_eq_true, if_false] at H ⊢
    rw [if_neg (by decide)] at H
    exact H
  · simp only [z, if_true] at H ⊢
    unfold ob2 at H
    repeat' split
    all_goals (simp only [*, if_true, if_false] at H ⊢)
    all_goals exact H
theorem uk_comm (A B : AV) (n : Nat) : uk A B n = uk B A n := by
  induction n with
  | zero => rfl
  | succ n ih =>
    rw [uk_s, uk_s, ih]
    by_cases c : A.1 3 n = B.1 3 n
    · rw [if_pos c, if_pos c.symm]
    · rw [if_neg c, if_neg fun q => c q.symm]
def chS (A : AV) (p n v : Nat) : Int32 := nI (uk (wks (upA A 1 p v) n) (wks A n) A.2.1)
theorem QX_changed {h : HP} {A : AV} {x y z : Int32} (R : RefOk h.2) (F : FolkIs h 2 A) (G : GoodA A) (W : A.2.2 ≤ 999) : wp (f_X6_changed 0 x y z) h (OutX h (fs (np A.2.1 x) (ob2 y 60 z 0 9)) (chS A (ix x) (ix y) (ix z))) := by
  unfold f_X6_changed
  refine wp_call (noP R F.1.1) (wp_call X6_outside2 (wp_call X6_first (gX R (fs_no np_no ob2_no) fun e => ?_)))
  have hn := G.1.1
  obtain ⟨p, hp, rfl⟩ := np_ix (fs_z e).1 (by omega)
  obtain ⟨⟨n, hn60, rfl⟩, ⟨v, -, hv, rfl⟩⟩ := ob2_ix (xm := 60) (yl := 0) (ym := 9) (fs_z e).2 (by decide) (by decide) (by decide)
  rw [ix_nI (by omega), ix_nI (by omega), ix_nI (by omega)]
  refine wp_eq (e_bnd (e_gR rfl (R 0 1 (by decide) (by decide) (by decide)))) (wp_eq (e_bnd (e_gR rfl (R 13 0 (by decide) (by decide) (by decide)))) ?_)
  refine wp_bnd (wp_mono (x_ahead R F G W (n := n) (by omega)) fun v1 h1 q => ?_)
  obtain ⟨rfl, ⟨B, R1, F1, G1⟩, S1⟩ := q
  refine wp_bnd (wp_mono (X0_copyFrom (b := 14) (c := 37) (FB.of R1 (by decide)) B F1 (by omega)) fun _ h2 q => ?_)
  obtain ⟨E2, S2⟩ := q
  have S12 : Same GX h h2 := S1.trans S2 (fun _ q => q) (fun a q => by unfold inF at q; unfold GX; omega)
  obtain ⟨R2, F2⟩ := x_stay S12 R F
  refine wp_bnd (wp_mono (x_aheadFig R2 F2 G W (show p < 7 by omega) (show n < 1000 by omega) hv) fun v h3 q => ?_)
  obtain ⟨rfl, F3, S3⟩ := q
  have R3 := RefOk.same S3 R2
  have E3 : FolkIs h3 14 (wks A n) := E2.same (by rw [S3.2 14 (by unfold inF; omega)]) (by rw [S3.2 14 (by unfold inF; omega)]) (fun j h1 h2 k hk => by rw [S3.2 (14 + j) (by unfold inF; omega)])
  refine wp_eq (e_bnd (e_gR rfl (R3 0 1 (by decide) (by decide) (by decide)))) (wp_eq (e_bnd (e_gR rfl (R3 13 0 (by decide) (by decide) (by decide)))) ?_)
  have G3 : GoodA (wks (upA A 1 p v) n) := wks_good (G.up ⟨by omega, by omega, by omega, by omega, by omega⟩) n (show A.2.2 + n ≤ 100000 by omega)
  refine wp_call (show cv 0 37 (f_X0_unlike 37 14) h3 = _ from X0_unlike (FB.of R3 (by decide)) (FB.of R3 (by decide)) F3 E3 G3 (wks_good G n (by omega))) (wp_rt ⟨?_, S12.trans (GX37 S3) (fun _ q => q) (fun _ q => q)⟩)
  rw [wks_n]
  rfl
theorem QY_changed {h : HP} {A : AV} {x y z : Int32} (R : RefOk h.2) (F : ModIs h A) (G : GoodA A) (W : A.2.2 ≤ 999) : wp (f_X7_changed 110 x y z) h (OutY h (fs (np A.2.1 x) (ob2 y 60 z 0 9)) (chS A (ix x) (ix y) (ix z))) := by
  unfold f_X7_changed
  refine gu_po F.1.1 (gY R (fs_no np_no ob2_no) fun e => ?_)
  have hn := G.1.1
  obtain ⟨p, hp, rfl⟩ := np_ix (fs_z e).1 (by omega)
  obtain ⟨⟨n, hn60, rfl⟩, ⟨v, -, hv, rfl⟩⟩ := ob2_ix (xm := 60) (yl := 0) (ym := 9) (fs_z e).2 (by decide) (by decide) (by decide)
  rw [ix_nI (by omega), ix_nI (by omega), ix_nI (by omega)]
  have p7 : p < 7 := by omega
  refine wp_bnd (wp_mono (y_find R F G W (n := n) (by omega)) fun _ h1 q => ?_)
  obtain ⟨T1, ⟨R1, F1⟩, S1⟩ := q
  refine wp_loop (fun i s h2 => s = nI i ∧ Same (fun a => a = 128) h1 h2 ∧ ∀ k, k < i → h2.1 128 k = nI ((wks A n).1 3 k)) A.2.1 (nf_lt (by omega)) (fun i hi s h2 hI k K => ?_) (fun s h2 k hI => ?_) ⟨rfl, Same.rfl', fun k hk => absurd hk (Nat.not_lt_zero k)⟩
  · obtain ⟨rfl, S2, P2⟩ := hI
    have R2 : RefOk h2.2 := RefOk.same S2 R1
    have T2 : TrailIs h2 A n := fun k hk p hp => by rw [S2.2 125 (by omega)]; exact T1 k hk p hp
    refine wp_eq g110_8 ?_
    rw [S2.2 110 (by omega), F1.1.1, if_neg (nI_ge hi (by omega))]
    refine wp_eq (g110_27 R2) ?_
    refine wp_call (show cv 6 110 (f_X7_beliefAt 110 (nI n) (nI i)) h2 = _ from X7_beliefAt R2 T2 (Nat.le_refl _) (by omega) hi hn) ?_
    refine wp_eq (s128 (by omega)) ?_
    refine K _ _ ⟨nI_1 i, ⟨S2.1, fun a ha => ?_⟩, fun k hk => ?_⟩
    · dsimp only
      rw [set_ne _ _ ha]
      exact S2.2 a ha
    · dsimp only
      rw [set_eq]
      by_cases c : k = i
      · rw [c, upd_eq]
      · rw [upd_ne _ _ c]
        exact P2 k (by omega)
  · obtain ⟨rfl, S2, P2⟩ := hI
    have R2 : RefOk h2.2 := RefOk.same S2 R1
    have L2 : LvY h h2 := S1.tr (LvY.of (S2.wide fun a q => by omega))
    have F2 := L2.mod F
    refine wp_eq g110_8 ?_
    rw [F2.1.1, if_pos (nI_le (Nat.le_refl _) (by omega))]
    refine wp_eq (g110_2 R2) (wp_eq (a113 p7) (wp_eq (g110_2 R2) (wp_eq (s113 p7) ?_)))
    have F3 := F2.set (r := 1) (p := p) (v := v) (by omega)
    have G3 : GoodA (upA A 1 p v) := G.up ⟨by omega, by omega, by omega, by omega, by omega⟩
    have W3 : (upA A 1 p v).2.2 ≤ 90000 := show A.2.2 ≤ 90000 by omega
    refine wp_bnd (wp_mono (show wp (cv 6 110 (f_X7_findWeeks 110 (nI n))) _ _ from X7_findWeeksF (n := n) (show RefOk (setR h2.1 113 (upd (h2.1 113) p (nI v)), h2.2).2 from R2) F3 G3 (by omega) W3) fun _ h3 q => ?_)
    obtain ⟨T3, S3, -, O3⟩ := q
    have R3 := S3.ref (by exact R2)
    refine wp_eq (g110_2 R3) (wp_eq (s113 p7) ?_)
    have L4 := L2.tr (S3.back (h := h2) (by omega))
    have P4 : ∀ k, k < A.2.1 → (setR h3.1 113 (upd (h3.1 113) p (h2.1 113 p)), h3.2).1 128 k = nI ((wks A n).1 3 k) := fun k hk => by
      dsimp only
      rw [set_ne _ _ (by omega), O3 128 (by omega)]
      dsimp only
      rw [set_ne _ _ (by omega)]
      exact P2 k hk
    have T4 : TrailIs (setR h3.1 113 (upd (h3.1 113) p (h2.1 113 p)), h3.2) (upA A 1 p v) n := fun k hk q hq => by
      dsimp only
      rw [set_ne _ _ (by omega)]
      exact T3 k hk q hq
    generalize (setR h3.1 113 (upd (h3.1 113) p (h2.1 113 p)), h3.2) = h4 at L4 P4 T4 ⊢
    have R4 := L4.ref R
    have F4 := L4.mod F
    refine ⟨_, h4, ?_, rfl, L4⟩
    have GA := wks_good G n (by omega)
    have GB := wks_good G3 n (show A.2.2 + n ≤ 100000 by omega)
    refine lp_pure (s := fun i => (nI (uk (wks (upA A 1 p v) n) (wks A n) i), nI i)) A.2.1 (nf_lt (by omega)) (fun i hi k => ?_) (fun k => ?_)
    · have a1 := (GA.2 i (by omega)).2.2.2.1
      have a2 := (GB.2 i (by omega)).2.2.2.1
      rw [g110_8, F4.1.1, ifa, if_neg (nI_ge hi (by omega)), g110_27 R4, a128 (by omega), P4 i hi, c110, e_bnd (X7_beliefAt R4 T4 (Nat.le_refl _) (by omega) hi hn), nI_1, nI_1, ifa, uk_s]
      by_cases c : (wks (upA A 1 p v) n).1 3 i = (wks A n).1 3 i
      · rw [if_neg (fun q => q (by rw [c])), if_pos c]
        simp only [n0, nI_add]
      · rw [if_pos (fun q => c ((nI_eq (by omega) (by omega)).mp q).symm), if_neg c]
    · rw [g110_8, F4.1.1, ifa, if_pos (nI_le (Nat.le_refl _) (by omega))]
      rfl
