/-! LOTS -/
/-- the first i ask whom f says -/
def eaA (A : AV) (f : Nat → Nat) (i : Nat) : AV := (fun r k => if r = 4 ∧ k < i then f k else A.1 r k, A.2)
theorem eaA_0 (A : AV) (f : Nat → Nat) : eaA A f 0 = A := by
  unfold eaA
  have : (fun r k => if r = 4 ∧ k < 0 then f k else A.1 r k) = A.1 := by
    funext r k
    rw [if_neg (by omega)]
  rw [this]
theorem eaA_s (A : AV) (f : Nat → Nat) (i : Nat) : eaA A f (i + 1) = upA (eaA A f i) 4 i (f i) := by
  unfold eaA upA
  have : (fun r k => if r = 4 ∧ k < i + 1 then f k else A.1 r k) = fun r' k => if r' = 4 ∧ k = i then f i else if r' = 4 ∧ k < i then f k else A.1 r' k := by
    funext r k
    by_cases c : r = 4
    · by_cases d : k = i
      · rw [if_pos ⟨c, by omega⟩, if_pos ⟨c, d⟩, d]
      · by_cases e : k < i
        · rw [if_pos ⟨c, by omega⟩, if_neg (fun q => d q.2), if_pos ⟨c, e⟩]
        · rw [if_neg (by omega), if_neg (fun q => d q.2), if_neg (by omega)]
    · rw [if_neg (fun q => c q.1), if_neg (fun q => c q.1), if_neg (fun q => c q.1)]
  rw [this]
theorem eaA_w (A : AV) (f : Nat → Nat) (i : Nat) : (eaA A f i).2.2 = A.2.2 := rfl
theorem eaA_again (A : AV) (f g : Nat → Nat) (i : Nat) : eaA (eaA A f i) g i = eaA A g i := by
  unfold eaA
  have : (fun r k => if r = 4 ∧ k < i then g k else if r = 4 ∧ k < i then f k else A.1 r k) = fun r k => if r = 4 ∧ k < i then g k else A.1 r k := by
    funext r k
    by_cases c : r = 4 ∧ k < i
    · rw [if_pos c, if_pos c]
    · rw [if_neg c, if_neg c, if_neg c]
  rw [this]
theorem eaA_own (A : AV) (i : Nat) : eaA A (A.1 4) i = A := by
  unfold eaA
  have : (fun r k => if r = 4 ∧ k < i then A.1 4 k else A.1 r k) = A.1 := by
    funext r k
    by_cases c : r = 4 ∧ k < i
    · rw [if_pos c, c.1]
    · rw [if_neg c]
  rw [this]
theorem eaA_g {A : AV} {f : Nat → Nat} {i : Nat} (G : GoodA A) (hf : ∀ k, k < 7 → f k < 2 ^ A.2.1) : GoodA (eaA A f i) := by
  refine ⟨G.1, fun k hk => ?_⟩
  obtain ⟨g0, g1, g2, g3, g4⟩ := G.2 k hk
  unfold eaA
  dsimp only
  refine ⟨by rw [if_neg (by omega)]; exact g0, by rw [if_neg (by omega)]; exact g1, by rw [if_neg (by omega)]; exact g2, by rw [if_neg (by omega)]; exact g3, ?_⟩
  split
  · exact hf k hk
  · exact g4
/-- all others -/
def ot (n p : Nat) : Nat := wo (2 ^ n - 1) (2 ^ p)
theorem all_lt (n : Nat) : 2 ^ n - 1 < 2 ^ n := by
  have := Nat.two_pow_pos n
  omega
theorem ot_lt (n p : Nat) : ot n p < 2 ^ n := wo_lt (all_lt n)
theorem pow_le7 {n : Nat} (h : n ≤ 7) : 2 ^ n ≤ 128 := by
  have : 2 ^ n ≤ 2 ^ 7 := Nat.pow_le_pow_right (by decide) h
  exact this
theorem X0_everybody {h : HP} {b n : Nat} (H : FB h.2 b) (e : h.1 b 0 = nI n) (hn : n ≤ 7) : f_X0_everybody b h = some (nI (2 ^ n - 1), h) := by
  have := pow_le7 hn
  have := Nat.two_pow_pos n
  unfold f_X0_everybody
  rw [bI H, e, nI_shl1 (by omega), n1, pk_sub (by omega)]
  rfl
theorem X0_others {h : HP} {b n p : Nat} (H : FB h.2 b) (e : h.1 b 0 = nI n) (hn : n ≤ 7) (hp : p < 31) : f_X0_others b (nI p) h = some (nI (ot n p), h) := by
  have := pow_le7 hn
  unfold f_X0_others
  rw [bC H, e_bnd (X0_everybody H e hn), nI_shl1 hp, nI_wo (by omega) (pow_lt31 hp)]
  rfl
theorem X7_all {h : HP} {n : Nat} (e : h.1 110 8 = nI n) (hn : n ≤ 7) : f_X7_all 110 h = some (nI (2 ^ n - 1), h) := by
  have := pow_le7 hn
  have := Nat.two_pow_pos n
  unfold f_X7_all
  rw [g110_8, e, nI_shl1 (by omega), n1, pk_sub (by omega)]
  rfl
theorem X7_others {h : HP} {n p : Nat} (e : h.1 110 8 = nI n) (hn : n ≤ 7) (hp : p < 31) : f_X7_others 110 (nI p) h = some (nI (ot n p), h) := by
  have := pow_le7 hn
  unfold f_X7_others
  rw [c110, e_bnd (X7_all e hn), nI_shl1 hp, nI_wo (by omega) (pow_lt31 hp)]
  rfl
def nx (z : Int32) : Int32 := z * 1103515245 + 12345
def zi (z : Int32) : Nat → Int32
  | 0 => z
  | i + 1 => nx (zi z i)
def dw (z : Int32) : Nat := ix (z &&& 2147483647) / 65536 % 128
theorem dw_div {β : Type} {h : HP} {z : Int32} {f : Int32 → M β} : bnd (divM (z &&& (2147483647 : Int32)) (65536 : Int32)) (fun t5 => bnd (remM t5 (128 : Int32)) f) h = f (nI (dw z)) h := by
  obtain ⟨j, hj, e⟩ := pk_andE z (m := 2147483647) 31 (by decide)
  unfold dw
  rw [e, ix_nI hj, show (65536 : Int32) = nI 65536 from rfl, show (128 : Int32) = nI 128 from rfl, b_div hj (by decide) (by decide), b_rem (by omega) (by decide) (by decide)]
def dr (n : Nat) (z : Int32) (k : Nat) : Nat := dw (zi z (k + 1)) &&& ot n k
theorem dr_lt (n : Nat) (z : Int32) (k : Nat) : dr n z k < 2 ^ n := Nat.and_lt_two_pow _ (ot_lt n k)
theorem dw_lt (z : Int32) : dw z < 128 := Nat.mod_lt _ (by decide)
theorem X0_askByLot {h : HP} {b : Nat} {z : Int32} {A : AV} (H : FB h.2 b) (F : FolkIs h b A) (G : GoodA A) : wp (f_X0_askByLot b z) h fun v h' => v = zi z A.2.1 ∧ FolkIs h' b (eaA A (dr A.2.1 z) A.2.1) ∧ Same (inF b) h h' := by
  have hn := G.1.1
  unfold f_X0_askByLot
  refine wp_loop (fun i s h' => s = (zi z i, nI i) ∧ FolkIs h' b (eaA A (dr A.2.1 z) i) ∧ Same (inF b) h h') A.2.1 (nf_lt (by omega)) (fun i hi s h' q k K => ?_) (fun s h' k q => ?_) ⟨rfl, by rw [eaA_0]; exact F, Same.rfl'⟩
  · obtain ⟨rfl, F', S'⟩ := q
    have B' : FB h'.2 b := by rw [S'.1]; exact H
    have i7 : i < 7 := by omega
    refine wp_eq (bI B') ?_
    rw [F'.1.1, if_neg (show ¬ nI (eaA A (dr A.2.1 z) i).2.1 ≤ nI i from nI_ge (b := A.2.1) hi (by omega))]
    refine wp_eq dw_div (wp_eq (bR7 B') (wp_eq (bC B') ?_))
    refine wp_call (X0_others B' (n := A.2.1) F'.1.1 hn (by omega)) ?_
    have l1 := dw_lt (zi z i * 1103515245 + 12345)
    have l2 := ot_lt A.2.1 i
    have := pow_le7 hn
    dsimp only
    rw [nI_and (by omega) (by omega)]
    refine wp_eq (bS5 B' i7) ?_
    have F3 := F'.set (r := 4) (p := i) (v := dr A.2.1 z i) (by omega)
    rw [← eaA_s] at F3
    refine K _ _ ⟨by rw [nI_1]; rfl, F3, S'.1, fun a ha => ?_⟩
    dsimp only
    rw [set_ne _ _ (by unfold inF at ha; omega)]
    exact S'.2 a ha
  · obtain ⟨rfl, F', S'⟩ := q
    have B' : FB h'.2 b := by rw [S'.1]; exact H
    refine wp_eq (bI B') ?_
    rw [F'.1.1, if_pos (show nI (eaA A (dr A.2.1 z) A.2.1).2.1 ≤ nI A.2.1 from nI_le (Nat.le_refl _) (by omega))]
    exact wp_rt ⟨rfl, F', S'⟩
def loB (A : AV) (z : Int32) : AV := wks (eaA A (dr A.2.1 z) A.2.1) 10
def loG (A : AV) (s : Int32 × Int32 × Int32) : Int32 × Int32 × Int32 := (zi s.1 A.2.1, s.2.1 + erS (loB A s.1), s.2.2 + if foS (loB A s.1) 5 = 0 then 1 else 0)
def loS (A : AV) (n : Nat) (z w : Int32) : Int32 := if w = 0 then (fold (fun _ => loG A) n (z, 0, 0)).2.1 else (fold (fun _ => loG A) n (z, 0, 0)).2.2
theorem QX_lots {h : HP} {A : AV} {x z w : Int32} (R : RefOk h.2) (F : FolkIs h 2 A) (G : GoodA A) (W : A.2.2 ≤ 999) : wp (f_X6_lots 0 x z w) h (OutX h (fs (ob x 1 20) (nc 2 w)) (loS A (ix x) z w)) := by
  unfold f_X6_lots
  refine wp_call X6_outside (wp_call (X6_noChoice (m := 2)) (wp_call X6_first (gX R (fs_no ob_no nc_no) fun e => ?_)))
  have hn := G.1.1
  obtain ⟨n, -, hn20, rfl⟩ := ob_ix (lo := 1) (hi := 20) (fs_z e).1 (by decide) (by decide)
  rw [ix_nI (by omega)]
  refine wp_fold (fun _ => loG A) (fun a x => (a.1, a.2.1, a.2.2, x)) (fun h' => Same GX h h') n (a0 := (z, 0, 0)) (by omega) (fun i hi a h' S k K => ?_) (fun h' k S => ?_) Same.rfl'
  · obtain ⟨R', F'⟩ := x_stay S R F
    rw [if_neg (nI_ge hi (by omega))]
    refine wp_eq (x_gr4 R') (wp_eq (x_gr0 R') ?_)
    refine wp_bnd (wp_mono (X0_copyFrom (b := 37) (c := 2) (FB.of R' (by decide)) (FB.of R' (by decide)) F' (by omega)) fun _ h2 q => ?_)
    obtain ⟨F2, S2⟩ := q
    have R2 := RefOk.same S2 R'
    refine wp_eq (x_gr4 R2) ?_
    refine wp_bnd (wp_mono (X0_askByLot (b := 37) (FB.of R2 (by decide)) F2 G) fun v h3 q => ?_)
    obtain ⟨rfl, F3, S3⟩ := q
    have R3 := RefOk.same S3 R2
    refine wp_eq (x_gr4 R3) (wp_eq (bC (FB.of R3 (by decide))) ?_)
    rw [show (10 : Int32) = nI 10 from rfl]
    have G3 : GoodA (eaA A (dr A.2.1 a.1) A.2.1) := eaA_g G fun k _ => dr_lt _ _ _
    refine wp_bnd (wp_mono (X0_passWeeks (b := 37) (n := 10) (FB.of R3 (by decide)) F3 G3 (by omega) (by rw [eaA_w]; omega)) fun _ h4 q => ?_)
    obtain ⟨F4, S4⟩ := q
    have R4 := RefOk.same S4 R3
    have G4 : GoodA (loB A a.1) := wks_good G3 10 (by rw [eaA_w]; omega)
    refine wp_eq (x_gr4 R4) (wp_call (show cv 0 37 (f_X0_allErrors 37) h4 = _ from X0_allErrors (FB.of R4 (by decide)) F4 G4) ?_)
    refine wp_eq (x_gr4 R4) (wp_call (show cv 0 37 (f_X0_fooledBy 37 5) h4 = _ from X0_fooledBy (FB.of R4 (by decide)) F4 G4) ?_)
    have K' := K h4 ((S.trans (GX37 S2) (fun _ q => q) (fun _ q => q)).trans ((GX37 S3).trans (GX37 S4) (fun _ q => q) (fun _ q => q)) (fun _ q => q) (fun _ q => q))
    unfold loG loB at K'
    rw [nI_1]
    dsimp only at K' ⊢
    by_cases c : foS (wks (eaA A (dr A.2.1 a.1) A.2.1) 10) 5 = 0
    · rw [if_pos c] at K'
      rw [if_neg (fun q => q c)]
      exact K'
    · rw [if_neg c] at K'
      rw [if_pos c]
      exact K'
  · rw [if_pos (nI_le (Nat.le_refl _) (by omega))]
    unfold loS
    by_cases c : w = 0
    · rw [if_neg (fun q => q c), if_pos c]
      exact wp_rt ⟨rfl, S⟩
    · rw [if_pos c, if_neg c]
      exact wp_rt ⟨rfl, S⟩
theorem QY_lots {h : HP} {A : AV} {x z w : Int32} (R : RefOk h.2) (F : ModIs h A) (G : GoodA A) (W : A.2.2 ≤ 999) : wp (f_X7_lots 110 x z w) h (OutY h (fs (ob x 1 20) (nc 2 w)) (loS A (ix x) z w)) := by
  unfold f_X7_lots
  refine gu_bi (gY R (fs_no ob_no nc_no) fun e => ?_)
  have hn := G.1.1
  obtain ⟨n, -, hn20, rfl⟩ := ob_ix (lo := 1) (hi := 20) (fs_z e).1 (by decide) (by decide)
  rw [ix_nI (by omega)]
  refine wp_bnd (wp_mono (y_save R) fun _ h2 q => ?_)
  obtain ⟨E2, M2⟩ := q
  have F2 := M2 A F
  refine wp_fold (fun _ => loG A) (fun a x => (a.1, a.2.1, a.2.2, x)) (fun h' => (∃ f, ModIs h' (eaA A f A.2.1) ∧ ∀ k, k < 7 → f k < 2 ^ A.2.1) ∧ LvE h h') n (a0 := (z, 0, 0)) (by omega) (fun i hi a h' q k K => ?_) (fun h' k q => ?_) ⟨⟨A.1 4, by rw [eaA_own]; exact F2, fun k hk => (G.2 k hk).2.2.2.2⟩, E2⟩
  · obtain ⟨⟨f, F', hf⟩, E'⟩ := q
    rw [if_neg (nI_ge hi (by omega))]
    refine wp_loop (fun j s h3 => s = (zi a.1 j, nI j) ∧ ModIs h3 (eaA (eaA A f A.2.1) (dr A.2.1 a.1) j) ∧ LvE h h3) A.2.1 (nf_lt (by omega)) (fun j hj s h3 q k2 K2 => ?_) (fun s h3 k2 q => ?_) ⟨rfl, by rw [eaA_0]; exact F', E'⟩
    · obtain ⟨rfl, F3, E3⟩ := q
      have R3 : RefOk h3.2 := by rw [E3.1]; exact R
      have j7 : j < 7 := by omega
      refine wp_eq g110_8 ?_
      rw [F3.1.1, if_neg (show ¬ nI (eaA (eaA A f A.2.1) (dr A.2.1 a.1) j).2.1 ≤ nI j from nI_ge (b := A.2.1) hj (by omega))]
      refine wp_eq (g110_5 R3) (wp_eq dw_div ?_)
      refine wp_call (show cv 6 110 (f_X7_others 110 (nI j)) h3 = _ from X7_others (n := A.2.1) F3.1.1 hn (by omega)) ?_
      have l1 := dw_lt (zi a.1 j * 1103515245 + 12345)
      have l2 := ot_lt A.2.1 j
      have := pow_le7 hn
      dsimp only
      rw [nI_and (by omega) (by omega)]
      refine wp_eq (s116 j7) ?_
      have F4 := F3.set (r := 4) (p := j) (v := dr A.2.1 a.1 j) (by omega)
      rw [← eaA_s] at F4
      exact K2 _ _ ⟨by rw [nI_1]; rfl, F4, E3.ear⟩
    · obtain ⟨rfl, F3, E3⟩ := q
      have R3 : RefOk h3.2 := by rw [E3.1]; exact R
      rw [eaA_again] at F3
      have G3 : GoodA (eaA A (dr A.2.1 a.1) A.2.1) := eaA_g G fun k _ => dr_lt _ _ _
      refine wp_eq g110_8 ?_
      rw [F3.1.1, if_pos (show nI (eaA A (dr A.2.1 a.1) A.2.1).2.1 ≤ nI A.2.1 from nI_le (Nat.le_refl _) (by omega))]
      rw [show (10 : Int32) = nI 10 from rfl]
      refine wp_bnd (wp_mono (y_errorBF (k := 10) R3 F3 G3 W (by omega)) fun v h4 q => ?_)
      obtain ⟨rfl, S4, T4⟩ := q
      have E4 := E3.lv S4
      have R4 : RefOk h4.2 := by rw [E4.1]; exact R
      have F4 := S4.1.mod F3
      refine wp_call (show cv 6 110 (f_X7_fooledAt 110 (nI 10) 5) h4 = _ from X7_fooledAt (k := 10) R4 F4 G3 T4 (Nat.le_refl _) (by omega) (show A.2.2 ≤ 90000 by omega)) ?_
      have K' := K h4 ⟨⟨dr A.2.1 a.1, F4, fun k _ => dr_lt _ _ _⟩, E4⟩
      unfold loG loB at K'
      rw [nI_1]
      dsimp only at K' ⊢
      by_cases c : foS (wks (eaA A (dr A.2.1 a.1) A.2.1) 10) 5 = 0
      · rw [if_pos c] at K'
        rw [if_neg (fun q => q c)]
        exact K'
      · rw [if_neg c] at K'
        rw [if_pos c]
        exact K'
  · obtain ⟨-, E'⟩ := q
    rw [if_pos (nI_le (Nat.le_refl _) (by omega))]
    refine wp_bnd (wp_mono (y_unsave R E') fun _ h4 L => ?_)
    unfold loS
    by_cases c : w = 0
    · rw [if_neg (fun q => q c), if_pos c]
      exact wp_rt ⟨rfl, L⟩
    · rw [if_pos c, if_neg c]
      exact wp_rt ⟨rfl, L⟩
