/-! CHEAT AND BARBER -/
def na (A : AV) (p : Nat) : Int32 := if A.1 4 p = 0 then -3 else 0
theorem na_no {A : AV} {p : Nat} : na A p = 0 ∨ IsNo (na A p) := by
  unfold na
  split
  · exact Or.inr (Or.inr (Or.inr (Or.inl rfl)))
  · exact Or.inl rfl
theorem fs4 (a b c d : Int32) : fs (fs a (fs b c)) d = fs (fs a b) (fs c d) := by
  unfold fs
  by_cases h1 : a = 0 <;> by_cases h2 : b = 0 <;> simp [h1, h2]
theorem na_gt {h : HP} {A : AV} {p : Nat} (G : GoodA A) (hp : p < 7) : (nI (A.1 4 p) = 0) = (A.1 4 p = 0) := by
  have := pow_le7 G.1.1
  have := (G.2 p hp).2.2.2.2
  exact eq_nI (by omega) (by decide)
theorem X6_asksNobody {h : HP} {A : AV} {p : Nat} (R : RefOk h.2) (F : FolkIs h 2 A) (G : GoodA A) (hp : p < 7) : f_X6_asksNobody 0 (nI p) h = some (na A p, h) := by
  have B := FB.of R (b := 2) (by decide)
  unfold f_X6_asksNobody na
  rw [x_gr0 R, bR7 B, bA5 B hp, F.2.2.2.2.2 p hp, ifa]
  by_cases c : A.1 4 p = 0
  · rw [if_neg (fun q => q (Eq.mpr (na_gt (h := h) G hp) c)), if_pos c]
    rfl
  · rw [if_pos (fun q => c (Eq.mp (na_gt (h := h) G hp) q)), if_neg c]
    rfl
/-- the class's guard that ends with: asks he nobody? -/
theorem gu_xn {β : Type} {h : HP} {A : AV} {Q : β → HP → Prop} {K : Int32 → M β} {x c : Int32} (R : RefOk h.2) (F : FolkIs h 2 A) (G : GoodA A) (hc : c = 0 → ∃ p, p < 7 ∧ x = nI p) (H : wp (K (fs c (na A (ix x)))) h Q) : wp (jn (fun k12 => if ¬ c = (0 : Int32) then k12 c else bnd (cv 5 0 (f_X6_asksNobody 0 x)) fun t25 => k12 t25) K) h Q := by
  unfold jn
  dsimp only
  unfold fs at H
  by_cases z : c = 0
  · obtain ⟨p, hp, rfl⟩ := hc z
    rw [if_pos z, ix_nI (by omega)] at H
    rw [if_neg (fun q => q z)]
    exact wp_call (show cv 5 0 (f_X6_asksNobody 0 (nI p)) h = _ from X6_asksNobody R F G hp) H
  · rw [if_neg z] at H
    rw [if_pos z]
    exact H
theorem mn_up2 {A : AV} {p v set u : Nat} : mn (upA A 2 p v) set u = mn A set u := by
  have e : ∀ q, wd (upA A 2 p v) q u = wd A q u := fun q => by
    unfold wd
    rw [upA_r (by decide), upA_r (by decide), upA_r (by decide)]
  have e2 : ∀ q, sm (upA A 2 p v) set u q = sm A set u q := fun q => by
    induction q with
    | zero => rfl
    | succ q ih =>
      unfold sm
      rw [ih, e]
  unfold mn
  rw [e2]
  rfl
theorem hp_back {h : HP} {a p : Nat} {v : Int32} : (setR (setR h.1 a (upd (h.1 a) p v)) a (upd (setR h.1 a (upd (h.1 a) p v) a) p (h.1 a p)), h.2) = h := by
  refine hp_ext (fun q => ?_) rfl
  dsimp only
  by_cases c : q = a
  · subst c
    rw [set_eq, set_eq, upd_upd]
    funext k
    by_cases d : k = p
    · subst d
      rw [upd_eq]
    · rw [upd_ne _ _ d]
  · rw [set_ne _ _ c, set_ne _ _ c]
theorem X7_believesWith {h : HP} {A : AV} {p v : Nat} (R : RefOk h.2) (F : ModIs h A) (G : GoodA A) (hp : p < 7) (hv : v ≤ 99) (h0 : ¬ A.1 4 p = 0) : f_X7_believesWith 110 (nI p) (nI v) h = some (nI (mn A (A.1 4 p) v), h) := by
  have F1 := F.set (r := 2) (p := p) (v := v) (by decide)
  have G1 : GoodA (upA A 2 p v) := G.up ⟨fun q => by omega, fun q => by omega, fun _ => hv, fun q => by omega, fun q => by omega⟩
  have e4 : (upA A 2 p v).1 4 p = A.1 4 p := upA_r (by decide)
  unfold f_X7_believesWith
  rw [g110_3 R, a114 hp, g110_3 R, s114 hp, g110_5 (by exact R), a116 hp]
  have e5 := F1.2.2.2.2.2 p hp
  rw [show 112 + 2 = 114 from rfl] at F1 e5
  rw [e5, c110, e4, e_bnd (X7_mean (by exact R) F1 G1 hp (show A.1 4 p < 2 ^ (upA A 2 p v).2.1 from (G.2 p hp).2.2.2.2)), g110_3 (by exact R), s114 hp]
  unfold bw
  rw [if_neg h0, mn_up2, upA_at]
  show some (_, _) = some (_, _)
  rw [hp_back]
def ceG (A : AV) (p : Nat) (d : Int32) (i : Nat) (s : Int32 × Int32) : Int32 × Int32 := if nI (mn A (A.1 4 p) (99 - i)) = d then (s.1 + 1, nI (99 - i)) else s
def ceS (A : AV) (p : Nat) (d w : Int32) : Int32 := if w = 0 then (fold (ceG A p d) 100 (0, -9)).1 else (fold (ceG A p d) 100 (0, -9)).2
def dn (i : Nat) : Int32 := if i = 100 then -1 else nI (99 - i)
theorem dn_s : ∀ i, i < 100 → dn i + -1 = dn (i + 1) := by decide
theorem dn_at {i : Nat} (h : i < 100) : dn i = nI (99 - i) := if_neg (by omega)
theorem QX_cheat {h : HP} {A : AV} {x d w : Int32} (R : RefOk h.2) (F : FolkIs h 2 A) (G : GoodA A) : wp (f_X6_cheat 0 x d w) h (OutX h (fs (fs (np A.2.1 x) (fs (ob d 0 99) (nc 2 w))) (na A (ix x))) (ceS A (ix x) d w)) := by
  have hn := G.1.1
  unfold f_X6_cheat
  refine wp_call (noP R F.1.1) (wp_call X6_outside (wp_call (X6_noChoice (m := 2)) (wp_call X6_first (wp_call X6_first (gu_xn R F G (fun e => ?_) (gX R (fs_no (fs_no np_no (fs_no ob_no nc_no)) na_no) fun e => ?_))))))
  · obtain ⟨p, hp, rfl⟩ := np_ix (fs_z e).1 (by omega)
    exact ⟨p, by omega, rfl⟩
  · obtain ⟨p, hp, rfl⟩ := np_ix (fs_z (fs_z e).1).1 (by omega)
    have e3 := (fs_z e).2
    rw [ix_nI (by omega)] at e3 ⊢
    have p7 : p < 7 := by omega
    have h0 : ¬ A.1 4 p = 0 := fun q => by
      unfold na at e3
      rw [if_pos q] at e3
      exact absurd e3 (by decide)
    have l4 := (G.2 p p7).2.2.2.2
    have h7 := pow_le7 hn
    have B := FB.of R (b := 2) (by decide)
    refine ⟨_, h, ?_, rfl, Same.rfl'⟩
    refine lp_pure (s := fun i => ((fold (ceG A p d) i (0, -9)).1, (fold (ceG A p d) i (0, -9)).2, dn i)) 100 (nf_lt (by omega)) (fun i hi k => ?_) (fun k => ?_)
    · have es : fold (ceG A p d) (i + 1) (0, -9) = ceG A p d i (fold (ceG A p d) i (0, -9)) := rfl
      rw [es]
      generalize fold (ceG A p d) i (0, -9) = b
      dsimp only
      rw [← dn_s i hi, dn_at hi, ifa, if_neg (nI_pos (by omega)), x_gr0 R, x_gr0 R, bR7 B, bA5 B p7, F.2.2.2.2.2 p p7, bC B, e_bnd (X0_mean B F G (by omega) (by omega)), if_neg (pop_pos l4 h0), ifa]
      unfold ceG
      by_cases c : nI (mn A (A.1 4 p) (99 - i)) = d
      · rw [if_neg (fun q => q c), if_pos c]
      · rw [if_pos c, if_neg c]
    · dsimp only
      rw [ifa, if_pos (show dn 100 < 0 by decide), ifa]
      unfold ceS
      by_cases c : w = 0
      · rw [if_neg (fun q => q c), if_pos c]
        rfl
      · rw [if_pos c, if_neg c]
        rfl
theorem na_y {β : Type} {h : HP} {A : AV} {p : Nat} {Q : β → HP → Prop} {K : Int32 → M β} (F : ModIs h A) (G : GoodA A) (hp : p < 7) (R : RefOk h.2) (H : wp (K (na A p)) h Q) : wp (bnd (gR 6 5 110) fun r18 => bnd (aI r18 (nI p)) fun t19 => if ¬ t19 = (0 : Int32) then K 0 else K (-3 : Int32)) h Q := by
  refine wp_eq (g110_5 R) (wp_eq (a116 hp) ?_)
  rw [F.2.2.2.2.2 p hp]
  unfold na at H
  by_cases c : A.1 4 p = 0
  · rw [if_neg (fun q => q (Eq.mpr (na_gt (h := h) G hp) c))]
    rw [if_pos c] at H
    exact H
  · rw [if_pos (fun q => c (Eq.mp (na_gt (h := h) G hp) q))]
    rw [if_neg c] at H
    exact H
theorem QY_cheat {h : HP} {A : AV} {x d w : Int32} (R : RefOk h.2) (F : ModIs h A) (G : GoodA A) : wp (f_X7_cheat 110 x d w) h (OutY h (fs (fs (np A.2.1 x) (fs (ob d 0 99) (nc 2 w))) (na A (ix x))) (ceS A (ix x) d w)) := by
  have hn := G.1.1
  unfold f_X7_cheat
  refine gu_pb F.1.1 ?_
  have H2 : ∀ K : Int32 → M Int32, wp (K (fs (fs (np A.2.1 x) (fs (ob d 0 99) (nc 2 w))) (na A (ix x)))) h (OutY h (fs (fs (np A.2.1 x) (fs (ob d 0 99) (nc 2 w))) (na A (ix x))) (ceS A (ix x) d w)) → wp (jn (fun k6 => if ¬ (fs (np A.2.1 x) (ob d 0 99)) = (0 : Int32) then k6 (fs (np A.2.1 x) (ob d 0 99)) else bnd (f_X7_isIn w (0 : Int32) (nI 1)) fun t13 => if ¬ t13 = (0 : Int32) then bnd (gR 6 5 110) fun r15 => bnd (aI r15 x) fun t16 => if ¬ t16 = (0 : Int32) then k6 (0 : Int32) else k6 (-3 : Int32) else k6 (-2 : Int32)) K) h (OutY h (fs (fs (np A.2.1 x) (fs (ob d 0 99) (nc 2 w))) (na A (ix x))) (ceS A (ix x) d w)) := fun K H => by
    unfold jn
    dsimp only
    rw [fs4] at H
    by_cases c : fs (np A.2.1 x) (ob d 0 99) = 0
    · rw [if_neg (fun q => q c)]
      obtain ⟨p, hp, rfl⟩ := np_ix (fs_z c).1 (by omega)
      rw [c, show ∀ y, fs 0 y = y from fun y => rfl, ix_nI (by omega)] at H
      rw [show fs (fs (np A.2.1 (nI p)) (fs (ob d 0 99) (nc 2 w))) (na A (ix (nI p))) = fs (nc 2 w) (na A p) by rw [fs4, c, ix_nI (by omega)]; rfl]
      rw [ix_nI (by omega)]
      refine wp_call (X7_isIn (m := 1) (by decide)) ?_
      rw [tb_ifn]
      unfold fs nc at H ⊢
      cases z : pn 2 w
      · simp only [z, Bool.false_eq_true, if_false] at H ⊢
        exact H
      · simp only [z, if_true] at H ⊢
        exact na_y F G (by omega) R H
    · rw [if_pos c]
      rw [show fs (fs (np A.2.1 x) (ob d 0 99)) (fs (nc 2 w) (na A (ix x))) = fs (np A.2.1 x) (ob d 0 99) from if_neg c] at H
      rw [fs4, show fs (fs (np A.2.1 x) (ob d 0 99)) (fs (nc 2 w) (na A (ix x))) = fs (np A.2.1 x) (ob d 0 99) from if_neg c]
      exact H
  refine H2 _ (gY R (fs_no (fs_no np_no (fs_no ob_no nc_no)) na_no) fun e => ?_)
  obtain ⟨p, hp, rfl⟩ := np_ix (fs_z (fs_z e).1).1 (by omega)
  have e3 := (fs_z e).2
  rw [ix_nI (by omega)] at e3 ⊢
  have p7 : p < 7 := by omega
  have h0 : ¬ A.1 4 p = 0 := fun q => by
    unfold na at e3
    rw [if_pos q] at e3
    exact absurd e3 (by decide)
  refine ⟨_, h, ?_, rfl, LvY.rf⟩
  refine lp_pure (s := fun i => ((fold (ceG A p d) i (0, -9)).1, (fold (ceG A p d) i (0, -9)).2, dn i)) 100 (nf_lt (by omega)) (fun i hi k => ?_) (fun k => ?_)
  · have es : fold (ceG A p d) (i + 1) (0, -9) = ceG A p d i (fold (ceG A p d) i (0, -9)) := rfl
    rw [es]
    generalize fold (ceG A p d) i (0, -9) = b
    dsimp only
    rw [← dn_s i hi, dn_at hi, ifa, if_neg (nI_pos (by omega)), c110, e_bnd (X7_believesWith R F G p7 (by omega) h0), ifa]
    unfold ceG
    by_cases c : nI (mn A (A.1 4 p) (99 - i)) = d
    · rw [if_pos c, if_pos c]
    · rw [if_neg c, if_neg c]
  · dsimp only
    rw [ifa, if_pos (show dn 100 < 0 by decide), ifa]
    unfold ceS
    by_cases c : w = 0
    · rw [if_neg (fun q => q c), if_pos c]
      rfl
    · rw [if_pos c, if_neg c]
      rfl
def baB (A : AV) (p : Nat) (d : Int32) (i : Nat) : Option Nat := fold (bsG (fun v => decide (¬ nI (mn A (A.1 4 p) v) < d)) (fun v => ds v (A.1 2 p)) 1) i none
def baS (A : AV) (p : Nat) (d : Int32) : Int32 := bo (baB A p d 100)
theorem ba99 {A : AV} {p : Nat} {d : Int32} {i : Nat} (G : GoodA A) (hp : p < 7) (hi : i ≤ 100) : lo99 (baB A p d i) := bs99 fun j hj _ => by
  have := (G.2 p hp).2.2.1
  unfold ds
  omega
theorem min_step {h : HP} {v i : Nat} {b : Option Nat} {z : Option (Int32 × HP)} {k : Int32 × Int32 → M Int32} (hb : lo99 b) (hv : v ≤ 99) (H : k (bo (mg 1 v b), nI (i + 1)) h = z) : (b = none → k (nI v, nI (i + 1)) h = z) ∧ ∀ m, b = some m → (if nI m ≤ nI v then k (nI m, nI (i + 1)) h else k (nI v, nI (i + 1)) h) = z := by
  have := mg_step (w := 1) hb hv H
  refine ⟨this.1, fun m e => ?_⟩
  have := this.2 m e
  rw [if_pos (show ¬ (1 : Int32) = 0 by decide)] at this
  exact this
theorem QX_barber {h : HP} {A : AV} {x d : Int32} (R : RefOk h.2) (F : FolkIs h 2 A) (G : GoodA A) : wp (f_X6_barber 0 x d) h (OutX h (fs (fs (np A.2.1 x) (ob d 0 99)) (na A (ix x))) (baS A (ix x) d)) := by
  have hn := G.1.1
  unfold f_X6_barber
  refine wp_call (noP R F.1.1) (wp_call X6_outside (wp_call X6_first (gu_xn R F G (fun e => ?_) (gX R (fs_no (fs_no np_no ob_no) na_no) fun e => ?_))))
  · obtain ⟨p, hp, rfl⟩ := np_ix (fs_z e).1 (by omega)
    exact ⟨p, by omega, rfl⟩
  · obtain ⟨p, hp, rfl⟩ := np_ix (fs_z (fs_z e).1).1 (by omega)
    have e3 := (fs_z e).2
    rw [ix_nI (by omega)] at e3 ⊢
    have p7 : p < 7 := by omega
    have h0 : ¬ A.1 4 p = 0 := fun q => by
      unfold na at e3
      rw [if_pos q] at e3
      exact absurd e3 (by decide)
    have l4 := (G.2 p p7).2.2.2.2
    have l2 := (G.2 p p7).2.2.1
    have h7 := pow_le7 hn
    have B := FB.of R (b := 2) (by decide)
    refine ⟨_, h, ?_, rfl, Same.rfl'⟩
    refine lp_pure (s := fun i => (bo (baB A p d i), nI i)) 100 (nf_lt (by omega)) (fun i hi k => ?_) (fun k => ?_)
    · have es : baB A p d (i + 1) = bsG (fun v => decide (¬ nI (mn A (A.1 4 p) v) < d)) (fun v => ds v (A.1 2 p)) 1 i (baB A p d i) := rfl
      have l9 := ba99 (d := d) (i := i) G p7 (by omega)
      rw [es]
      generalize baB A p d i = b at l9 ⊢
      dsimp only
      rw [ifa, if_neg (show ¬ (100 : Int32) ≤ nI i from nI_ge (b := 100) hi (by omega)), x_gr0 R, bR5 B, bA3 B p7, F.2.2.2.1 p p7, x_gr0 R, x_gr0 R, bR7 B, bA5 B p7, F.2.2.2.2.2 p p7, bC B, e_bnd (X0_mean B F G (by omega) (by omega)), if_neg (pop_pos l4 h0), nI_1, mabs_sub (by omega) (by omega)]
      unfold bsG jn
      dsimp only
      rw [ifa]
      by_cases c : nI (mn A (A.1 4 p) i) < d
      · rw [if_pos c, ifa, if_pos rfl, if_neg (by simp [c])]
      · rw [if_neg c, ifa, if_neg (show ¬ (1 : Int32) = 0 by decide), if_pos (decide_eq_true c), ifa]
        have st := min_step (h := h) (i := i) (k := k) l9 (show ds i (A.1 2 p) ≤ 99 by unfold ds; omega) rfl
        cases b with
        | none => rw [if_pos (show bo none = -9 from rfl)]; exact st.1 rfl
        | some m =>
          rw [show bo (some m) = nI m from rfl, if_neg (m9_eq (by have := l9 m rfl; omega))]
          simp only [ifa]
          exact st.2 m rfl
    · dsimp only
      rw [ifa, if_pos (show (100 : Int32) ≤ nI 100 by decide)]
      rfl
theorem QY_barber {h : HP} {A : AV} {x d : Int32} (R : RefOk h.2) (F : ModIs h A) (G : GoodA A) : wp (f_X7_barber 110 x d) h (OutY h (fs (fs (np A.2.1 x) (ob d 0 99)) (na A (ix x))) (baS A (ix x) d)) := by
  have hn := G.1.1
  unfold f_X7_barber
  refine gu_pb F.1.1 ?_
  have H2 : ∀ K : Int32 → M Int32, wp (K (fs (fs (np A.2.1 x) (ob d 0 99)) (na A (ix x)))) h (OutY h (fs (fs (np A.2.1 x) (ob d 0 99)) (na A (ix x))) (baS A (ix x) d)) → wp (jn (fun k6 => if ¬ (fs (np A.2.1 x) (ob d 0 99)) = (0 : Int32) then k6 (fs (np A.2.1 x) (ob d 0 99)) else bnd (gR 6 5 110) fun r15 => bnd (aI r15 x) fun t16 => if ¬ t16 = (0 : Int32) then k6 (fs (np A.2.1 x) (ob d 0 99)) else k6 (-3 : Int32)) K) h (OutY h (fs (fs (np A.2.1 x) (ob d 0 99)) (na A (ix x))) (baS A (ix x) d)) := fun K H => by
    unfold jn
    dsimp only
    by_cases c : fs (np A.2.1 x) (ob d 0 99) = 0
    · rw [if_neg (fun q => q c)]
      obtain ⟨p, hp, rfl⟩ := np_ix (fs_z c).1 (by omega)
      rw [c, show ∀ y, fs 0 y = y from fun y => rfl, ix_nI (by omega)] at H ⊢
      exact na_y F G (by omega) R H
    · rw [if_pos c]
      rw [show fs (fs (np A.2.1 x) (ob d 0 99)) (na A (ix x)) = fs (np A.2.1 x) (ob d 0 99) from if_neg c] at H ⊢
      exact H
  refine H2 _ (gY R (fs_no (fs_no np_no ob_no) na_no) fun e => ?_)
  obtain ⟨p, hp, rfl⟩ := np_ix (fs_z (fs_z e).1).1 (by omega)
  have e3 := (fs_z e).2
  rw [ix_nI (by omega)] at e3 ⊢
  have p7 : p < 7 := by omega
  have h0 : ¬ A.1 4 p = 0 := fun q => by
    unfold na at e3
    rw [if_pos q] at e3
    exact absurd e3 (by decide)
  have l2 := (G.2 p p7).2.2.1
  refine ⟨_, h, ?_, rfl, LvY.rf⟩
  refine lp_pure (s := fun i => (bo (baB A p d i), nI i)) 100 (nf_lt (by omega)) (fun i hi k => ?_) (fun k => ?_)
  · have es : baB A p d (i + 1) = bsG (fun v => decide (¬ nI (mn A (A.1 4 p) v) < d)) (fun v => ds v (A.1 2 p)) 1 i (baB A p d i) := rfl
    have l9 := ba99 (d := d) (i := i) G p7 (by omega)
    rw [es]
    generalize baB A p d i = b at l9 ⊢
    dsimp only
    rw [ifa, if_neg (show ¬ (99 : Int32) < nI i from fun q => absurd ((nI_ltI (a := 99) (by omega) (by omega)).mp q) (by omega)), g110_3 R, a114 p7, F.2.2.2.1 p p7, e_bnd (X7_far (by omega) (by omega)), c110, e_bnd (X7_believesWith R F G p7 (by omega) h0), nI_1]
    unfold bsG
    rw [ifa]
    by_cases c : nI (mn A (A.1 4 p) i) < d
    · rw [if_pos c, if_neg (by simp [c])]
    · rw [if_neg c, if_pos (decide_eq_true c), ifa]
      have st := min_step (h := h) (i := i) (k := k) l9 (show ds i (A.1 2 p) ≤ 99 by unfold ds; omega) rfl
      cases b with
      | none => rw [if_pos (show bo none < 0 by decide)]; exact st.1 rfl
      | some m =>
        rw [show bo (some m) = nI m from rfl, if_neg (nI_pos (by have := l9 m rfl; omega))]
        simp only [ifa]
        exact st.2 m rfl
  · dsimp only
    rw [ifa, if_pos (show (99 : Int32) < nI 100 by decide)]
    rfl
