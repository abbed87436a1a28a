/-! STEPS, GLANCES -/
theorem gu_pp {h : HP} {x y am : Int32} {B : M Int32} (R : RefOk h.2) (H : pl2 x y = 0 → wp B h fun v h' => v = am ∧ LvY h h') : wp (bnd (f_X7_isPlace x) fun t1 => jn (fun k4 => if t1 = (0 : Int32) then k4 () else bnd (f_X7_isPlace y) fun t7 => if ¬ t7 = (0 : Int32) then B else k4 ()) (fun (_ : Unit) => bnd (cv 6 110 (f_X7_no 110 (-1 : Int32))) fun t5 => rt t5)) h (OutY h (pl2 x y) am) := by
  refine wp_call X7_isPlace ?_
  unfold jn
  dsimp only
  rw [tb_if]
  by_cases c : pl2 x y = 0
  · rw [(pl2_z c).1, if_pos rfl, c]
    refine wp_call X7_isPlace ?_
    rw [tb_ifn, (pl2_z c).2, if_pos rfl]
    exact wp_mono (H c) fun v h' q => oky q.1 q.2
  · rw [(pl2_c c).2]
    rcases (pl2_c c).1 with z | ⟨z, w⟩
    · rw [z, if_neg (by decide)]
      exact yno R (Or.inl rfl)
    · rw [z, if_pos rfl]
      refine wp_call X7_isPlace ?_
      rw [tb_ifn, w, if_neg (by decide)]
      exact yno R (Or.inl rfl)
theorem gu_ppi {β : Type} {h : HP} {x y w : Int32} {Q : β → HP → Prop} {K : Int32 → M β} (H : wp (K (fs (pl2 x y) (nc 2 w))) h Q) : wp (bnd (f_X7_isPlace x) fun t1 => jn (fun k4 => if t1 = (0 : Int32) then k4 (-1 : Int32) else bnd (f_X7_isPlace y) fun t17 => if ¬ t17 = (0 : Int32) then bnd (f_X7_isIn w (0 : Int32) (1 : Int32)) fun t19 => if ¬ t19 = (0 : Int32) then k4 (0 : Int32) else k4 (-2 : Int32) else k4 (-1 : Int32)) K) h Q := by
  refine wp_call X7_isPlace ?_
  unfold jn
  dsimp only
  rw [tb_if]
  by_cases c : pl2 x y = 0
  · rw [(pl2_z c).1, if_pos rfl]
    rw [c, show ∀ y, fs 0 y = y from fun y => rfl] at H
    refine wp_call X7_isPlace ?_
    rw [tb_ifn, (pl2_z c).2, if_pos rfl]
    refine wp_call (X7_isIn (m := 1) (by decide)) ?_
    rw [tb_ifn]
    unfold nc at H
    cases z : pn 2 w
    · simp only [z, Bool.false_eq_true, if_false] at H ⊢
      exact H
    · simp only [z, if_true] at H ⊢
      exact H
  · rw [(pl2_c c).2, show fs (-1) (nc 2 w) = -1 from rfl] at H
    rcases (pl2_c c).1 with z | ⟨z, v⟩
    · rw [z, if_neg (by decide)]
      exact H
    · rw [z, if_pos rfl]
      refine wp_call X7_isPlace ?_
      rw [tb_ifn, v, if_neg (by decide)]
      exact H
theorem gu_pli {β : Type} {h : HP} {x w : Int32} {Q : β → HP → Prop} {K : Int32 → M β} (H : wp (K (fs (pl x) (nc 2 w))) h Q) : wp (bnd (f_X7_isPlace x) fun t1 => jn (fun k4 => if ¬ t1 = (0 : Int32) then bnd (f_X7_isIn w (0 : Int32) (1 : Int32)) fun t17 => if ¬ t17 = (0 : Int32) then k4 (0 : Int32) else k4 (-2 : Int32) else k4 (-1 : Int32)) K) h Q := by
  refine wp_call X7_isPlace ?_
  unfold jn
  dsimp only
  rw [tb_ifn]
  by_cases c : pl x = 0
  · rw [pl_z c, if_pos rfl]
    rw [c, show ∀ y, fs 0 y = y from fun y => rfl] at H
    refine wp_call (X7_isIn (m := 1) (by decide)) ?_
    rw [tb_ifn]
    unfold nc at H
    cases z : pn 2 w
    · simp only [z, Bool.false_eq_true, if_false] at H ⊢
      exact H
    · simp only [z, if_true] at H ⊢
      exact H
  · rw [(pl_c c).2, show fs (-1) (nc 2 w) = -1 from rfl] at H
    rw [(pl_c c).1, if_neg (by decide)]
    exact H
theorem gu_plb {β : Type} {h : HP} {x w lo hi : Int32} {Q : β → HP → Prop} {K : Int32 → M β} (H : wp (K (fs (pl x) (ob w lo hi))) h Q) : wp (bnd (f_X7_isPlace x) fun t1 => jn (fun k4 => if ¬ t1 = (0 : Int32) then bnd (f_X7_bound w lo hi) fun t21 => k4 t21 else k4 (-1 : Int32)) K) h Q := by
  refine wp_call X7_isPlace ?_
  unfold jn
  dsimp only
  rw [tb_ifn]
  by_cases c : pl x = 0
  · rw [pl_z c, if_pos rfl]
    rw [c, show ∀ y, fs 0 y = y from fun y => rfl] at H
    exact wp_call X7_bound H
  · rw [(pl_c c).2, show fs (-1) (ob w lo hi) = -1 from rfl] at H
    rw [(pl_c c).1, if_neg (by decide)]
    exact H
def d1 (P : (Nat → Nat) × (Nat → Nat)) (a b : Nat) : Nat := bD P.1 (cY P 1) (sY P 1 a) 1000000000 a 7 b
theorem cY_1 (P : (Nat → Nat) × (Nat → Nat)) : cY P 1 = fun _ => 1 := rfl
theorem d1_ok {P : (Nat → Nat) × (Nat → Nat)} (GP : GoodP P) {a : Nat} (ha : a < 8) (v : Nat) : (∀ d, d ≤ 7 → tb (rs P.1 top 8 d (2 ^ a)) v = true → d1 P a v ≤ d) ∧ (d1 P a v < 1000000000 → d1 P a v ≤ 7 ∧ tb (rs P.1 top 8 (d1 P a v) (2 ^ a)) v = true) := bD_steps (fun k hk => (GP k hk).1) (by decide) ha 7 (by omega) v
theorem d1_cap {P : (Nat → Nat) × (Nat → Nat)} {a : Nat} (v : Nat) : d1 P a v ≤ 1000000000 := bD_cap (Nat.zero_le _) 7 v
theorem st_eq {P : (Nat → Nat) × (Nat → Nat)} (GP : GoodP P) {a b : Nat} (ha : a < 8) : di P.1 8 a b = if d1 P a b = 1000000000 then -9 else nI (d1 P a b) := by
  obtain ⟨k1, k2⟩ := d1_ok GP ha b
  have cap := d1_cap (P := P) (a := a) b
  unfold di
  cases e : fnd (fun d => tb (rs P.1 top 8 d (2 ^ a)) b = true) 8 0 with
  | none =>
    have := fnd_none e
    rw [if_pos (Classical.byContradiction fun q => by
      have := k2 (by omega)
      exact fnd_none e (d1 P a b) (by omega) (by omega) this.2)]
  | some m =>
    obtain ⟨⟨m1, m2⟩, m3, m4⟩ := fnd_some e
    have l1 := k1 m (by omega) m3
    have l2 := k2 (by omega)
    have : d1 P a b = m := by
      refine Nat.le_antisymm l1 (Nat.not_lt.mp fun q => m4 _ (by omega) q l2.2)
    rw [if_neg (by omega), this]
def stS (P : (Nat → Nat) × (Nat → Nat)) (a b : Nat) : Int32 := di P.1 8 a b
theorem QX_steps {h : HP} {P : (Nat → Nat) × (Nat → Nat)} {x y : Int32} (R : RefOk h.2) (T : PlX h P) (GP : GoodP P) : wp (f_X6_steps 0 x y) h (OutX h (pl2 x y) (stS P (ix x) (ix y))) := by
  unfold f_X6_steps
  refine wp_call X6_noPlaces (gX R pl2_no fun e => ?_)
  obtain ⟨a, b, ha, hb, rfl, rfl⟩ := pl2_ix e
  rw [ix_nI (by omega), ix_nI (by omega)]
  exact wp_eq (x_gr1 R) (wp_eq (g9_0 R) (wp_call (X2_distance (m := 8) rfl (by omega) T.1 (fun k hk => (GP k hk).1) ha hb) (wp_rt ⟨rfl, Same.rfl'⟩)))
theorem LvY.r129 {h h' : HP} (S : Same (fun a => a = 129) h h') : LvY h h' := LvY.of (S.wide fun x q => by omega)
theorem QY_steps {h : HP} {P : (Nat → Nat) × (Nat → Nat)} {x y : Int32} (R : RefOk h.2) (T : PlY h P) (GP : GoodP P) : wp (f_X7_steps 110 x y) h (OutY h (pl2 x y) (stS P (ix x) (ix y))) := by
  unfold f_X7_steps
  refine gu_pp R fun e => ?_
  obtain ⟨a, b, ha, hb, rfl, rfl⟩ := pl2_ix e
  rw [ix_nI (by omega), ix_nI (by omega)]
  refine wp_bnd (wp_mono (X7_findWays (f := 1) R T GP ha (by omega)) fun _ h1 q => ?_)
  obtain ⟨D, S⟩ := q
  have SL := LvY.r129 S
  have R1 := SL.ref R
  have cap := d1_cap (P := P) (a := a) b
  refine wp_eq (g110_28 R1) (wp_eq (a129 hb) ?_)
  rw [D b hb, show bD P.1 (cY P 1) (sY P 1 a) 1000000000 a 7 b = d1 P a b from rfl]
  unfold stS
  rw [st_eq GP ha]
  by_cases c : d1 P a b = 1000000000
  · rw [if_neg (show ¬ ¬ nI (d1 P a b) = 1000000000 from fun q => q (by rw [c]; rfl)), if_pos c]
    exact wp_rt ⟨rfl, SL⟩
  · rw [if_pos (show ¬ nI (d1 P a b) = 1000000000 from fun q => c ((nI_eq (b := 1000000000) (by omega) (by omega)).mp q)), if_neg c]
    refine wp_eq (g110_28 R1) (wp_eq (a129 hb) (wp_rt ⟨D b hb, SL⟩))
def x1k (P : (Nat → Nat) × (Nat → Nat)) (a b : Nat) : Nat := bD P.1 (cY P 0) (sY P 0 a) 1000000000 a 7 b
theorem x1k_eq {P : (Nat → Nat) × (Nat → Nat)} (GP : GoodP P) {a b : Nat} (ha : a < 8) (hb : b < 8) : fin16 7 (x16 P a b) ∧ x1k P a b = cvx (x16 P a b) := bD_cvx (w := fun v => gl (P.2 v)) (fun v hv => gl_le (GP v hv).2) ha 7 (Nat.le_refl _) b hb
def gnS (P : (Nat → Nat) × (Nat → Nat)) (a b : Nat) (w : Int32) : Int32 := if x16 P a b = 1000000 then -9 else if w = 0 then nI (x16 P a b / 16) else nI (x16 P a b % 16)
theorem GX12 {h h' : HP} (S : Same (fun a => a = 12) h h') : Same GX h h' := S.wide fun x q => by unfold GX; omega
theorem QX_glances {h : HP} {P : (Nat → Nat) × (Nat → Nat)} {x y w : Int32} (R : RefOk h.2) (T : PlX h P) (GP : GoodP P) : wp (f_X6_glances 0 x y w) h (OutX h (fs (pl2 x y) (nc 2 w)) (gnS P (ix x) (ix y) w)) := by
  unfold f_X6_glances
  refine wp_call X6_noPlaces (wp_call (X6_noChoice (m := 2)) (wp_call X6_first (gX R (fs_no pl2_no nc_no) fun e => ?_)))
  obtain ⟨a, b, ha, hb, rfl, rfl⟩ := pl2_ix (fs_z e).1
  rw [ix_nI (by omega), ix_nI (by omega)]
  refine wp_eq (x_gr1 R) (wp_bnd (wp_mono (X4_route R T GP ha hb) fun v h1 q => ?_))
  obtain ⟨rfl, S⟩ := q
  have SG := GX12 S
  have f := (x1k_eq GP ha hb).1
  unfold gnS
  unfold fin16 at f
  generalize x16 P a b = x at f ⊢
  by_cases c : x = 1000000
  · rw [if_neg (show ¬ ¬ nI x = 1000000 from fun q => q (by rw [c]; rfl)), if_pos c]
    exact wp_rt ⟨rfl, SG⟩
  · rw [if_pos (show ¬ nI x = 1000000 from fun q => c ((nI_eq (b := 1000000) (by omega) (by omega)).mp q)), if_neg c]
    by_cases d : w = 0
    · rw [if_neg (fun q => q d), if_pos d]
      exact wp_eq (b_div (y := 16) (by omega) (by omega) (by omega)) (wp_rt ⟨rfl, SG⟩)
    · rw [if_pos d, if_neg d]
      exact wp_eq (b_rem (y := 16) (by omega) (by omega) (by omega)) (wp_rt ⟨rfl, SG⟩)
theorem cvx_div {x : Nat} (h : fin16 7 x) (hx : ¬ x = 1000000) : ¬ cvx x = 1000000000 ∧ cvx x < 1000000000 ∧ cvx x / 1000 = x / 16 ∧ cvx x % 1000 = x % 16 := by
  unfold fin16 at h
  unfold cvx
  rw [if_neg hx]
  omega
theorem QY_glances {h : HP} {P : (Nat → Nat) × (Nat → Nat)} {x y w : Int32} (R : RefOk h.2) (T : PlY h P) (GP : GoodP P) : wp (f_X7_glances 110 x y w) h (OutY h (fs (pl2 x y) (nc 2 w)) (gnS P (ix x) (ix y) w)) := by
  unfold f_X7_glances
  refine gu_ppi (gY R (fs_no pl2_no nc_no) fun e => ?_)
  obtain ⟨a, b, ha, hb, rfl, rfl⟩ := pl2_ix (fs_z e).1
  rw [ix_nI (by omega), ix_nI (by omega)]
  refine wp_bnd (wp_mono (X7_findWays (f := 0) R T GP ha (by omega)) fun _ h1 q => ?_)
  obtain ⟨D, S⟩ := q
  have SL := LvY.r129 S
  have R1 := SL.ref R
  have Db := D b hb
  rw [show bD P.1 (cY P 0) (sY P 0 a) 1000000000 a 7 b = x1k P a b from rfl, (x1k_eq GP ha hb).2] at Db
  have f := (x1k_eq GP ha hb).1
  refine wp_eq (g110_28 R1) (wp_eq (a129 hb) ?_)
  rw [Db]
  unfold gnS
  generalize x16 P a b = x at f Db ⊢
  by_cases c : x = 1000000
  · rw [if_neg (show ¬ ¬ nI (cvx x) = 1000000000 from fun q => q (by rw [c]; rfl)), if_pos c]
    exact wp_rt ⟨rfl, SL⟩
  · obtain ⟨k1, k2, k3, k4⟩ := cvx_div f c
    rw [if_pos (show ¬ nI (cvx x) = 1000000000 from fun q => k1 ((nI_eq (b := 1000000000) (by omega) (by omega)).mp q)), if_neg c]
    by_cases d : w = 0
    · rw [if_neg (fun q => q d), if_pos d]
      refine wp_eq (g110_28 R1) (wp_eq (a129 hb) ?_)
      rw [Db]
      refine wp_eq (b_div (y := 1000) (by omega) (by omega) (by omega)) (wp_rt ⟨?_, SL⟩)
      rw [k3]
    · rw [if_pos d, if_neg d]
      refine wp_eq (g110_28 R1) (wp_eq (a129 hb) ?_)
      rw [Db]
      refine wp_eq (b_rem (y := 1000) (by omega) (by omega) (by omega)) (wp_rt ⟨?_, SL⟩)
      rw [k4]
