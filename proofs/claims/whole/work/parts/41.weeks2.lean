/-! CLASH, SETTLES, ROUND, WANTED, CALM, BELIEF -/
theorem foS_nI {A : AV} {d : Int32} (G : GoodA A) : ∃ x, x < 2 ^ A.2.1 ∧ foS A d = nI x := by
  have hn := G.1.1
  have key : ∀ n, n ≤ 7 → ∃ x, x < 2 ^ n ∧ fold (fun p a => if nI (ds (A.1 3 p) (A.1 2 p)) ≤ d then a else a ||| ((1 : Int32) <<< (nI p &&& 31))) n 0 = nI x := by
    intro n
    induction n with
    | zero => intro _; exact ⟨0, by decide, rfl⟩
    | succ n ih =>
      intro h
      obtain ⟨x, hx, e⟩ := ih (by omega)
      unfold fold
      rw [e]
      have h1 := pow_lt31 (show n < n + 1 by omega)
      have h2 := pow_lt31 (show n < 31 by omega)
      split
      · exact ⟨x, by omega, rfl⟩
      · refine ⟨x ||| 2 ^ n, Nat.or_lt_two_pow (by omega) h1, ?_⟩
        rw [nI_shl1 (by omega), nI_or (by omega) h2]
  exact key _ hn
theorem foS_first {A : AV} {d : Int32} (G : GoodA A) (h0 : ¬ foS A d = 0) : ∃ x, (x < 2 ^ 7 ∧ ¬ x = 0) ∧ foS A d = nI x := by
  obtain ⟨x, hx, e⟩ := foS_nI (d := d) G
  refine ⟨x, ⟨Nat.lt_of_lt_of_le hx (Nat.pow_le_pow_right (by decide) G.1.1), fun q => h0 ?_⟩, e⟩
  rw [e, q]
  rfl
theorem no60 {i : Nat} (hi : i < 61) : ¬ (60 : Int32) < nI i := fun q => absurd ((nI_ltI (a := 60) (by decide) (by omega)).mp q) (by omega)
/-- a loop over weeks, class side -/
theorem x_week {h h' : HP} {i : Nat} {A : AV} (W : A.2.2 ≤ 999) (G : GoodA A) (hi : i ≤ 200) (R : RefOk h'.2) (F : FolkIs h' 37 (wks A i)) (S : Same GX h h') : wp (cv 0 37 (f_X0_passWeek 37)) h' fun v h2 => v = nI (dc (wks A i) A.2.1) ∧ h2.1 37 2 = nI (wc (wks A i) A.2.1) ∧ RefOk h2.2 ∧ FolkIs h2 37 (wks A (i + 1)) ∧ Same GX h h2 ∧ Same (inF 37) h' h2 := by
  have G' := wks_good G i (by omega)
  refine wp_mono (X0_passWeek (FB.of R (by decide)) F G') fun v h2 q => ?_
  obtain ⟨a, b, c, e⟩ := q
  rw [wks_n] at a c
  have e' : Same (inF 37) h' h2 := e.wide fun x q => by unfold inF; omega
  exact ⟨a, c, RefOk.same e R, b, S.trans (GX37 e') (fun _ q => q) (fun _ q => q), e'⟩
def clS (A : AV) (d what : Int32) : Int32 :=
  match fnd (fun n => ¬ foS (wks A n) d = 0) 61 0 with
  | none => -9
  | some m => if what = 0 then nI m else nI (lb (ix (foS (wks A m) d)))
theorem QX_clash {h : HP} {A : AV} {d w : Int32} (R : RefOk h.2) (F : FolkIs h 2 A) (G : GoodA A) (W : A.2.2 ≤ 999) : wp (f_X6_clash 0 d w) h (OutX h (fs (ob d 0 99) (nc 2 w)) (clS A d w)) := by
  refine wp_call X6_outside (wp_call (X6_noChoice (m := 2)) (wp_call X6_first (gX R (fs_no ob_no nc_no) fun e => ?_)))
  refine wp_bnd (wp_mono (x_ahead R F G W (n := 0) (by omega)) fun v h' q => ?_)
  obtain ⟨rfl, ⟨B, R', F', G'⟩, S⟩ := q
  refine wp_first (fun n => ¬ foS (wks A n) d = 0) 0 61 (fun i h' => RefOk h'.2 ∧ FolkIs h' 37 (wks A i) ∧ Same GX h h') (by omega) (fun i _ hi c h' q k hk => ?_) (fun i _ hi c e h' q k => ?_) (fun e h' q k => ?_) ⟨R', F', S⟩
  · obtain ⟨R', F', S⟩ := q
    have G' := wks_good G i (by omega)
    rw [if_neg (no60 (by omega))]
    refine wp_call (show cv 0 37 (f_X0_fooledBy 37 d) h' = _ from X0_fooledBy (FB.of R' (by decide)) F' G') ?_
    rw [if_pos (Classical.not_not.mp c)]
    refine wp_bnd (wp_mono (x_week W G (by omega) R' F' S) fun v h2 q => ?_)
    rw [nI_1]
    exact hk h2 ⟨q.2.2.1, q.2.2.2.1, q.2.2.2.2.1⟩
  · obtain ⟨R', F', S⟩ := q
    have G' := wks_good G i (by omega)
    rw [if_neg (no60 (by omega))]
    refine wp_call (show cv 0 37 (f_X0_fooledBy 37 d) h' = _ from X0_fooledBy (FB.of R' (by decide)) F' G') ?_
    rw [if_neg c]
    unfold clS
    rw [e]
    dsimp only
    by_cases z : w = 0
    · rw [if_neg (fun q => q z), if_pos z]
      exact wp_rt ⟨rfl, S⟩
    · rw [if_pos z, if_neg z]
      obtain ⟨x, ⟨hx, x0⟩, ex⟩ := foS_first G' c
      rw [ex, ix_nI (by omega)]
      exact wp_call (X6_leastOf hx x0) (wp_rt ⟨rfl, S⟩)
  · rw [if_pos (show (60 : Int32) < nI (0 + 61) from by decide)]
    unfold clS
    rw [e]
    exact wp_rt ⟨rfl, q.2.2⟩
/-- the reference's guards -/
theorem gu_bi {β : Type} {h : HP} {Q : β → HP → Prop} {K : Int32 → M β} {d w lo hi : Int32} (H : wp (K (fs (ob d lo hi) (nc 2 w))) h Q) : wp (bnd (f_X7_bound d lo hi) fun t1 => jn (fun k4 => if ¬ t1 = 0 then k4 t1 else bnd (f_X7_isIn w (0 : Int32) (1 : Int32)) fun t17 => if ¬ t17 = 0 then k4 t1 else k4 (-2 : Int32)) K) h Q := by
  refine wp_call X7_bound ?_
  show wp (if ¬ ob d lo hi = 0 then K (ob d lo hi) else bnd (f_X7_isIn w (0 : Int32) (nI 1)) fun t17 => if ¬ t17 = 0 then K (ob d lo hi) else K (-2 : Int32)) h Q
  unfold fs nc at H
  by_cases c : ob d lo hi = 0
  · rw [if_neg (fun q => q c)]
    refine wp_call (X7_isIn (m := 1) (by decide)) ?_
    rw [tb_ifn]
    simp only [c, if_true] at H ⊢
    cases z : pn 2 w <;> simp only [z, Bool.false_eq_true, if_false, if_true] at H ⊢ <;> exact H
  · rw [if_pos c]
    simp only [c, if_false] at H
    exact H
theorem gu_pb {β : Type} {h : HP} {n : Nat} {Q : β → HP → Prop} {K : Int32 → M β} {x d lo hi : Int32} (e : h.1 110 8 = nI n) (H : wp (K (fs (np n x) (ob d lo hi))) h Q) : wp (bnd (cv 6 110 (f_X7_isPerson 110 x)) fun t1 => jn (fun k4 => if ¬ t1 = 0 then bnd (f_X7_bound d lo hi) fun t13 => k4 t13 else k4 (-1 : Int32)) K) h Q := by
  refine wp_call (X7_isPerson e) ?_
  show wp (if ¬ _ = 0 then bnd (f_X7_bound d lo hi) fun t13 => K t13 else K (-1 : Int32)) h Q
  rw [tb_ifn]
  unfold fs np at H
  cases z : pn n x
  · simp only [z, Bool.false_eq_true, if_false] at H ⊢
    rw [if_neg (by decide)] at H
    exact H
  · simp only [z, if_true] at H ⊢
    exact wp_call X7_bound H
theorem gu_pw {β : Type} {h : HP} {n : Nat} {Q : β → HP → Prop} {K : Int32 → M β} {x d : Int32} (e : h.1 110 8 = nI n) (H : wp (K (fs (np n x) (ob d 0 60))) h Q) : wp (bnd (cv 6 110 (f_X7_isPerson 110 x)) fun t1 => jn (fun k4 => if ¬ t1 = 0 then bnd (f_X7_notWeeks d) fun t13 => k4 t13 else k4 (-1 : Int32)) K) h Q := by
  refine wp_call (X7_isPerson e) ?_
  show wp (if ¬ _ = 0 then bnd (f_X7_notWeeks d) fun t13 => K t13 else K (-1 : Int32)) h Q
  rw [tb_ifn]
  unfold fs np at H
  cases z : pn n x
  · simp only [z, Bool.false_eq_true, if_false] at H ⊢
    rw [if_neg (by decide)] at H
    exact H
  · simp only [z, if_true] at H ⊢
    exact wp_call X7_notWeeks H
theorem gu_pi {β : Type} {h : HP} {n m : Nat} {Q : β → HP → Prop} {K : Int32 → M β} {x w : Int32} (e : h.1 110 8 = nI n) (hm : m + 1 < 2 ^ 31) (H : wp (K (fs (np n x) (nc (m + 1) w))) h Q) : wp (bnd (cv 6 110 (f_X7_isPerson 110 x)) fun t1 => jn (fun k4 => if ¬ t1 = 0 then bnd (f_X7_isIn w (0 : Int32) (nI m)) fun t17 => if ¬ t17 = 0 then k4 0 else k4 (-2 : Int32) else k4 (-1 : Int32)) K) h Q := by
  refine wp_call (X7_isPerson e) ?_
  show wp (if ¬ _ = 0 then bnd (f_X7_isIn w (0 : Int32) (nI m)) fun t17 => if ¬ t17 = 0 then K 0 else K (-2 : Int32) else K (-1 : Int32)) h Q
  rw [tb_ifn]
  unfold fs np nc at H
  cases z : pn n x
  · simp only [z, Bool.false_eq_true, if_false] at H ⊢
    rw [if_neg (by decide)] at H
    exact H
  · simp only [z, if_true] at H ⊢
    refine wp_call (X7_isIn hm) ?_
    rw [tb_ifn]
    cases z : pn (m + 1) w <;> simp only [z, Bool.false_eq_true, if_false, if_true] at H ⊢ <;> exact H
theorem QY_clash {h : HP} {A : AV} {d w : Int32} (R : RefOk h.2) (F : ModIs h A) (G : GoodA A) (W : A.2.2 ≤ 999) : wp (f_X7_clash 110 d w) h (OutY h (fs (ob d 0 99) (nc 2 w)) (clS A d w)) := by
  unfold f_X7_clash
  refine gu_bi (gY R (fs_no ob_no nc_no) fun e => ?_)
  refine wp_bnd (wp_mono (y_find R F G W (n := 60) (by omega)) fun v h1 q => ?_)
  obtain ⟨T, ⟨R', F'⟩, S⟩ := q
  have T' : ∀ i, i < 0 + 61 → cv 6 110 (f_X7_fooledAt 110 (nI i) d) h1 = some (foS (wks A i) d, h1) := fun i hi => X7_fooledAt R' F' G T (by omega) (by omega) (by omega)
  refine wp_first (fun n => ¬ foS (wks A n) d = 0) 0 61 (fun i h' => h' = h1) (by omega) (fun i _ hi c h' q k hk => ?_) (fun i _ hi c e h' q k => ?_) (fun e h' q k => ?_) rfl
  · subst q
    rw [if_neg (no60 (by omega))]
    refine wp_call (T' i hi) ?_
    rw [if_pos (Classical.not_not.mp c), nI_1]
    exact hk _ rfl
  · subst q
    have G' := wks_good G i (by omega)
    rw [if_neg (no60 (by omega))]
    refine wp_call (T' i hi) ?_
    rw [if_neg c]
    unfold clS
    rw [e]
    dsimp only
    by_cases z : w = 0
    · rw [if_neg (fun q => q z), if_pos z]
      exact wp_rt ⟨rfl, S⟩
    · rw [if_pos z, if_neg z]
      refine wp_call (T' i hi) ?_
      obtain ⟨x, ⟨hx, x0⟩, ex⟩ := foS_first G' c
      rw [ex, ix_nI (by omega)]
      exact wp_call (X7_first hx x0) (wp_rt ⟨rfl, S⟩)
  · subst q
    rw [if_pos (show (60 : Int32) < nI (0 + 61) from by decide)]
    unfold clS
    rw [e]
    exact wp_rt ⟨rfl, S⟩
