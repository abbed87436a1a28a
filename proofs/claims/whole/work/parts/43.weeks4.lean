/-! ROUND (reference), CALM, SPREAD -/
theorem QY_round {h : HP} {A : AV} (R : RefOk h.2) (F : ModIs h A) (G : GoodA A) (W : A.2.2 ≤ 999) : wp (f_X7_round 110) h fun v h' => v = roS A ∧ LvY h h' := by
  unfold f_X7_round
  refine wp_bnd (wp_mono (y_find R F G W (n := 120) (by omega)) fun _ h1 q => ?_)
  obtain ⟨T, ⟨R', F'⟩, S⟩ := q
  have T' : ∀ i, i < 1 + 60 → cv 6 110 (f_X7_areAlike 110 60 ((60 : Int32) + nI i)) h1 = some (if alk (wks A 60) (wks A (60 + i)) A.2.1 then 1 else 0, h1) := fun i hi => by
    rw [show (60 : Int32) = nI 60 from rfl, nI_add]
    exact X7_areAlike R' F' G W T (by omega) (by omega) (by omega)
  refine wp_first (fun n => alk (wks A 60) (wks A (60 + n)) A.2.1 = true) 1 60 (fun i h' => h' = h1) (by omega) (fun i _ hi c h' q k hk => ?_) (fun i _ hi c e h' q k => ?_) (fun e h' q k => ?_) rfl
  · subst q
    rw [if_neg (no60 (by omega))]
    refine wp_call (T' i hi) ?_
    rw [tb_if, if_neg c, nI_1]
    exact hk _ rfl
  · subst q
    rw [if_neg (no60 (by omega))]
    refine wp_call (T' i hi) ?_
    rw [tb_if, if_pos c]
    unfold roS
    rw [e]
    exact wp_rt ⟨rfl, S⟩
  · subst q
    rw [if_pos (show (60 : Int32) < nI (1 + 60) from by decide)]
    unfold roS
    rw [e]
    exact wp_rt ⟨rfl, S⟩
/-! calm -/
def cmP (A : AV) (d : Int32) (n : Nat) : Bool := decide (¬ foS (wks A n) d = 0) && decide (¬ d < nI (wc (wks A n) A.2.1))
def cmS (A : AV) (d : Int32) : Int32 :=
  match fnd (fun n => cmP A d n = true) 61 0 with
  | none => -9
  | some m => nI m
theorem QX_calm {h : HP} {A : AV} {d : Int32} (R : RefOk h.2) (F : FolkIs h 2 A) (G : GoodA A) (W : A.2.2 ≤ 999) : wp (f_X6_calm 0 d) h (OutX h (ob d 0 99) (cmS A d)) := by
  unfold f_X6_calm
  refine wp_call X6_outside (gX R ob_no fun e => ?_)
  refine wp_bnd (wp_mono (x_ahead R F G W (n := 0) (by omega)) fun v h' q => ?_)
  obtain ⟨rfl, ⟨B, R', F', G'⟩, S⟩ := q
  have step : ∀ i, i < 61 → ∀ h', RefOk h'.2 ∧ FolkIs h' 37 (wks A i) ∧ Same GX h h' → ∀ (k : Int32 → M Int32) (Q : Int32 → HP → Prop), (∀ h2, RefOk h2.2 ∧ FolkIs h2 37 (wks A (i + 1)) ∧ Same GX h h2 → wp (if cmP A d i = true then rt (nI i) else k (nI i + 1)) h2 Q) → wp (bnd (cv 0 37 (f_X0_fooledBy 37 d)) fun t8 => jn (fun k11 => if t8 = (0 : Int32) then k11 (0 : Int32) else k11 (1 : Int32)) (fun (s10 : Int32) => bnd (cv 0 37 (f_X0_passWeek 37)) fun t12 => if s10 = (0 : Int32) then k (nI i + (1 : Int32)) else bnd (gI 0 2 37) fun t14 => if d < t14 then k (nI i + (1 : Int32)) else rt (nI i))) h' Q := by
    intro i hi h' q k Q H
    obtain ⟨R', F', S⟩ := q
    have G' := wks_good G i (by omega)
    refine wp_call (show cv 0 37 (f_X0_fooledBy 37 d) h' = _ from X0_fooledBy (FB.of R' (by decide)) F' G') ?_
    show wp (if foS (wks A i) d = 0 then bnd (cv 0 37 (f_X0_passWeek 37)) fun t12 => if (0 : Int32) = 0 then k (nI i + 1) else bnd (gI 0 2 37) fun t14 => if d < t14 then k (nI i + (1 : Int32)) else rt (nI i) else bnd (cv 0 37 (f_X0_passWeek 37)) fun t12 => if (1 : Int32) = 0 then k (nI i + 1) else bnd (gI 0 2 37) fun t14 => if d < t14 then k (nI i + (1 : Int32)) else rt (nI i)) h' Q
    unfold cmP at H
    by_cases c : foS (wks A i) d = 0
    · rw [if_pos c]
      refine wp_bnd (wp_mono (x_week W G (by omega) R' F' S) fun v h2 q => ?_)
      have := H h2 ⟨q.2.2.1, q.2.2.2.1, q.2.2.2.2.1⟩
      simp only [c, not_true_eq_false, decide_false, Bool.false_and, Bool.false_eq_true, if_false] at this
      exact this
    · rw [if_neg c]
      refine wp_bnd (wp_mono (x_week W G (by omega) R' F' S) fun v h2 q => ?_)
      have H2 := H h2 ⟨q.2.2.1, q.2.2.2.1, q.2.2.2.2.1⟩
      rw [if_neg (by decide)]
      refine wp_eq (bI (FB.of q.2.2.1 (by decide))) ?_
      rw [q.2.1]
      by_cases z : d < nI (wc (wks A i) A.2.1)
      · rw [if_pos z]
        simp only [c, z, not_true_eq_false, decide_false, Bool.and_false, Bool.false_eq_true, if_false] at H2
        exact H2
      · rw [if_neg z]
        simp only [c, z, not_false_eq_true, decide_true, Bool.and_self, if_true] at H2
        exact H2
  refine wp_first (fun n => cmP A d n = true) 0 61 (fun i h' => RefOk h'.2 ∧ FolkIs h' 37 (wks A i) ∧ Same GX h h') (by omega) (fun i _ hi c h' q k hk => ?_) (fun i _ hi c e h' q k => ?_) (fun e h' q k => ?_) ⟨R', F', S⟩
  · rw [if_neg (no60 (by omega))]
    refine step i (by omega) h' q k _ fun h2 q2 => ?_
    rw [if_neg c, nI_1]
    exact hk h2 q2
  · rw [if_neg (no60 (by omega))]
    refine step i (by omega) h' q k _ fun h2 q2 => ?_
    rw [if_pos c]
    unfold cmS
    rw [e]
    exact wp_rt ⟨rfl, q2.2.2⟩
  · rw [if_pos (show (60 : Int32) < nI (0 + 61) from by decide)]
    unfold cmS
    rw [e]
    exact wp_rt ⟨rfl, q.2.2⟩
theorem wc_iff {A : AV} {k n : Nat} : wc A n ≤ k ↔ ∀ p, p < n → ds (nb A p) (A.1 3 p) ≤ k := by
  induction n with
  | zero => exact ⟨fun _ p hp => by omega, fun _ => Nat.zero_le _⟩
  | succ n ih =>
    unfold wc
    rw [Nat.max_le, ih]
    constructor
    · intro q p hp
      rcases Nat.lt_or_ge p n with t | t
      · exact q.1 p t
      · have : p = n := by omega
        rw [this]; exact q.2
    · intro q
      exact ⟨fun p hp => q p (by omega), q n (by omega)⟩
theorem ds_comm (x y : Nat) : ds x y = ds y x := by unfold ds; omega
theorem wk_bel {A : AV} {p : Nat} (hp : p < A.2.1) : (wk A).1 3 p = nb A p := by
  unfold wk
  simp only [true_and]
  rw [if_pos hp]
theorem X7_isCalm {h : HP} {i N d : Nat} {A : AV} (R : RefOk h.2) (F : ModIs h A) (G : GoodA A) (W : A.2.2 ≤ 999) (T : TrailIs h A N) (hi : i < N) (hN : N ≤ 120) (hd : d ≤ 99) : f_X7_isCalm 110 (nI i) (nI d) h = some (if wc (wks A i) A.2.1 ≤ d then 1 else 0, h) := by
  have hn := G.1.1
  have nf : ∀ p, p < A.2.1 → ∀ k, k ≤ N → (wks A k).1 3 p ≤ 99 := by
    intro p hp k hk
    exact ((wks_good G k (by omega)).2 p (by omega)).2.2.2.1
  have eb : ∀ p, p < A.2.1 → ds ((wks A i).1 3 p) ((wks A (i + 1)).1 3 p) = ds (nb (wks A i) p) ((wks A i).1 3 p) := fun p hp => by
    rw [show (wks A (i + 1)).1 3 p = nb (wks A i) p from wk_bel (by rw [wks_n]; exact hp), ds_comm]
  unfold f_X7_isCalm
  refine lp_first (fun p => ¬ ds ((wks A i).1 3 p) ((wks A (i + 1)).1 3 p) ≤ d) 0 A.2.1 (by omega) (fun p _ hp c k => ?_) (fun p _ hp c e k => ?_) (fun e k => ?_)
  · have a1 := nf p (by omega) i (by omega)
    have a2 := nf p (by omega) (i + 1) (by omega)
    rw [g110_8, F.1.1, ifa, if_neg (nI_ge (by omega) (by omega)), c110, e_bnd (X7_beliefAt R T (by omega) hN (by omega) hn), nI_1, c110, e_bnd (X7_beliefAt R T (by omega) hN (by omega) hn), e_bnd (X7_far (by omega) (by omega)), ifa, if_pos ((nI_leI (by unfold ds; omega) (by omega)).mpr (Classical.not_not.mp c)), nI_1]
  · have a1 := nf p (by omega) i (by omega)
    have a2 := nf p (by omega) (i + 1) (by omega)
    rw [g110_8, F.1.1, ifa, if_neg (nI_ge (by omega) (by omega)), c110, e_bnd (X7_beliefAt R T (by omega) hN (by omega) hn), nI_1, c110, e_bnd (X7_beliefAt R T (by omega) hN (by omega) hn), e_bnd (X7_far (by omega) (by omega)), ifa, if_neg (fun q => c ((nI_leI (by unfold ds; omega) (by omega)).mp q)), if_neg (fun q => c (by rw [eb p (by omega)]; exact wc_iff.mp q p (by omega)))]
    rfl
  · rw [g110_8, F.1.1, ifa, if_pos (nI_le (by omega) (by omega)), if_pos (wc_iff.mpr fun p hp => by rw [← eb p hp]; exact Classical.not_not.mp (fnd_none e p (Nat.zero_le _) (by omega)))]
    rfl
theorem one_if {P : Prop} [Decidable P] {α : Type} {x y : α} : (if (if P then (1 : Int32) else 0) = 0 then x else y) = if P then y else x := by
  by_cases c : P
  · rw [if_pos c, if_pos c, if_neg (by decide)]
  · rw [if_neg c, if_neg c, if_pos rfl]
theorem QY_calm {h : HP} {A : AV} {d : Int32} (R : RefOk h.2) (F : ModIs h A) (G : GoodA A) (W : A.2.2 ≤ 999) : wp (f_X7_calm 110 d) h (OutY h (ob d 0 99) (cmS A d)) := by
  unfold f_X7_calm
  refine wp_call X7_bound (gY R ob_no fun e => ?_)
  have hn := G.1.1
  obtain ⟨dd, -, hd, rfl⟩ := ob_ix (lo := 0) (hi := 99) e (by decide) (by decide)
  refine wp_bnd (wp_mono (y_find R F G W (n := 61) (by omega)) fun _ h1 q => ?_)
  obtain ⟨T, ⟨R', F'⟩, S⟩ := q
  have step : ∀ i, i < 61 → ∀ (k : Int32 → M Int32) (Q : Int32 → HP → Prop), wp (if cmP A (nI dd) i = true then rt (nI i) else k (nI i + 1)) h1 Q → wp (bnd (cv 6 110 (f_X7_isCalm 110 (nI i) (nI dd))) fun t7 => if t7 = (0 : Int32) then k (nI i + (1 : Int32)) else bnd (cv 6 110 (f_X7_fooledAt 110 (nI i) (nI dd))) fun t9 => if t9 = (0 : Int32) then k (nI i + (1 : Int32)) else rt (nI i)) h1 Q := by
    intro i hi k Q H
    refine wp_call (show cv 6 110 (f_X7_isCalm 110 (nI i) (nI dd)) h1 = _ from X7_isCalm R' F' G W T (by omega) (by omega) hd) ?_
    have hw := wc_le (wks_good G i (by omega)) (i := A.2.1) hn
    unfold cmP at H
    rw [one_if]
    by_cases c : wc (wks A i) A.2.1 ≤ dd
    · rw [if_pos c]
      refine wp_call (show cv 6 110 (f_X7_fooledAt 110 (nI i) (nI dd)) h1 = _ from X7_fooledAt R' F' G T (by omega) (by omega) (by omega)) ?_
      have : ¬ nI dd < nI (wc (wks A i) A.2.1) := fun q => absurd ((nI_ltI (by omega) (by omega)).mp q) (by omega)
      by_cases z : foS (wks A i) (nI dd) = 0
      · rw [if_pos z]
        simp only [z, not_true_eq_false, decide_false, Bool.false_and, Bool.false_eq_true, if_false] at H
        exact H
      · rw [if_neg z]
        simp only [z, this, not_false_eq_true, decide_true, Bool.and_self, if_true] at H
        exact H
    · rw [if_neg c]
      have : nI dd < nI (wc (wks A i) A.2.1) := (nI_ltI (by omega) (by omega)).mpr (by omega)
      simp only [this, not_true_eq_false, decide_false, Bool.and_false, Bool.false_eq_true, if_false] at H
      exact H
  refine wp_first (fun n => cmP A (nI dd) n = true) 0 61 (fun i h' => h' = h1) (by omega) (fun i _ hi c h' q k hk => ?_) (fun i _ hi c e h' q k => ?_) (fun e h' q k => ?_) rfl
  · subst q
    rw [if_neg (no60 (by omega))]
    refine step i (by omega) k _ ?_
    rw [if_neg c, nI_1]
    exact hk _ rfl
  · subst q
    rw [if_neg (no60 (by omega))]
    refine step i (by omega) k _ ?_
    rw [if_pos c]
    unfold cmS
    rw [e]
    exact wp_rt ⟨rfl, S⟩
  · subst q
    rw [if_pos (show (60 : Int32) < nI (0 + 61) from by decide)]
    unfold cmS
    rw [e]
    exact wp_rt ⟨rfl, S⟩
