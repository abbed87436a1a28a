/-! WANTED, BELIEF, SETTLES, ROUND -/
theorem wp_eq {α : Type} {m : M α} {m' : M α} {h h' : HP} {Q : α → HP → Prop} (e : m h = m' h') (H : wp m' h' Q) : wp m h Q := by
  obtain ⟨v, h2, a, q⟩ := H
  exact ⟨v, h2, e.trans a, q⟩
theorem noP {h : HP} {n : Nat} {x : Int32} (R : RefOk h.2) (e : h.1 2 0 = nI n) : cv 5 0 (f_X6_noPerson 0 x) h = some (np n x, h) := X6_noPerson R e
theorem noT {h : HP} {n : Nat} {x y : Int32} (R : RefOk h.2) (e : h.1 2 0 = nI n) : cv 5 0 (f_X6_noTwo 0 x y) h = some (n2p n x y, h) := X6_noTwo R e
def wtS (A : AV) (p : Nat) (v : Int32) : Int32 :=
  match fnd (fun n => ¬ nI ((wks A n).1 3 p) < v) 61 0 with
  | none => -9
  | some m => nI m
theorem QX_wanted {h : HP} {A : AV} {x v : Int32} (R : RefOk h.2) (F : FolkIs h 2 A) (G : GoodA A) (W : A.2.2 ≤ 999) : wp (f_X6_wanted 0 x v) h (OutX h (fs (np A.2.1 x) (ob v 0 99)) (wtS A (ix x) v)) := by
  refine wp_call (noP R F.1.1) (wp_call X6_outside (wp_call X6_first (gX R (fs_no np_no ob_no) fun e => ?_)))
  obtain ⟨p, hp, rfl⟩ := np_ix (fs_z e).1 (by have := G.1.1; omega)
  have hn := G.1.1
  have hp7 : p < 7 := by omega
  rw [ix_nI (by omega)]
  refine wp_bnd (wp_mono (x_ahead R F G W (n := 0) (by omega)) fun v h' q => ?_)
  obtain ⟨rfl, ⟨B, R', F', G'⟩, S⟩ := q
  refine wp_first (fun n => ¬ nI ((wks A n).1 3 p) < v) 0 61 (fun i h' => RefOk h'.2 ∧ FolkIs h' 37 (wks A i) ∧ Same GX h h') (by omega) (fun i _ hi c h' q k hk => ?_) (fun i _ hi c e h' q k => ?_) (fun e h' q k => ?_) ⟨R', F', S⟩
  · obtain ⟨R', F', S⟩ := q
    have B := FB.of R' (b := 37) (by decide)
    rw [if_neg (no60 (by omega))]
    refine wp_eq (bR6 (FB.of R' (b := 37) (by decide))) (wp_eq (bA4 (FB.of R' (b := 37) (by decide)) hp7) ?_)
    rw [F'.2.2.2.2.1 p hp7, if_pos (Classical.not_not.mp c)]
    refine wp_bnd (wp_mono (x_week W G (by omega) R' F' S) fun v h2 q => ?_)
    rw [nI_1]
    exact hk h2 ⟨q.2.2.1, q.2.2.2.1, q.2.2.2.2.1⟩
  · obtain ⟨R', F', S⟩ := q
    rw [if_neg (no60 (by omega))]
    refine wp_eq (bR6 (FB.of R' (b := 37) (by decide))) (wp_eq (bA4 (FB.of R' (b := 37) (by decide)) hp7) ?_)
    rw [F'.2.2.2.2.1 p hp7, if_neg c]
    unfold wtS
    rw [e]
    exact wp_rt ⟨rfl, S⟩
  · rw [if_pos (show (60 : Int32) < nI (0 + 61) from by decide)]
    unfold wtS
    rw [e]
    exact wp_rt ⟨rfl, q.2.2⟩
theorem QY_wanted {h : HP} {A : AV} {x v : Int32} (R : RefOk h.2) (F : ModIs h A) (G : GoodA A) (W : A.2.2 ≤ 999) : wp (f_X7_wanted 110 x v) h (OutY h (fs (np A.2.1 x) (ob v 0 99)) (wtS A (ix x) v)) := by
  unfold f_X7_wanted
  refine gu_pb F.1.1 (gY R (fs_no np_no ob_no) fun e => ?_)
  have hn := G.1.1
  obtain ⟨p, hp, rfl⟩ := np_ix (fs_z e).1 (by omega)
  rw [ix_nI (by omega)]
  refine wp_bnd (wp_mono (y_find R F G W (n := 60) (by omega)) fun _ h1 q => ?_)
  obtain ⟨T, ⟨R', F'⟩, S⟩ := q
  have T' : ∀ i, i < 0 + 61 → cv 6 110 (f_X7_beliefAt 110 (nI i) (nI p)) h1 = some (nI ((wks A i).1 3 p), h1) := fun i hi => X7_beliefAt R' T (by omega) (by omega) hp hn
  refine wp_first (fun n => ¬ nI ((wks A n).1 3 p) < v) 0 61 (fun i h' => h' = h1) (by omega) (fun i _ hi c h' q k hk => ?_) (fun i _ hi c e h' q k => ?_) (fun e h' q k => ?_) rfl
  · subst q
    rw [if_neg (no60 (by omega))]
    refine wp_call (T' i hi) ?_
    rw [if_pos (Classical.not_not.mp c), nI_1]
    exact hk _ rfl
  · subst q
    rw [if_neg (no60 (by omega))]
    refine wp_call (T' i hi) ?_
    rw [if_neg c]
    unfold wtS
    rw [e]
    exact wp_rt ⟨rfl, S⟩
  · subst q
    rw [if_pos (show (60 : Int32) < nI (0 + 61) from by decide)]
    unfold wtS
    rw [e]
    exact wp_rt ⟨rfl, S⟩
/-! belief -/
def blS (A : AV) (p n : Nat) : Int32 := nI ((wks A n).1 3 p)
theorem QX_belief {h : HP} {A : AV} {x v : Int32} (R : RefOk h.2) (F : FolkIs h 2 A) (G : GoodA A) (W : A.2.2 ≤ 999) : wp (f_X6_belief 0 x v) h (OutX h (fs (np A.2.1 x) (ob v 0 60)) (blS A (ix x) (ix v))) := by
  refine wp_call (noP R F.1.1) (wp_call X6_outside (wp_call X6_first (gX R (fs_no np_no ob_no) fun e => ?_)))
  have hn := G.1.1
  obtain ⟨p, hp, rfl⟩ := np_ix (fs_z e).1 (by omega)
  obtain ⟨n, -, hn60, rfl⟩ := ob_ix (lo := 0) (hi := 60) (fs_z e).2 (by decide) (by decide)
  have hp7 : p < 7 := by omega
  rw [ix_nI (by omega), ix_nI (by omega)]
  refine wp_bnd (wp_mono (x_ahead R F G W (n := n) (by omega)) fun v h' q => ?_)
  obtain ⟨rfl, ⟨B, R', F', G'⟩, S⟩ := q
  refine wp_eq (bR6 (FB.of R' (b := 37) (by decide))) (wp_eq (bA4 (FB.of R' (b := 37) (by decide)) hp7) ?_)
  rw [F'.2.2.2.2.1 p hp7]
  exact wp_rt ⟨rfl, S⟩
theorem QY_belief {h : HP} {A : AV} {x v : Int32} (R : RefOk h.2) (F : ModIs h A) (G : GoodA A) (W : A.2.2 ≤ 999) : wp (f_X7_belief 110 x v) h (OutY h (fs (np A.2.1 x) (ob v 0 60)) (blS A (ix x) (ix v))) := by
  unfold f_X7_belief
  refine gu_pw F.1.1 (gY R (fs_no np_no ob_no) fun e => ?_)
  have hn := G.1.1
  obtain ⟨p, hp, rfl⟩ := np_ix (fs_z e).1 (by omega)
  obtain ⟨n, -, hn60, rfl⟩ := ob_ix (lo := 0) (hi := 60) (fs_z e).2 (by decide) (by decide)
  rw [ix_nI (by omega), ix_nI (by omega)]
  refine wp_bnd (wp_mono (y_find R F G W (n := n) (by omega)) fun _ h1 q => ?_)
  obtain ⟨T, ⟨R', F'⟩, S⟩ := q
  exact wp_call (show cv 6 110 (f_X7_beliefAt 110 (nI n) (nI p)) h1 = _ from X7_beliefAt R' T (Nat.le_refl _) (by omega) hp hn) (wp_rt ⟨rfl, S⟩)
/-! settles, round -/
def alk (A B : AV) : Nat → Bool
  | 0 => true
  | p + 1 => alk A B p && decide (B.1 3 p = A.1 3 p)
theorem alk_iff {A B : AV} {n : Nat} : alk A B n = true ↔ ∀ p, p < n → B.1 3 p = A.1 3 p := by
  induction n with
  | zero => exact ⟨fun _ p hp => by omega, fun _ => rfl⟩
  | succ n ih =>
    unfold alk
    rw [Bool.and_eq_true, ih, decide_eq_true_eq]
    constructor
    · intro q p hp
      rcases Nat.lt_or_ge p n with t | t
      · exact q.1 p t
      · have : p = n := by omega
        rw [this]; exact q.2
    · intro q
      exact ⟨fun p hp => q p (by omega), q n (by omega)⟩
theorem dc_zero {A : AV} : dc A A.2.1 = 0 ↔ alk A (wk A) A.2.1 = true := by
  have key : ∀ i, i ≤ A.2.1 → (dc A i = 0 ↔ alk A (wk A) i = true) := by
    intro i
    induction i with
    | zero => intro _; exact ⟨fun _ => rfl, fun _ => rfl⟩
    | succ i ih =>
      intro hi
      have e : (wk A).1 3 i = nb A i := by
        unfold wk
        simp only [true_and]
        rw [if_pos (by omega)]
      unfold dc alk
      rw [Bool.and_eq_true, decide_eq_true_eq, ← ih (by omega), e]
      constructor
      · intro q
        refine ⟨by omega, ?_⟩
        apply Classical.byContradiction
        intro r
        rw [if_neg r] at q
        omega
      · intro q
        rw [q.1, if_pos q.2]
  exact key _ (Nat.le_refl _)
def seS (A : AV) : Int32 :=
  match fnd (fun n => alk (wks A n) (wks A (n + 1)) A.2.1 = true) 61 0 with
  | none => -9
  | some m => nI m
theorem nI_z {x : Nat} (h : x < 2 ^ 31) : (nI x = 0) = (x = 0) := eq_nI h (by decide)
theorem QX_settles {h : HP} {A : AV} (R : RefOk h.2) (F : FolkIs h 2 A) (G : GoodA A) (W : A.2.2 ≤ 999) : wp (f_X6_settles 0) h fun v h' => v = seS A ∧ Same GX h h' := by
  unfold f_X6_settles
  refine wp_bnd (wp_mono (x_ahead R F G W (n := 0) (by omega)) fun v h' q => ?_)
  obtain ⟨rfl, ⟨B, R', F', G'⟩, S⟩ := q
  have hd : ∀ i, (¬ nI (dc (wks A i) A.2.1) = 0) ↔ ¬ alk (wks A i) (wks A (i + 1)) A.2.1 = true := fun i => by
    have := dc_le (wks A i) A.2.1
    have hn := G.1.1
    rw [nI_z (by omega)]
    have := @dc_zero (wks A i)
    rw [wks_n] at this
    rw [this]
    rfl
  refine wp_first (fun n => alk (wks A n) (wks A (n + 1)) A.2.1 = true) 0 61 (fun i h' => RefOk h'.2 ∧ FolkIs h' 37 (wks A i) ∧ Same GX h h') (by omega) (fun i _ hi c h' q k hk => ?_) (fun i _ hi c e h' q k => ?_) (fun e h' q k => ?_) ⟨R', F', S⟩
  · obtain ⟨R', F', S⟩ := q
    rw [if_neg (no60 (by omega))]
    refine wp_bnd (wp_mono (x_week W G (by omega) R' F' S) fun v h2 q => ?_)
    rw [q.1, if_pos ((hd i).mpr c), nI_1]
    exact hk h2 ⟨q.2.2.1, q.2.2.2.1, q.2.2.2.2.1⟩
  · obtain ⟨R', F', S⟩ := q
    rw [if_neg (no60 (by omega))]
    refine wp_bnd (wp_mono (x_week W G (by omega) R' F' S) fun v h2 q => ?_)
    rw [q.1, if_neg (fun z => (hd i).mp z c)]
    unfold seS
    rw [e]
    exact wp_rt ⟨rfl, q.2.2.2.2.1⟩
  · rw [if_pos (show (60 : Int32) < nI (0 + 61) from by decide)]
    unfold seS
    rw [e]
    exact wp_rt ⟨rfl, q.2.2⟩
theorem X7_areAlike {h : HP} {i j N : Nat} {A : AV} (R : RefOk h.2) (F : ModIs h A) (G : GoodA A) (W : A.2.2 ≤ 999) (T : TrailIs h A N) (hi : i ≤ N) (hj : j ≤ N) (hN : N ≤ 120) : f_X7_areAlike 110 (nI i) (nI j) h = some (if alk (wks A i) (wks A j) A.2.1 then 1 else 0, h) := by
  have hn := G.1.1
  have nf : ∀ p, p < A.2.1 → ∀ k, k ≤ N → (wks A k).1 3 p < 2 ^ 31 := by
    intro p hp k hk
    have := ((wks_good G k (by omega)).2 p (by omega)).2.2.2.1
    omega
  unfold f_X7_areAlike
  refine lp_first (fun p => ¬ (wks A j).1 3 p = (wks A i).1 3 p) 0 A.2.1 (by omega) (fun p _ hp c k => ?_) (fun p _ hp c e k => ?_) (fun e k => ?_)
  · rw [g110_8, F.1.1, ifa, if_neg (nI_ge (by omega) (by omega)), c110, e_bnd (X7_beliefAt R T hi hN (by omega) hn), c110, e_bnd (X7_beliefAt R T hj hN (by omega) hn), ifa, if_pos (by rw [Classical.not_not.mp c]), nI_1]
  · rw [g110_8, F.1.1, ifa, if_neg (nI_ge (by omega) (by omega)), c110, e_bnd (X7_beliefAt R T hi hN (by omega) hn), c110, e_bnd (X7_beliefAt R T hj hN (by omega) hn), ifa, if_neg (by rw [eq_nI (nf p (by omega) i hi) (nf p (by omega) j hj)]; exact fun q => c q.symm)]
    have : alk (wks A i) (wks A j) A.2.1 = false := by
      cases z : alk (wks A i) (wks A j) A.2.1
      · rfl
      · exact absurd (alk_iff.mp z p (by omega)) c
    rw [this]
    rfl
  · rw [g110_8, F.1.1, ifa, if_pos (nI_le (by omega) (by omega))]
    have : alk (wks A i) (wks A j) A.2.1 = true := alk_iff.mpr fun p hp => Classical.not_not.mp (fnd_none e p (Nat.zero_le _) (by omega))
    rw [this]
    rfl
theorem QY_settles {h : HP} {A : AV} (R : RefOk h.2) (F : ModIs h A) (G : GoodA A) (W : A.2.2 ≤ 999) : wp (f_X7_settles 110) h fun v h' => v = seS A ∧ LvY h h' := by
  unfold f_X7_settles
  refine wp_bnd (wp_mono (y_find R F G W (n := 61) (by omega)) fun _ h1 q => ?_)
  obtain ⟨T, ⟨R', F'⟩, S⟩ := q
  have T' : ∀ i, i < 0 + 61 → cv 6 110 (f_X7_areAlike 110 (nI i) (nI i + 1)) h1 = some (if alk (wks A i) (wks A (i + 1)) A.2.1 then 1 else 0, h1) := fun i hi => by
    rw [nI_1]
    exact X7_areAlike R' F' G W T (by omega) (by omega) (by omega)
  refine wp_first (fun n => alk (wks A n) (wks A (n + 1)) A.2.1 = true) 0 61 (fun i h' => h' = h1) (by omega) (fun i _ hi c h' q k hk => ?_) (fun i _ hi c e h' q k => ?_) (fun e h' q k => ?_) rfl
  · subst q
    rw [if_neg (no60 (by omega))]
    refine wp_call (T' i hi) ?_
    rw [tb_if, if_neg c, nI_1]
    exact hk _ rfl
  · subst q
    rw [if_neg (no60 (by omega))]
    refine wp_call (T' i hi) ?_
    rw [tb_if, if_pos c]
    unfold seS
    rw [e]
    exact wp_rt ⟨rfl, S⟩
  · subst q
    rw [if_pos (show (60 : Int32) < nI (0 + 61) from by decide)]
    unfold seS
    rw [e]
    exact wp_rt ⟨rfl, S⟩
/-- how many believe otherwise than in B -/
def uk (A B : AV) : Nat → Nat
  | 0 => 0
  | p + 1 => uk A B p + if A.1 3 p = B.1 3 p then 0 else 1
theorem uk_s (A B : AV) (i : Nat) : uk A B (i + 1) = uk A B i + if A.1 3 i = B.1 3 i then 0 else 1 := rfl
theorem uk_le (A B : AV) (n : Nat) : uk A B n ≤ n := by
  induction n with
  | zero => exact Nat.le_refl _
  | succ n ih => unfold uk; split <;> omega
theorem uk_zero {A B : AV} {n : Nat} : uk A B n = 0 ↔ alk B A n = true := by
  induction n with
  | zero => exact ⟨fun _ => rfl, fun _ => rfl⟩
  | succ n ih =>
    unfold uk alk
    rw [Bool.and_eq_true, decide_eq_true_eq, ← ih]
    constructor
    · intro q
      refine ⟨by omega, ?_⟩
      apply Classical.byContradiction
      intro r
      rw [if_neg r] at q
      omega
    · intro q
      rw [q.1, if_pos q.2]
theorem uk_nz {A B : AV} {n : Nat} (hn : n ≤ 7) : (¬ nI (uk A B n) = 0) ↔ ¬ alk B A n = true := by
  have := uk_le A B n
  rw [← uk_zero, nI_z (by omega)]
theorem X0_unlike {h : HP} {b c : Nat} {A B : AV} (H : FB h.2 b) (C : FB h.2 c) (F : FolkIs h b A) (E : FolkIs h c B) (G : GoodA A) (GB : GoodA B) : f_X0_unlike b c h = some (nI (uk A B A.2.1), h) := by
  obtain ⟨⟨fn, -⟩, f0, f1, f2, f3, f4⟩ := F
  have hn := G.1.1
  unfold f_X0_unlike
  refine lp_pure (s := fun i => (nI (uk A B i), nI i)) A.2.1 (nf_lt (by omega)) (fun i hi k => ?_) (fun k => ?_)
  · have hk : i < 7 := by omega
    obtain ⟨-, -, g2, g3, -⟩ := G.2 i hk
    obtain ⟨-, -, -, e3, -⟩ := GB.2 i hk
    simp only [bI H, bR6 H, bR6 C, bA1 H hk, bA2 H hk, bA3 H hk, bA4 H hk, bA5 H hk, bA6 H hk, bA1 C hk, bA2 C hk, bA3 C hk, bA4 C hk, bA5 C hk, bA6 C hk, fn, f3 i hk, E.2.2.2.2.1 i hk, ifa]
    rw [if_neg (nI_ge hi (by omega)), nI_1, nI_1, uk_s]
    by_cases c : A.1 3 i = B.1 3 i
    · rw [if_neg (fun q => q (by rw [c])), if_pos c]
      simp only [n0, nI_add]
    · rw [if_pos (fun q => c ((nI_eq (by omega) (by omega)).mp q)), if_neg c]
  · simp only [bR3 H, bR4 H, bR5 H, bR6 H, bR7 H, bR8 H, bI H, bC H, fn, ifa]
    rw [if_pos (nI_le (Nat.le_refl _) (by omega))]
    rfl
def roS (A : AV) : Int32 :=
  match fnd (fun n => alk (wks A 60) (wks A (60 + n)) A.2.1 = true) 60 1 with
  | none => -9
  | some m => nI m
theorem wks_add (A : AV) (i j : Nat) : wks (wks A i) j = wks A (i + j) := by
  induction j with
  | zero => rfl
  | succ j ih =>
    show wk (wks (wks A i) j) = wk (wks A (i + j))
    rw [ih]
theorem QX_round {h : HP} {A : AV} (R : RefOk h.2) (F : FolkIs h 2 A) (G : GoodA A) (W : A.2.2 ≤ 999) : wp (f_X6_round 0) h fun v h' => v = roS A ∧ Same GX h h' := by
  unfold f_X6_round
  have hn := G.1.1
  refine wp_bnd (wp_mono (x_ahead R F G W (n := 60) (by omega)) fun v h1 q => ?_)
  obtain ⟨rfl, ⟨B, R', F', G'⟩, S⟩ := q
  refine wp_call (e_gR rfl (R' 0 1 (by decide) (by decide) (by decide))) (wp_call (e_gR rfl (R' 13 0 (by decide) (by decide) (by decide))) ?_)
  refine wp_bnd (wp_mono (X0_copyFrom (FB.of R' (b := 14) (by decide)) B F' (by omega)) fun _ h2 q => ?_)
  obtain ⟨E, S2⟩ := q
  have R2 := RefOk.same S2 R'
  have F2 : FolkIs h2 37 (wks A 60) := F'.same (by rw [S2.2 37 (by unfold inF; omega)]) (by rw [S2.2 37 (by unfold inF; omega)]) (fun j h1 h2 k hk => by rw [S2.2 (37 + j) (by unfold inF; omega)])
  have S3 : Same GX h h2 := S.trans S2 (fun _ q => q) (fun a q => by unfold inF at q; unfold GX; omega)
  refine wp_first (fun n => alk (wks A 60) (wks A (60 + n)) A.2.1 = true) 1 60 (fun i h' => RefOk h'.2 ∧ FolkIs h' 37 (wks A (60 + i - 1)) ∧ FolkIs h' 14 (wks A 60) ∧ Same GX h h') (by omega) (fun i _ hi c h' q k hk => ?_) (fun i _ hi c e h' q k => ?_) (fun e h' q k => ?_) ⟨R2, F2, E, S3⟩
  · obtain ⟨R', F', E', S⟩ := q
    rw [if_neg (no60 (by omega))]
    refine wp_bnd (wp_mono (x_week W G (by omega) R' F' S) fun v h2 q => ?_)
    rw [show 60 + i - 1 + 1 = 60 + i by omega] at q
    obtain ⟨-, -, R2, F2, S2, S3⟩ := q
    have E2 : FolkIs h2 14 (wks A 60) := E'.same (by rw [S3.2 14 (by unfold inF; omega)]) (by rw [S3.2 14 (by unfold inF; omega)]) (fun j h1 h2 k hk => by rw [S3.2 (14 + j) (by unfold inF; omega)])
    refine wp_eq (e_bnd (e_gR rfl (R2 0 1 (by decide) (by decide) (by decide)))) (wp_eq (e_bnd (e_gR rfl (R2 13 0 (by decide) (by decide) (by decide)))) ?_)
    refine wp_call (show cv 0 37 (f_X0_unlike 37 14) h2 = _ from X0_unlike (FB.of R2 (by decide)) (FB.of R2 (by decide)) F2 E2 (wks_good G _ (by omega)) (wks_good G _ (by omega))) ?_
    rw [wks_n]
    rw [if_pos ((uk_nz hn).mpr c), nI_1]
    exact hk h2 ⟨R2, by rw [show 60 + (i + 1) - 1 = 60 + i by omega]; exact F2, E2, S2⟩
  · obtain ⟨R', F', E', S⟩ := q
    rw [if_neg (no60 (by omega))]
    refine wp_bnd (wp_mono (x_week W G (by omega) R' F' S) fun v h2 q => ?_)
    rw [show 60 + i - 1 + 1 = 60 + i by omega] at q
    obtain ⟨-, -, R2, F2, S2, S3⟩ := q
    have E2 : FolkIs h2 14 (wks A 60) := E'.same (by rw [S3.2 14 (by unfold inF; omega)]) (by rw [S3.2 14 (by unfold inF; omega)]) (fun j h1 h2 k hk => by rw [S3.2 (14 + j) (by unfold inF; omega)])
    refine wp_eq (e_bnd (e_gR rfl (R2 0 1 (by decide) (by decide) (by decide)))) (wp_eq (e_bnd (e_gR rfl (R2 13 0 (by decide) (by decide) (by decide)))) ?_)
    refine wp_call (show cv 0 37 (f_X0_unlike 37 14) h2 = _ from X0_unlike (FB.of R2 (by decide)) (FB.of R2 (by decide)) F2 E2 (wks_good G _ (by omega)) (wks_good G _ (by omega))) ?_
    rw [wks_n]
    rw [if_neg (fun z => (uk_nz hn).mp z c)]
    unfold roS
    rw [e]
    exact wp_rt ⟨rfl, S2⟩
  · rw [if_pos (show (60 : Int32) < nI (1 + 60) from by decide)]
    unfold roS
    rw [e]
    exact wp_rt ⟨rfl, q.2.2.2⟩
