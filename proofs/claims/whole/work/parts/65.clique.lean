/-! PERSON, HONEST, PAIRS, CLIQUE -/
theorem yno {h : HP} {c am : Int32} (R : RefOk h.2) (hc : IsNo c) : wp (bnd (cv 6 110 (f_X7_no 110 c)) fun t => rt t) h (OutY h c am) := wp_call (show cv 6 110 (f_X7_no 110 c) h = _ from X7_no R hc) (wp_rt (Or.inr ⟨hc, rfl, rfl⟩))
theorem oky {h h' : HP} {am v : Int32} (e : v = am) (S : LvY h h') : OutY h 0 am v h' := Or.inl ⟨rfl, e, S⟩
def peS (A : AV) (p w : Nat) : Int32 := nI (A.1 w p)
theorem QX_person {h : HP} {A : AV} {x w : Int32} (R : RefOk h.2) (F : FolkIs h 2 A) (G : GoodA A) : wp (f_X6_person 0 x w) h (OutX h (fs (np A.2.1 x) (nc 5 w)) (peS A (ix x) (ix w))) := by
  unfold f_X6_person
  refine wp_call (noP R F.1.1) (wp_call (X6_noChoice (m := 5)) (wp_call X6_first (gX R (fs_no np_no nc_no) fun e => ?_)))
  have hn := G.1.1
  obtain ⟨p, hp, rfl⟩ := np_ix (fs_z e).1 (by omega)
  obtain ⟨j, hj, rfl⟩ := nc_ix (fs_z e).2 (by omega)
  rw [ix_nI (by omega), ix_nI (by omega)]
  have p7 : p < 7 := by omega
  have B := FB.of R (b := 2) (by decide)
  refine wp_eq (x_gr0 R) ?_
  rcases (show j = 0 ∨ j = 1 ∨ j = 2 ∨ j = 3 ∨ j = 4 by omega) with rfl | rfl | rfl | rfl | rfl
  · rw [if_pos (show nI 0 = 0 by decide)]
    exact wp_eq (bR3 B) (wp_eq (bA1 B p7) (wp_rt ⟨F.2.1 p p7, Same.rfl'⟩))
  · rw [if_neg (show ¬ nI 1 = 0 by decide), if_pos (show nI 1 = 1 by decide)]
    exact wp_eq (bR4 B) (wp_eq (bA2 B p7) (wp_rt ⟨F.2.2.1 p p7, Same.rfl'⟩))
  · rw [if_neg (show ¬ nI 2 = 0 by decide), if_neg (show ¬ nI 2 = 1 by decide), if_pos (show nI 2 = 2 by decide)]
    exact wp_eq (bR5 B) (wp_eq (bA3 B p7) (wp_rt ⟨F.2.2.2.1 p p7, Same.rfl'⟩))
  · rw [if_neg (show ¬ nI 3 = 0 by decide), if_neg (show ¬ nI 3 = 1 by decide), if_neg (show ¬ nI 3 = 2 by decide), if_pos (show nI 3 = 3 by decide)]
    exact wp_eq (bR6 B) (wp_eq (bA4 B p7) (wp_rt ⟨F.2.2.2.2.1 p p7, Same.rfl'⟩))
  · rw [if_neg (show ¬ nI 4 = 0 by decide), if_neg (show ¬ nI 4 = 1 by decide), if_neg (show ¬ nI 4 = 2 by decide), if_neg (show ¬ nI 4 = 3 by decide)]
    exact wp_eq (bR7 B) (wp_eq (bA5 B p7) (wp_rt ⟨F.2.2.2.2.2 p p7, Same.rfl'⟩))
theorem pn_no {n k : Nat} {w : Int32} (h : pn n w = false) (hk : k < n) (hn : n < 2 ^ 31) : ¬ w = nI k := fun q => by
  rw [q, pn_nI hk hn] at h
  cases h
theorem QY_person {h : HP} {A : AV} {x w : Int32} (R : RefOk h.2) (F : ModIs h A) (G : GoodA A) : wp (f_X7_person 110 x w) h (OutY h (fs (np A.2.1 x) (nc 5 w)) (peS A (ix x) (ix w))) := by
  have hn := G.1.1
  unfold f_X7_person
  refine wp_call (X7_isPerson F.1.1) ?_
  rw [tb_ifn]
  by_cases c : np A.2.1 x = 0
  · obtain ⟨p, hp, rfl⟩ := np_ix c (by omega)
    have p7 : p < 7 := by omega
    rw [c, pn_nI hp (by omega), show ∀ y, fs 0 y = y from fun y => rfl]
    simp only [if_true]
    cases z : pn 5 w
    · rw [show nc 5 w = -2 by unfold nc; rw [z]; rfl]
      rw [if_neg (show ¬ w = 0 from pn_no z (k := 0) (by omega) (by omega)), if_neg (show ¬ w = 1 from pn_no z (k := 1) (by omega) (by omega)), if_neg (show ¬ w = 2 from pn_no z (k := 2) (by omega) (by omega)), if_neg (show ¬ w = 3 from pn_no z (k := 3) (by omega) (by omega)), if_neg (show ¬ w = 4 from pn_no z (k := 4) (by omega) (by omega))]
      exact yno R (Or.inr (Or.inl rfl))
    · obtain ⟨j, hj, rfl⟩ := pn_ix z (by omega)
      rw [show nc 5 (nI j) = 0 by unfold nc; rw [z]; rfl, ix_nI (by omega), ix_nI (by omega)]
      rcases (show j = 0 ∨ j = 1 ∨ j = 2 ∨ j = 3 ∨ j = 4 by omega) with rfl | rfl | rfl | rfl | rfl
      · rw [if_pos (show nI 0 = 0 by decide)]
        exact wp_eq (g110_1 R) (wp_eq (a112 p7) (wp_rt (oky (F.2.1 p p7) LvY.rf)))
      · rw [if_neg (show ¬ nI 1 = 0 by decide), if_pos (show nI 1 = 1 by decide)]
        exact wp_eq (g110_2 R) (wp_eq (a113 p7) (wp_rt (oky (F.2.2.1 p p7) LvY.rf)))
      · rw [if_neg (show ¬ nI 2 = 0 by decide), if_neg (show ¬ nI 2 = 1 by decide), if_pos (show nI 2 = 2 by decide)]
        exact wp_eq (g110_3 R) (wp_eq (a114 p7) (wp_rt (oky (F.2.2.2.1 p p7) LvY.rf)))
      · rw [if_neg (show ¬ nI 3 = 0 by decide), if_neg (show ¬ nI 3 = 1 by decide), if_neg (show ¬ nI 3 = 2 by decide), if_pos (show nI 3 = 3 by decide)]
        exact wp_eq (g110_4 R) (wp_eq (a115 p7) (wp_rt (oky (F.2.2.2.2.1 p p7) LvY.rf)))
      · rw [if_neg (show ¬ nI 4 = 0 by decide), if_neg (show ¬ nI 4 = 1 by decide), if_neg (show ¬ nI 4 = 2 by decide), if_neg (show ¬ nI 4 = 3 by decide), if_pos (show nI 4 = 4 by decide)]
        exact wp_eq (g110_5 R) (wp_eq (a116 p7) (wp_rt (oky (F.2.2.2.2.2 p p7) LvY.rf)))
  · have z : pn A.2.1 x = false := by
      unfold np at c
      cases z : pn A.2.1 x
      · rfl
      · rw [z] at c
        exact absurd rfl c
    rw [z, show np A.2.1 x = -1 by unfold np; rw [z]; rfl]
    simp only [Bool.false_eq_true, if_false]
    exact yno R (Or.inl rfl)
/-! honest -/
def unG (A : AV) (p q a : Nat) : Nat := if q = p then a else a + ds (wd A p (A.1 2 q)) (A.1 2 q)
def un (A : AV) (p i : Nat) : Nat := fold (unG A p) i 0
theorem un_s (A : AV) (p i : Nat) : un A p (i + 1) = unG A p i (un A p i) := rfl
theorem un_le {A : AV} (G : GoodA A) {p : Nat} (hp : p < 7) : ∀ i, i ≤ 7 → un A p i ≤ 99 * i := by
  intro i
  induction i with
  | zero => exact fun _ => Nat.le_refl 0
  | succ i ih =>
    intro hi
    have := ih (by omega)
    have g2 := (G.2 i (by omega)).2.2.1
    have := wd_le G (p := p) (v := A.1 2 i) hp g2
    rw [un_s]
    unfold unG ds
    split <;> omega
theorem X0_untruth {h : HP} {p : Nat} {A : AV} (R : RefOk h.2) (F : FolkIs h 2 A) (G : GoodA A) (hp : p < 7) : cv 0 2 (f_X0_untruth 2 (nI p)) h = some (nI (un A p A.2.1), h) := by
  have hn := G.1.1
  have B := FB.of R (b := 2) (by decide)
  rw [e_cv B.1.1]
  unfold f_X0_untruth
  refine lp_pure (s := fun i => (nI (un A p i), nI i)) A.2.1 (nf_lt (by omega)) (fun i hi k => ?_) (fun k => ?_)
  · have l := un_le G hp i (by omega)
    have i7 : i < 7 := by omega
    have g2 := (G.2 i i7).2.2.1
    have wl := wd_le G (p := p) (v := A.1 2 i) hp g2
    dsimp only
    rw [bI B, F.1.1, ifa, if_neg (nI_ge hi (by omega)), ifa, nI_1, un_s]
    unfold unG
    by_cases c : i = p
    · rw [if_pos (by rw [c]), if_pos c]
    · rw [if_neg (fun q => c ((nI_eq (by omega) (by omega)).mp q)), if_neg c, bR5 B, bA3 B i7, F.2.2.2.1 i i7, bC B, e_bnd (X0_word B F G hp g2), bR5 B, bA3 B i7, F.2.2.2.1 i i7, mabs_sub (by omega) (by omega), nI_add]
  · dsimp only
    rw [bI B, F.1.1, ifa, if_pos (nI_le (Nat.le_refl _) (by omega))]
    rfl
theorem X7_untrue {h : HP} {p : Nat} {A : AV} (R : RefOk h.2) (F : ModIs h A) (G : GoodA A) (hp : p < 7) : cv 6 110 (f_X7_untrue 110 (nI p)) h = some (nI (un A p A.2.1), h) := by
  have hn := G.1.1
  show f_X7_untrue 110 (nI p) h = _
  unfold f_X7_untrue
  refine lp_pure (s := fun i => (nI (un A p i), nI i)) A.2.1 (nf_lt (by omega)) (fun i hi k => ?_) (fun k => ?_)
  · have l := un_le G hp i (by omega)
    have i7 : i < 7 := by omega
    have g2 := (G.2 i i7).2.2.1
    have wl := wd_le G (p := p) (v := A.1 2 i) hp g2
    dsimp only
    rw [g110_8, F.1.1, ifa, if_neg (nI_ge hi (by omega)), ifa, nI_1, un_s]
    unfold unG
    by_cases c : i = p
    · rw [if_neg (fun q => q (by rw [c])), if_pos c, Int32.add_zero]
    · rw [if_pos (fun q => c ((nI_eq (by omega) (by omega)).mp q)), if_neg c, g110_3 R, a114 i7, F.2.2.2.1 i i7, c110, e_bnd (X7_said R F G hp g2), g110_3 R, a114 i7, F.2.2.2.1 i i7, e_bnd (X7_far (by omega) (by omega)), nI_add]
  · dsimp only
    rw [g110_8, F.1.1, ifa, if_pos (nI_le (Nat.le_refl _) (by omega))]
    rfl
def hoB (A : AV) : Nat → Nat
  | 0 => 0
  | i + 1 => if un A (hoB A i) A.2.1 ≤ un A (i + 1) A.2.1 then hoB A i else i + 1
theorem hoB_s (A : AV) (i : Nat) : hoB A (i + 1) = if un A (hoB A i) A.2.1 ≤ un A (i + 1) A.2.1 then hoB A i else i + 1 := rfl
theorem hoB_le (A : AV) (i : Nat) : hoB A i ≤ i := by
  induction i with
  | zero => exact Nat.le_refl 0
  | succ i ih =>
    rw [hoB_s]
    split <;> omega
def hoS (A : AV) (w : Int32) : Int32 := if 2 ≤ A.2.1 then if w = 0 then nI (hoB A (A.2.1 - 1)) else nI (un A (hoB A (A.2.1 - 1)) A.2.1) else -9
theorem QX_honest {h : HP} {A : AV} {w : Int32} (R : RefOk h.2) (F : FolkIs h 2 A) (G : GoodA A) : wp (f_X6_honest 0 w) h (OutX h (nc 2 w) (hoS A w)) := by
  have hn := G.1.1
  have B := FB.of R (b := 2) (by decide)
  unfold f_X6_honest
  refine wp_call (X6_noChoice (m := 2)) (gX R nc_no fun e => wp_eq (x_gr0 R) (wp_eq (bI B) ?_))
  rw [F.1.1]
  unfold hoS
  by_cases c : 2 ≤ A.2.1
  · rw [if_pos (show (2 : Int32) ≤ nI A.2.1 from (nI_leI (a := 2) (by omega) (by omega)).mpr c), if_pos c]
    refine ⟨_, h, ?_, rfl, Same.rfl'⟩
    refine lp_pure (s := fun i => (nI (hoB A i), nI (i + 1))) (A.2.1 - 1) (nf_lt (by omega)) (fun i hi k => ?_) (fun k => ?_)
    · have l := hoB_le A i
      have l1 := un_le G (p := hoB A i) (by omega) A.2.1 (by omega)
      have l2 := un_le G (p := i + 1) (by omega) A.2.1 (by omega)
      dsimp only
      rw [x_gr0 R, bI B, F.1.1, ifa, if_neg (nI_ge (show i + 1 < A.2.1 by omega) (by omega)), x_gr0 R, e_bnd (X0_untruth R F G (by omega)), x_gr0 R, e_bnd (X0_untruth R F G (by omega)), ifa, nI_1, hoB_s]
      by_cases d : un A (hoB A i) A.2.1 ≤ un A (i + 1) A.2.1
      · rw [if_pos ((nI_leI (by omega) (by omega)).mpr d), if_pos d]
      · rw [if_neg (fun q => d ((nI_leI (by omega) (by omega)).mp q)), if_neg d]
    · have l := hoB_le A (A.2.1 - 1)
      dsimp only
      rw [x_gr0 R, bI B, F.1.1, ifa, if_pos (nI_le (show A.2.1 ≤ A.2.1 - 1 + 1 by omega) (by omega)), ifa]
      by_cases d : w = 0
      · rw [if_neg (fun q => q d), if_pos d]
        rfl
      · rw [if_pos d, if_neg d, x_gr0 R, e_bnd (X0_untruth R F G (by omega))]
        rfl
  · rw [if_neg (show ¬ (2 : Int32) ≤ nI A.2.1 from fun q => c ((nI_leI (a := 2) (by omega) (by omega)).mp q)), if_neg c]
    exact wp_rt ⟨rfl, Same.rfl'⟩
theorem gu_i {h : HP} {m : Nat} {w am : Int32} {B : M Int32} (R : RefOk h.2) (hm : m + 1 < 2 ^ 31) (H : nc (m + 1) w = 0 → wp B h fun v h' => v = am ∧ LvY h h') : wp (bnd (f_X7_isIn w (0 : Int32) (nI m)) fun t1 => if ¬ t1 = (0 : Int32) then B else bnd (cv 6 110 (f_X7_no 110 (-2 : Int32))) fun t => rt t) h (OutY h (nc (m + 1) w) am) := by
  refine wp_call (X7_isIn hm) ?_
  rw [tb_ifn]
  cases z : pn (m + 1) w
  · rw [show nc (m + 1) w = -2 by unfold nc; rw [z]; rfl]
    simp only [Bool.false_eq_true, if_false]
    exact yno R (Or.inr (Or.inl rfl))
  · have e : nc (m + 1) w = 0 := by unfold nc; rw [z]; rfl
    rw [e]
    simp only [if_true]
    exact wp_mono (H e) fun v h' q => oky q.1 q.2
theorem QY_honest {h : HP} {A : AV} {w : Int32} (R : RefOk h.2) (F : ModIs h A) (G : GoodA A) : wp (f_X7_honest 110 w) h (OutY h (nc 2 w) (hoS A w)) := by
  have hn := G.1.1
  unfold f_X7_honest
  refine gu_i (m := 1) R (by decide) fun e => wp_eq g110_8 ?_
  rw [F.1.1]
  unfold hoS
  by_cases c : 2 ≤ A.2.1
  · rw [if_pos (show (2 : Int32) ≤ nI A.2.1 from (nI_leI (a := 2) (by omega) (by omega)).mpr c), if_pos c]
    refine ⟨_, h, ?_, rfl, LvY.rf⟩
    refine lp_pure (s := fun i => (nI (hoB A i), nI (i + 1))) (A.2.1 - 1) (nf_lt (by omega)) (fun i hi k => ?_) (fun k => ?_)
    · have l := hoB_le A i
      have l1 := un_le G (p := hoB A i) (by omega) A.2.1 (by omega)
      have l2 := un_le G (p := i + 1) (by omega) A.2.1 (by omega)
      dsimp only
      rw [g110_8, F.1.1, ifa, if_neg (nI_ge (show i + 1 < A.2.1 by omega) (by omega)), e_bnd (X7_untrue R F G (by omega)), e_bnd (X7_untrue R F G (by omega)), ifa, nI_1, hoB_s]
      by_cases d : un A (hoB A i) A.2.1 ≤ un A (i + 1) A.2.1
      · rw [if_pos ((nI_leI (by omega) (by omega)).mpr d), if_pos d]
      · rw [if_neg (fun q => d ((nI_leI (by omega) (by omega)).mp q)), if_neg d]
    · have l := hoB_le A (A.2.1 - 1)
      dsimp only
      rw [g110_8, F.1.1, ifa, if_pos (nI_le (show A.2.1 ≤ A.2.1 - 1 + 1 by omega) (by omega)), ifa]
      by_cases d : w = 0
      · rw [if_neg (fun q => q d), if_pos d]
        rfl
      · rw [if_pos d, if_neg d, e_bnd (X7_untrue R F G (by omega))]
        rfl
  · rw [if_neg (show ¬ (2 : Int32) ≤ nI A.2.1 from fun q => c ((nI_leI (a := 2) (by omega) (by omega)).mp q)), if_neg c]
    exact wp_rt ⟨rfl, LvY.rf⟩
/-! clique -/
def cqP (A : AV) (s i : Nat) : Bool := tb s i && decide (¬ wo (wo s (2 ^ i)) (A.1 4 i) = 0)
def cq (A : AV) (s : Nat) : Bool := (fnd (fun i => cqP A s i = true) A.2.1 0).isNone
theorem X0_allAsk {h : HP} {s : Nat} {A : AV} (R : RefOk h.2) (F : FolkIs h 2 A) (G : GoodA A) (hs : s < 2 ^ A.2.1) : cv 0 2 (f_X0_allAskEachOther 2 (nI s)) h = some (if cq A s = true then 1 else 0, h) := by
  have hn := G.1.1
  have h7 := pow_le7 hn
  have B := FB.of R (b := 2) (by decide)
  rw [e_cv B.1.1]
  unfold f_X0_allAskEachOther
  have ST : ∀ i, i < A.2.1 → (nI (wo (wo s (2 ^ i)) (A.1 4 i)) = 0 ↔ wo (wo s (2 ^ i)) (A.1 4 i) = 0) := fun i hi => by
    have l1 : wo s (2 ^ i) < 2 ^ A.2.1 := wo_lt hs
    have l2 : wo (wo s (2 ^ i)) (A.1 4 i) < 2 ^ A.2.1 := wo_lt l1
    exact nI_eq (b := 0) (by omega) (by omega)
  refine lp_first (fun i => cqP A s i = true) 0 A.2.1 (by omega) (fun i _ hi c k => ?_) (fun i _ hi c e k => ?_) (fun e k => ?_)
  · have i7 : i < 7 := by omega
    have lp := pow_lt31 i7
    have g4 := (G.2 i i7).2.2.2.2
    have l1 : wo s (2 ^ i) < 2 ^ A.2.1 := wo_lt hs
    rw [bI B, F.1.1, ifa, if_neg (nI_ge (show i < A.2.1 by omega) (by omega)), e_bnd (X6_holds (by omega) (by omega)), tb_if, nI_1]
    unfold cqP at c
    cases z : tb s i
    · rfl
    · rw [if_pos rfl, bR7 B, bA5 B i7, F.2.2.2.2.2 i i7, nI_shl1 (by omega), nI_wo (by omega) (by omega), nI_wo (by omega) (by omega), ifa, if_pos ((ST i (by omega)).mpr (Classical.byContradiction fun q => c (by rw [z]; simp [q])))]
  · have i7 : i < 7 := by omega
    have lp := pow_lt31 i7
    have g4 := (G.2 i i7).2.2.2.2
    have l1 : wo s (2 ^ i) < 2 ^ A.2.1 := wo_lt hs
    unfold cqP at c
    rw [Bool.and_eq_true, decide_eq_true_eq] at c
    rw [bI B, F.1.1, ifa, if_neg (nI_ge (show i < A.2.1 by omega) (by omega)), e_bnd (X6_holds (by omega) (by omega)), tb_if, c.1, if_pos rfl, bR7 B, bA5 B i7, F.2.2.2.2.2 i i7, nI_shl1 (by omega), nI_wo (by omega) (by omega), nI_wo (by omega) (by omega), ifa, if_neg (fun q => c.2 ((ST i (by omega)).mp q))]
    unfold cq
    rw [e]
    rfl
  · rw [Nat.zero_add, bI B, F.1.1, ifa, if_pos (nI_le (Nat.le_refl _) (by omega))]
    unfold cq
    rw [e]
    rfl
theorem X7_isClique {h : HP} {s : Nat} {A : AV} (R : RefOk h.2) (F : ModIs h A) (G : GoodA A) (hs : s < 2 ^ A.2.1) : cv 6 110 (f_X7_isClique 110 (nI s)) h = some (if cq A s = true then 1 else 0, h) := by
  have hn := G.1.1
  have h7 := pow_le7 hn
  show f_X7_isClique 110 (nI s) h = _
  unfold f_X7_isClique
  have ST : ∀ i, i < A.2.1 → (nI (wo (wo s (2 ^ i)) (A.1 4 i)) = 0 ↔ wo (wo s (2 ^ i)) (A.1 4 i) = 0) := fun i hi => by
    have l1 : wo s (2 ^ i) < 2 ^ A.2.1 := wo_lt hs
    have l2 : wo (wo s (2 ^ i)) (A.1 4 i) < 2 ^ A.2.1 := wo_lt l1
    exact nI_eq (b := 0) (by omega) (by omega)
  refine lp_first (fun i => cqP A s i = true) 0 A.2.1 (by omega) (fun i _ hi c k => ?_) (fun i _ hi c e k => ?_) (fun e k => ?_)
  · have i7 : i < 7 := by omega
    have lp := pow_lt31 i7
    have g4 := (G.2 i i7).2.2.2.2
    have l1 : wo s (2 ^ i) < 2 ^ A.2.1 := wo_lt hs
    rw [g110_8, F.1.1, ifa, if_neg (nI_ge (show i < A.2.1 by omega) (by omega)), e_bnd (X7_has (by omega) (by omega)), tb_if, nI_1]
    unfold cqP at c
    cases z : tb s i
    · rfl
    · rw [if_pos rfl, g110_5 R, a116 i7, F.2.2.2.2.2 i i7, nI_shl1 (by omega), nI_wo (by omega) (by omega), nI_wo (by omega) (by omega), ifa, if_pos ((ST i (by omega)).mpr (Classical.byContradiction fun q => c (by rw [z]; simp [q])))]
  · have i7 : i < 7 := by omega
    have lp := pow_lt31 i7
    have g4 := (G.2 i i7).2.2.2.2
    have l1 : wo s (2 ^ i) < 2 ^ A.2.1 := wo_lt hs
    unfold cqP at c
    rw [Bool.and_eq_true, decide_eq_true_eq] at c
    rw [g110_8, F.1.1, ifa, if_neg (nI_ge (show i < A.2.1 by omega) (by omega)), e_bnd (X7_has (by omega) (by omega)), tb_if, c.1, if_pos rfl, g110_5 R, a116 i7, F.2.2.2.2.2 i i7, nI_shl1 (by omega), nI_wo (by omega) (by omega), nI_wo (by omega) (by omega), ifa, if_neg (fun q => c.2 ((ST i (by omega)).mp q))]
    unfold cq
    rw [e]
    rfl
  · rw [Nat.zero_add, g110_8, F.1.1, ifa, if_pos (nI_le (Nat.le_refl _) (by omega))]
    unfold cq
    rw [e]
    rfl
def clG (A : AV) (i b : Nat) : Nat := if cq A (i + 1) = true ∧ pop b 8 < pop (i + 1) 8 then i + 1 else b
def clB (A : AV) (i : Nat) : Nat := fold (clG A) i 0
theorem clB_s (A : AV) (i : Nat) : clB A (i + 1) = clG A i (clB A i) := rfl
theorem clB_le (A : AV) (i : Nat) : clB A i ≤ i := by
  induction i with
  | zero => exact Nat.le_refl 0
  | succ i ih =>
    rw [clB_s]
    unfold clG
    split <;> omega
def cqS (A : AV) : Int32 := nI (clB A (2 ^ A.2.1 - 1))
theorem QX_clique {h : HP} {A : AV} (R : RefOk h.2) (F : FolkIs h 2 A) (G : GoodA A) : wp (f_X6_clique 0) h fun v h' => v = cqS A ∧ Same GX h h' := by
  have hn := G.1.1
  have h7 := pow_le7 hn
  have h0 := Nat.two_pow_pos A.2.1
  have B := FB.of R (b := 2) (by decide)
  unfold f_X6_clique
  refine wp_eq (x_gr0 R) (wp_eq (bC B) (wp_call (X0_everybody B F.1.1 hn) ?_))
  refine ⟨_, h, ?_, rfl, Same.rfl'⟩
  refine lp_pure (s := fun i => (nI (clB A i), nI (i + 1))) (2 ^ A.2.1 - 1) (nf_lt (by omega)) (fun i hi k => ?_) (fun k => ?_)
  · have l := clB_le A i
    have p1 := pop_le (i + 1) 8
    have p2 := pop_le (clB A i) 8
    dsimp only
    rw [ifa, if_neg (show ¬ nI (2 ^ A.2.1 - 1) < nI (i + 1) from fun q => absurd ((nI_ltI (by omega) (by omega)).mp q) (by omega)), x_gr0 R, e_bnd (X0_allAsk R F G (by omega)), ifa, one_if, nI_1, clB_s]
    unfold clG
    by_cases c : cq A (i + 1) = true
    · rw [if_pos c, e_bnd (J6_bits (show i + 1 < 2 ^ 8 by omega)), e_bnd (J6_bits (show clB A i < 2 ^ 8 by omega)), ifa]
      by_cases d : pop (clB A i) 8 < pop (i + 1) 8
      · rw [if_neg (fun q => absurd ((nI_leI (by omega) (by omega)).mp q) (by omega)), if_pos ⟨c, d⟩]
      · rw [if_pos ((nI_leI (by omega) (by omega)).mpr (by omega)), if_neg (fun q => d q.2)]
    · rw [if_neg c, if_neg (fun q => c q.1)]
  · dsimp only
    rw [ifa, if_pos (show nI (2 ^ A.2.1 - 1) < nI (2 ^ A.2.1 - 1 + 1) from (nI_ltI (by omega) (by omega)).mpr (by omega))]
    rfl
theorem QY_clique {h : HP} {A : AV} (R : RefOk h.2) (F : ModIs h A) (G : GoodA A) : wp (f_X7_clique 110) h fun v h' => v = cqS A ∧ LvY h h' := by
  have hn := G.1.1
  have h7 := pow_le7 hn
  have h0 := Nat.two_pow_pos A.2.1
  unfold f_X7_clique
  refine ⟨_, h, ?_, rfl, LvY.rf⟩
  refine lp_pure (s := fun i => (nI (clB A i), nI (i + 1))) (2 ^ A.2.1 - 1) (nf_lt (by omega)) (fun i hi k => ?_) (fun k => ?_)
  · have l := clB_le A i
    have p1 := pop_le (i + 1) 8
    have p2 := pop_le (clB A i) 8
    dsimp only
    rw [c110, e_bnd (X7_all F.1.1 hn), ifa, if_neg (show ¬ nI (2 ^ A.2.1 - 1) < nI (i + 1) from fun q => absurd ((nI_ltI (by omega) (by omega)).mp q) (by omega)), e_bnd (X7_isClique R F G (by omega)), ifa, one_if, nI_1, clB_s]
    unfold clG
    by_cases c : cq A (i + 1) = true
    · rw [if_pos c, e_bnd (X7_bits7 (show i + 1 < 2 ^ A.2.1 by omega) (by omega)), e_bnd (X7_bits7 (show clB A i < 2 ^ A.2.1 by omega) (by omega)), ifa]
      by_cases d : pop (clB A i) 8 < pop (i + 1) 8
      · rw [if_neg (fun q => absurd ((nI_leI (by omega) (by omega)).mp q) (by omega)), if_pos ⟨c, d⟩]
      · rw [if_pos ((nI_leI (by omega) (by omega)).mpr (by omega)), if_neg (fun q => d q.2)]
    · rw [if_neg c, if_neg (fun q => c q.1)]
  · dsimp only
    rw [c110, e_bnd (X7_all F.1.1 hn), ifa, if_pos (show nI (2 ^ A.2.1 - 1) < nI (2 ^ A.2.1 - 1 + 1) from (nI_ltI (by omega) (by omega)).mpr (by omega))]
    rfl
