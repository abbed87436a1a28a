/-! PAIRS -/
def sh (b : Option Nat) (z : Int32) : Int32 := match b with
  | none => z
  | some d => nI d
def bt (b : Option Nat) (d : Nat) : Bool := match b with
  | none => true
  | some e => decide (e < d)
def prG (A : AV) (p q : Nat) (s : Int32 × Option Nat) : Int32 × Option Nat := if tb (A.1 4 p) q = true ∧ tb (A.1 4 q) p = true ∧ bt s.2 (ds (A.1 3 p) (A.1 3 q)) = true then (10 * nI p + nI q, some (ds (A.1 3 p) (A.1 3 q))) else s
def prI (A : AV) (p j : Nat) (s : Int32 × Option Nat) : Int32 × Option Nat := fold (fun j => prG A p (p + 1 + j)) j s
def prF (A : AV) (i : Nat) : Int32 × Option Nat := fold (fun p => prI A p (A.2.1 - (p + 1))) i (-9, none)
def prS (A : AV) : Int32 := (prF A A.2.1).1
def d99 (s : Int32 × Option Nat) : Prop := ∀ d, s.2 = some d → d ≤ 99
theorem prG_99 {A : AV} (G : GoodA A) {p q : Nat} (hp : p < 7) (hq : q < 7) {s : Int32 × Option Nat} (h : d99 s) : d99 (prG A p q s) := by
  unfold prG
  split
  · intro d e
    have e : some (ds (A.1 3 p) (A.1 3 q)) = some d := e
    have := (G.2 p hp).2.2.2.1
    have := (G.2 q hq).2.2.2.1
    cases e
    unfold ds
    omega
  · exact h
theorem prI_99 {A : AV} (G : GoodA A) {p j : Nat} (hp : p + 1 + j ≤ 7) {s : Int32 × Option Nat} (h : d99 s) : d99 (prI A p j s) := by
  induction j with
  | zero => exact h
  | succ j ih => exact prG_99 G (by omega) (by omega) (ih (by omega))
theorem prF_99 {A : AV} (G : GoodA A) {i : Nat} (hi : i ≤ A.2.1) : d99 (prF A i) := by
  have hn := G.1.1
  induction i with
  | zero =>
    intro d e
    cases e
  | succ i ih => exact prI_99 G (by omega) (ih (by omega))
theorem prF_s (A : AV) (i : Nat) : prF A (i + 1) = prI A i (A.2.1 - (i + 1)) (prF A i) := rfl
theorem prI_s (A : AV) (p j : Nat) (s : Int32 × Option Nat) : prI A p (j + 1) s = prG A p (p + 1 + j) (prI A p j s) := rfl
theorem shb_lt {b : Option Nat} {d : Nat} {z : Int32} (hz : z < 0) (hb : ∀ e, b = some e → e ≤ 99) (hd : d ≤ 99) : (sh b z < nI d ↔ bt b d = true) ∧ (nI d ≤ sh b z ↔ ¬ bt b d = true) := by
  have A1 : sh b z < nI d ↔ bt b d = true := by
    cases b with
    | none =>
      show z < nI d ↔ true = true
      refine ⟨fun _ => rfl, fun _ => ?_⟩
      have h0 := nI_toInt (n := d) (by omega)
      rw [Int32.lt_iff_toInt_lt] at hz ⊢
      have : (0 : Int32).toInt = 0 := rfl
      omega
    | some e =>
      have := hb e rfl
      show nI e < nI d ↔ decide (e < d) = true
      rw [nI_ltI (by omega) (by omega), decide_eq_true_eq]
  refine ⟨A1, ?_⟩
  rw [← A1]
  exact Int32.not_lt.symm
theorem QX_pairs {h : HP} {A : AV} (R : RefOk h.2) (F : FolkIs h 2 A) (G : GoodA A) : wp (f_X6_pairs 0) h fun v h' => v = prS A ∧ Same GX h h' := by
  have hn := G.1.1
  have h7 := pow_le7 hn
  have B := FB.of R (b := 2) (by decide)
  unfold f_X6_pairs
  refine wp_eq (x_gr0 R) ?_
  refine ⟨_, h, ?_, rfl, Same.rfl'⟩
  refine lp_pure (s := fun i => ((prF A i).1, sh (prF A i).2 (-9), nI i)) A.2.1 (nf_lt (by omega)) (fun i hi k => ?_) (fun k => ?_)
  · have l0 := prF_99 G (i := i) (by omega)
    rw [prF_s]
    generalize prF A i = s at l0 ⊢
    dsimp only
    rw [bI B, F.1.1, ifa, if_neg (nI_ge hi (by omega)), nI_1]
    refine lp_pure (s := fun j => ((prI A i j s).1, sh (prI A i j s).2 (-9), nI (i + 1 + j))) (A.2.1 - (i + 1)) (nf_lt (by omega)) (fun j hj k2 => ?_) (fun k2 => ?_)
    · have l1 := prI_99 G (p := i) (j := j) (by omega) l0
      rw [prI_s]
      generalize prI A i j s = s at l1 ⊢
      have q7 : i + 1 + j < 7 := by omega
      rw [show i + 1 + (j + 1) = i + 1 + j + 1 by omega]
      have hq : i + 1 + j < A.2.1 := by omega
      generalize i + 1 + j = q at q7 hq ⊢
      have i7 : i < 7 := by omega
      have g1 := (G.2 i i7).2.2.2.2
      have g2 := (G.2 q q7).2.2.2.2
      have b1 := (G.2 i i7).2.2.2.1
      have b2 := (G.2 q q7).2.2.2.1
      have sl := (shb_lt (b := s.2) (d := ds (A.1 3 i) (A.1 3 q)) (z := -9) (by decide) l1 (by unfold ds; omega)).2
      dsimp only
      rw [bI B, F.1.1, ifa, if_neg (nI_ge hq (by omega)), bR7 B, bA5 B i7, F.2.2.2.2.2 i i7, e_bnd (X6_holds (by omega) (by omega)), nI_1]
      unfold jn prG
      dsimp only
      rw [tb_if]
      cases z1 : tb (A.1 4 i) q
      · rw [if_neg (by decide), if_pos rfl, if_neg (fun q => by cases q.1)]
      · rw [if_pos rfl, bR7 B, bA5 B q7, F.2.2.2.2.2 q q7, e_bnd (X6_holds (by omega) (by omega)), tb_if]
        cases z2 : tb (A.1 4 q) i
        · rw [if_neg (by decide), if_pos rfl, if_neg (fun q => by cases q.2.1)]
        · rw [if_pos rfl, if_neg (show ¬ (1 : Int32) = 0 by decide), bC B, e_bnd (X0_apart B F G i7 q7), ifa]
          cases z3 : bt s.2 (ds (A.1 3 i) (A.1 3 q))
          · rw [if_pos (sl.mpr (by rw [z3]; decide)), if_neg (fun q => by cases q.2.2)]
          · rw [if_neg (fun q => sl.mp q z3), if_pos ⟨rfl, rfl, rfl⟩, bC B, e_bnd (X0_apart B F G i7 q7)]
            rfl
    · dsimp only
      rw [bI B, F.1.1, ifa, if_pos (nI_le (by omega) (by omega))]
  · dsimp only
    rw [bI B, F.1.1, ifa, if_pos (nI_le (Nat.le_refl _) (by omega))]
    rfl
theorem QY_pairs {h : HP} {A : AV} (R : RefOk h.2) (F : ModIs h A) (G : GoodA A) : wp (f_X7_pairs 110) h fun v h' => v = prS A ∧ LvY h h' := by
  have hn := G.1.1
  have h7 := pow_le7 hn
  unfold f_X7_pairs
  refine ⟨_, h, ?_, rfl, LvY.rf⟩
  refine lp_pure (s := fun i => ((prF A i).1, sh (prF A i).2 (-1), nI i)) A.2.1 (nf_lt (by omega)) (fun i hi k => ?_) (fun k => ?_)
  · have l0 := prF_99 G (i := i) (by omega)
    rw [prF_s]
    generalize prF A i = s at l0 ⊢
    dsimp only
    rw [g110_8, F.1.1, ifa, if_neg (nI_ge hi (by omega)), nI_1]
    refine lp_pure (s := fun j => ((prI A i j s).1, sh (prI A i j s).2 (-1), nI (i + 1 + j))) (A.2.1 - (i + 1)) (nf_lt (by omega)) (fun j hj k2 => ?_) (fun k2 => ?_)
    · have l1 := prI_99 G (p := i) (j := j) (by omega) l0
      rw [prI_s]
      generalize prI A i j s = s at l1 ⊢
      have q7 : i + 1 + j < 7 := by omega
      rw [show i + 1 + (j + 1) = i + 1 + j + 1 by omega]
      have hq : i + 1 + j < A.2.1 := by omega
      generalize i + 1 + j = q at q7 hq ⊢
      have i7 : i < 7 := by omega
      have g1 := (G.2 i i7).2.2.2.2
      have g2 := (G.2 q q7).2.2.2.2
      have b1 := (G.2 i i7).2.2.2.1
      have b2 := (G.2 q q7).2.2.2.1
      have sl := (shb_lt (b := s.2) (d := ds (A.1 3 i) (A.1 3 q)) (z := -1) (by decide) l1 (by unfold ds; omega)).1
      dsimp only
      rw [g110_8, F.1.1, ifa, if_neg (nI_ge hq (by omega)), g110_5 R, a116 i7, F.2.2.2.2.2 i i7, e_bnd (X7_has (by omega) (by omega)), nI_1]
      unfold prG
      rw [tb_if]
      cases z1 : tb (A.1 4 i) q
      · rw [if_neg (by decide), if_neg (fun q => by cases q.1)]
      · rw [if_pos rfl, g110_5 R, a116 q7, F.2.2.2.2.2 q q7, e_bnd (X7_has (by omega) (by omega)), tb_if]
        cases z2 : tb (A.1 4 q) i
        · rw [if_neg (by decide), if_neg (fun q => by cases q.2.1)]
        · rw [if_pos rfl, g110_4 R, a115 i7, F.2.2.2.2.1 i i7, g110_4 R, a115 q7, F.2.2.2.2.1 q q7, e_bnd (X7_far (by omega) (by omega)), ifa]
          cases z3 : bt s.2 (ds (A.1 3 i) (A.1 3 q))
          · rw [if_neg (fun q => by have := sl.mp q; rw [z3] at this; cases this), if_neg (fun q => by cases q.2.2)]
          · rw [if_pos (sl.mpr z3), if_pos ⟨rfl, rfl, rfl⟩, g110_4 R, a115 i7, F.2.2.2.2.1 i i7, g110_4 R, a115 q7, F.2.2.2.2.1 q q7, e_bnd (X7_far (by omega) (by omega))]
            rfl
    · dsimp only
      rw [g110_8, F.1.1, ifa, if_pos (nI_le (by omega) (by omega))]
  · dsimp only
    rw [g110_8, F.1.1, ifa, if_pos (nI_le (Nat.le_refl _) (by omega))]
    rfl
