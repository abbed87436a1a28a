/-! REFUSALS, AND THE WHOLE STATE -/
def pn (n : Nat) (x : Int32) : Bool := decide (¬ x < 0) && decide (¬ nI n ≤ x)
def ob (x lo hi : Int32) : Int32 := if lo ≤ x then if x ≤ hi then 0 else -6 else -4
def ob2 (x xm y yl ym : Int32) : Int32 := if x < 0 then -4 else if yl ≤ y then if xm < x then -6 else if y ≤ ym then 0 else -6 else -4
def fs (a b : Int32) : Int32 := if a = 0 then b else a
theorem pn_ix {n : Nat} {x : Int32} (h : pn n x = true) (hn : n < 2 ^ 31) : ∃ k, k < n ∧ x = nI k := by
  unfold pn at h
  simp only [Bool.and_eq_true, decide_eq_true_eq] at h
  rcases pk_ix x hn with q | q | q
  · exact absurd q h.1
  · exact absurd q h.2
  · exact q
theorem pn_nI {n k : Nat} (h : k < n) (hn : n < 2 ^ 31) : pn n (nI k) = true := by
  unfold pn
  rw [decide_eq_true (nI_pos (by omega)), decide_eq_true (nI_ge h hn)]
  rfl
theorem X0_has {h : HP} {b n : Nat} {x : Int32} (H : FB h.2 b) (e : h.1 b 0 = nI n) : f_X0_has b x h = some (if pn n x then 1 else 0, h) := by
  unfold f_X0_has pn
  simp only [ifa, bI H, e]
  by_cases c : x < 0
  · simp [c, retZ]
  · by_cases d : nI n ≤ x
    · simp [c, d, retZ]
    · simp [c, d, retZ]
theorem X7_isPerson {h : HP} {n : Nat} {x : Int32} (e : h.1 110 8 = nI n) : f_X7_isPerson 110 x h = some (if pn n x then 1 else 0, h) := by
  unfold f_X7_isPerson pn
  simp only [ifa, g110_8, e]
  by_cases c : x < 0
  · simp [c, retZ]
  · by_cases d : nI n ≤ x
    · simp [c, d, retZ]
    · simp [c, d, retZ]
theorem X6_isPlace {h : HP} {x : Int32} : f_X6_isPlace x h = some (if pn 8 x then 1 else 0, h) := by
  unfold f_X6_isPlace pn
  simp only [ifa, n8]
  by_cases c : x < 0
  · simp [c, retZ]
  · by_cases d : nI 8 ≤ x
    · simp [c, d, retZ]
    · simp [c, d, retZ]
theorem X7_isPlace {h : HP} {x : Int32} : f_X7_isPlace x h = some (if pn 8 x then 1 else 0, h) := by
  unfold f_X7_isPlace pn
  simp only [ifa, n8]
  by_cases c : x < 0
  · simp [c, retZ]
  · by_cases d : nI 8 ≤ x
    · simp [c, d, retZ]
    · simp [c, d, retZ]
theorem X6_noPerson {h : HP} {n : Nat} {x : Int32} (R : RefOk h.2) (e : h.1 2 0 = nI n) : f_X6_noPerson 0 x h = some (if pn n x then 0 else -1, h) := by
  have B2 : FB h.2 2 := FB.of R (by decide)
  unfold f_X6_noPerson
  rw [g0_0 R, g1_0 R, bC B2, e_bnd (X0_has B2 e), tb_if]
  cases pn n x <;> rfl
theorem X6_noTwo {h : HP} {n : Nat} {x y : Int32} (R : RefOk h.2) (e : h.1 2 0 = nI n) : f_X6_noTwo 0 x y h = some (if pn n x && pn n y && decide (¬ x = y) then 0 else -1, h) := by
  have B2 : FB h.2 2 := FB.of R (by decide)
  unfold f_X6_noTwo
  rw [g0_0 R, g1_0 R, bC B2, e_bnd (X0_has B2 e), tb_if]
  cases pn n x
  · rfl
  · simp only [if_true]
    rw [g0_0 R, g1_0 R, bC B2, e_bnd (X0_has B2 e), tb_if]
    cases pn n y
    · rfl
    · by_cases c : x = y
      · simp [c, rt]
      · simp [c, rt]
theorem X7_areTwo {h : HP} {n : Nat} {x y : Int32} (e : h.1 110 8 = nI n) : f_X7_areTwo 110 x y h = some (if pn n x && pn n y && decide (¬ x = y) then 1 else 0, h) := by
  unfold f_X7_areTwo
  rw [c110, e_bnd (X7_isPerson e), tb_if]
  cases pn n x
  · rfl
  · simp only [if_true]
    rw [c110, e_bnd (X7_isPerson e), tb_if]
    cases pn n y
    · rfl
    · by_cases c : x = y
      · simp [c, retZ]
      · simp [c, retZ]
theorem X6_noPlace {h : HP} {x : Int32} : f_X6_noPlace x h = some (if pn 8 x then 0 else -1, h) := by
  unfold f_X6_noPlace
  rw [e_bnd X6_isPlace, tb_if]
  cases pn 8 x <;> rfl
theorem X6_noPlaces {h : HP} {x y : Int32} : f_X6_noPlaces x y h = some (if pn 8 x && pn 8 y then 0 else -1, h) := by
  unfold f_X6_noPlaces
  rw [e_bnd X6_isPlace, tb_if]
  cases pn 8 x
  · rfl
  · simp only [if_true]
    rw [e_bnd X6_isPlace, tb_if]
    cases pn 8 y <;> rfl
theorem X6_noChoice {h : HP} {m : Nat} {x : Int32} : f_X6_noChoice x (nI m) h = some (if pn m x then 0 else -2, h) := by
  unfold f_X6_noChoice pn
  simp only [ifa]
  by_cases c : x < 0
  · simp [c, rt]
  · by_cases d : nI m ≤ x
    · simp [c, d, rt]
    · simp [c, d, rt]
theorem lt_le {m : Nat} {x : Int32} (hm : m + 1 < 2 ^ 31) : (nI m < x) = (nI (m + 1) ≤ x) := by
  rw [Int32.lt_iff_toInt_lt, Int32.le_iff_toInt_le, nI_toInt (by omega), nI_toInt hm]
  simp only [eq_iff_iff]
  omega
theorem X7_isIn {h : HP} {m : Nat} {x : Int32} (hm : m + 1 < 2 ^ 31) : f_X7_isIn x (0 : Int32) (nI m) h = some (if pn (m + 1) x then 1 else 0, h) := by
  unfold f_X7_isIn pn
  simp only [ifa, lt_le hm]
  by_cases c : x < 0
  · simp [c, retZ]
  · by_cases d : nI (m + 1) ≤ x
    · simp [c, d, retZ]
    · simp [c, d, retZ]
theorem X6_outside {h : HP} {x lo hi : Int32} : f_X6_outside x lo hi h = some (ob x lo hi, h) := by
  unfold f_X6_outside ob
  simp only [ifa, rt]
  repeat' split
  all_goals rfl
theorem X7_bound {h : HP} {x lo hi : Int32} : f_X7_bound x lo hi h = some (ob x lo hi, h) := by
  unfold f_X7_bound ob
  simp only [ifa, rt]
  repeat' split
  all_goals rfl
theorem X7_notWeeks {h : HP} {x : Int32} : f_X7_notWeeks x h = some (ob x 0 60, h) := by
  unfold f_X7_notWeeks
  rw [e_bnd X7_bound]
  rfl
theorem X6_outside2 {h : HP} {x xm y yl ym : Int32} : f_X6_outside_ x xm y yl ym h = some (ob2 x xm y yl ym, h) := by
  unfold f_X6_outside_ ob2
  simp only [ifa, rt]
  repeat' split
  all_goals rfl
theorem X6_first {h : HP} {a b : Int32} : f_X6_first a b h = some (fs a b, h) := by
  unfold f_X6_first fs
  simp only [ifa, rt]
  split <;> rfl
theorem ob_ix {x : Int32} {lo hi : Nat} (h : ob x (nI lo) (nI hi) = 0) (hh : hi + 1 < 2 ^ 31) (hl : lo ≤ hi) : ∃ k, lo ≤ k ∧ k ≤ hi ∧ x = nI k := by
  unfold ob at h
  split at h
  · rename_i a
    split at h
    · rename_i b
      rcases pk_ix x hh with q | q | ⟨k, hk, q⟩
      · exfalso
        rw [Int32.lt_iff_toInt_lt] at q
        rw [Int32.le_iff_toInt_le, nI_toInt (by omega)] at a
        have : (0 : Int32).toInt = 0 := rfl
        omega
      · exfalso
        rw [Int32.le_iff_toInt_le, nI_toInt hh] at q
        rw [Int32.le_iff_toInt_le, nI_toInt (by omega)] at b
        omega
      · subst q
        exact ⟨k, (nI_leI (by omega) (by omega)).mp a, by omega, rfl⟩
    · cases h
  · cases h
/-! refusals -/
def ix (x : Int32) : Nat := x.toNatClampNeg
theorem ix_nI {k : Nat} (h : k < 2 ^ 31) : ix (nI k) = k := nI_clamp h
def np (n : Nat) (x : Int32) : Int32 := if pn n x then 0 else -1
def nc (n : Nat) (x : Int32) : Int32 := if pn n x then 0 else -2
def n2p (n : Nat) (x y : Int32) : Int32 := if pn n x && pn n y && decide (¬ x = y) then 0 else -1
theorem fs_z {a b : Int32} (h : fs a b = 0) : a = 0 ∧ b = 0 := by
  unfold fs at h
  split at h
  · exact ⟨by assumption, h⟩
  · contradiction
theorem np_ix {n : Nat} {x : Int32} (h : np n x = 0) (hn : n < 2 ^ 31) : ∃ k, k < n ∧ x = nI k := by
  unfold np at h
  split at h
  · exact pn_ix (by assumption) hn
  · cases h
theorem nc_ix {n : Nat} {x : Int32} (h : nc n x = 0) (hn : n < 2 ^ 31) : ∃ k, k < n ∧ x = nI k := by
  unfold nc at h
  split at h
  · exact pn_ix (by assumption) hn
  · cases h
theorem n2p_ix {n : Nat} {x y : Int32} (h : n2p n x y = 0) (hn : n < 2 ^ 31) : ∃ j k, j < n ∧ k < n ∧ x = nI j ∧ y = nI k ∧ ¬ j = k := by
  unfold n2p at h
  split at h
  · rename_i q
    simp only [Bool.and_eq_true, decide_eq_true_eq] at q
    obtain ⟨⟨a, b⟩, c⟩ := q
    obtain ⟨j, hj, rfl⟩ := pn_ix a hn
    obtain ⟨k, hk, rfl⟩ := pn_ix b hn
    exact ⟨j, k, hj, hk, rfl, rfl, fun e => c (by rw [e])⟩
  · cases h
theorem ob2_ix {x y : Int32} {xm yl ym : Nat} (h : ob2 x (nI xm) y (nI yl) (nI ym) = 0) (hx : xm + 1 < 2 ^ 31) (hy : ym + 1 < 2 ^ 31) (hl : yl ≤ ym) : (∃ k, k ≤ xm ∧ x = nI k) ∧ ∃ k, yl ≤ k ∧ k ≤ ym ∧ y = nI k := by
  unfold ob2 at h
  split at h
  · cases h
  · rename_i a
    split at h
    · rename_i b
      split at h
      · cases h
      · rename_i c
        split at h
        · rename_i d
          constructor
          · obtain ⟨k, -, hk, e⟩ := ob_ix (x := x) (lo := 0) (hi := xm) (by
              unfold ob
              rw [if_pos (show nI 0 ≤ x from Int32.not_lt.mp a), if_pos (Int32.not_lt.mp c)]) hx (Nat.zero_le _)
            exact ⟨k, hk, e⟩
          · exact ob_ix (x := y) (lo := yl) (hi := ym) (by
              unfold ob
              rw [if_pos b, if_pos d]) hy hl
        · cases h
    · cases h
def IsNo (c : Int32) : Prop := c = -1 ∨ c = -2 ∨ c = -3 ∨ c = -4 ∨ c = -6
def Rf (b : Nat) (h : HP) (c : Int32) : HP := (setR h.1 b (upd (h.1 b) (ix (-c)) (h.1 b (ix (-c)) + 1)), h.2)
theorem IsNo.k {c : Int32} (h : IsNo c) : ∃ k, k < 7 ∧ -c = nI k := by
  rcases h with rfl | rfl | rfl | rfl | rfl
  · exact ⟨1, by decide, by decide⟩
  · exact ⟨2, by decide, by decide⟩
  · exact ⟨3, by decide, by decide⟩
  · exact ⟨4, by decide, by decide⟩
  · exact ⟨6, by decide, by decide⟩
theorem X6_refuse {h : HP} {c : Int32} (R : RefOk h.2) (hc : IsNo c) : f_X6_refuse 0 c h = some (c, Rf 105 h c) := by
  obtain ⟨k, hk, e⟩ := hc.k
  unfold f_X6_refuse Rf
  rw [e, ix_nI (by omega), if_neg (nI_pos (by omega)), g0_9 R, l105, if_neg (nI_ge hk (by decide)), g0_9 R, a105 hk, s105 hk]
  rfl
theorem X7_no {h : HP} {c : Int32} (R : RefOk h.2) (hc : IsNo c) : f_X7_no 110 c h = some (c, Rf 111 h c) := by
  obtain ⟨k, hk, e⟩ := hc.k
  unfold f_X7_no Rf
  rw [e, ix_nI (by omega), g110_0 R, a111 hk, s111 hk]
  rfl
theorem X7_lower {h : HP} {c : Int32} (R : RefOk h.2) (hc : IsNo c) : f_X7_lower 110 c h = some (1000000000 - c, Rf 111 h c) := by
  obtain ⟨k, hk, e⟩ := hc.k
  unfold f_X7_lower Rf
  rw [e, ix_nI (by omega), g110_0 R, a111 hk, s111 hk]
  rfl
theorem ob_no {x a b : Int32} : ob x a b = 0 ∨ IsNo (ob x a b) := by
  unfold ob IsNo
  repeat' split
  all_goals simp
theorem ob2_no {x a y b c : Int32} : ob2 x a y b c = 0 ∨ IsNo (ob2 x a y b c) := by
  unfold ob2 IsNo
  repeat' split
  all_goals simp
theorem np_no {n : Nat} {x : Int32} : np n x = 0 ∨ IsNo (np n x) := by
  unfold np IsNo
  split
  all_goals simp
theorem nc_no {n : Nat} {x : Int32} : nc n x = 0 ∨ IsNo (nc n x) := by
  unfold nc IsNo
  split
  all_goals simp
theorem n2p_no {n : Nat} {x y : Int32} : n2p n x y = 0 ∨ IsNo (n2p n x y) := by
  unfold n2p IsNo
  split
  all_goals simp
theorem fs_no {a b : Int32} (ha : a = 0 ∨ IsNo a) (hb : b = 0 ∨ IsNo b) : fs a b = 0 ∨ IsNo (fs a b) := by
  unfold fs
  split
  · exact hb
  · exact ha
/-! what a query leaves -/
def GX (a : Nat) : Prop := a = 12 ∨ (14 ≤ a ∧ a ≤ 20) ∨ (37 ≤ a ∧ a ≤ 43) ∨ (106 ≤ a ∧ a ≤ 109)
def OutX (h : HP) (nm am : Int32) (v : Int32) (h' : HP) : Prop := (nm = 0 ∧ v = am ∧ Same GX h h') ∨ (IsNo nm ∧ v = nm ∧ h' = Rf 105 h nm)
def OutY (h : HP) (nm am : Int32) (v : Int32) (h' : HP) : Prop := (nm = 0 ∧ v = am ∧ LvY h h') ∨ (IsNo nm ∧ v = nm ∧ h' = Rf 111 h nm)
theorem gX {h : HP} {c am : Int32} {B : M Int32} (R : RefOk h.2) (hc : c = 0 ∨ IsNo c) (H : c = 0 → wp B h fun v h' => v = am ∧ Same GX h h') : wp (if c = 0 then B else bnd (cv 5 0 (f_X6_refuse 0 c)) fun t => rt t) h (OutX h c am) := by
  by_cases e : c = 0
  · rw [if_pos e]
    exact wp_mono (H e) fun v h' q => Or.inl ⟨e, q⟩
  · rw [if_neg e]
    have hn := hc.resolve_left e
    refine wp_call (show cv 5 0 (f_X6_refuse 0 c) h = some (c, Rf 105 h c) from X6_refuse R hn) (wp_rt (Or.inr ⟨hn, rfl, rfl⟩))
theorem gXn {h : HP} {c am : Int32} {B : M Int32} (R : RefOk h.2) (hc : c = 0 ∨ IsNo c) (H : c = 0 → wp B h fun v h' => v = am ∧ Same GX h h') : wp (if ¬ c = 0 then bnd (cv 5 0 (f_X6_refuse 0 c)) fun t => rt t else B) h (OutX h c am) := by
  rw [show (if ¬ c = 0 then bnd (cv 5 0 (f_X6_refuse 0 c)) fun t => rt t else B) = (if c = 0 then B else bnd (cv 5 0 (f_X6_refuse 0 c)) fun t => rt t) by by_cases e : c = 0 <;> simp [e]]
  exact gX R hc H
theorem gY {h : HP} {c am : Int32} {B : M Int32} (R : RefOk h.2) (hc : c = 0 ∨ IsNo c) (H : c = 0 → wp B h fun v h' => v = am ∧ LvY h h') : wp (if c = 0 then B else bnd (cv 6 110 (f_X7_no 110 c)) fun t => rt t) h (OutY h c am) := by
  by_cases e : c = 0
  · rw [if_pos e]
    exact wp_mono (H e) fun v h' q => Or.inl ⟨e, q⟩
  · rw [if_neg e]
    have hn := hc.resolve_left e
    refine wp_call (show cv 6 110 (f_X7_no 110 c) h = some (c, Rf 111 h c) from X7_no R hn) (wp_rt (Or.inr ⟨hn, rfl, rfl⟩))
theorem gYn {h : HP} {c am : Int32} {B : M Int32} (R : RefOk h.2) (hc : c = 0 ∨ IsNo c) (H : c = 0 → wp B h fun v h' => v = am ∧ LvY h h') : wp (if ¬ c = 0 then bnd (cv 6 110 (f_X7_no 110 c)) fun t => rt t else B) h (OutY h c am) := by
  rw [show (if ¬ c = 0 then bnd (cv 6 110 (f_X7_no 110 c)) fun t => rt t else B) = (if c = 0 then B else bnd (cv 6 110 (f_X7_no 110 c)) fun t => rt t) by by_cases e : c = 0 <;> simp [e]]
  exact gY R hc H
/-! folds -/
def fold {α : Type} (g : Nat → α → α) : Nat → α → α
  | 0, a => a
  | n + 1, a => g n (fold g n a)
theorem lp_fold {β α : Type} {B : α × Int32 → (α × Int32 → M β) → M β} {h : HP} {z : Option (β × HP)} (g : Nat → α → α) (n : Nat) {a0 : α} (hn : n < 1000000) (step : ∀ i, i < n → ∀ a k, B (a, nI i) k h = k (g i a, nI i + 1) h) (fin : ∀ k, B (fold g n a0, nI n) k h = z) : loopK NF B (a0, 0) h = z :=
  lp_pure (s := fun i => (fold g i a0, nI i)) n (nf_lt hn) (fun i hi k => by
    refine (step i hi _ k).trans ?_
    rw [nI_1]
    rfl) fin
/-- the first that is so -/
def fnd (P : Nat → Prop) [DecidablePred P] : Nat → Nat → Option Nat
  | 0, _ => none
  | d + 1, i => if P i then some i else fnd P d (i + 1)
theorem fnd_none {P : Nat → Prop} [DecidablePred P] {d i : Nat} (h : fnd P d i = none) : ∀ j, i ≤ j → j < i + d → ¬ P j := by
  induction d generalizing i with
  | zero => intro j h1 h2; omega
  | succ d ih =>
    unfold fnd at h
    split at h
    · cases h
    · rename_i c
      intro j h1 h2
      rcases Nat.eq_or_lt_of_le h1 with e | e
      · rw [← e]; exact c
      · exact ih h j e (by omega)
theorem fnd_some {P : Nat → Prop} [DecidablePred P] {d i m : Nat} (h : fnd P d i = some m) : (i ≤ m ∧ m < i + d) ∧ P m ∧ ∀ j, i ≤ j → j < m → ¬ P j := by
  induction d generalizing i with
  | zero => cases h
  | succ d ih =>
    unfold fnd at h
    split at h
    · rename_i c
      cases h
      exact ⟨⟨Nat.le_refl _, by omega⟩, c, fun j a b => by omega⟩
    · rename_i c
      obtain ⟨a, b, e⟩ := ih h
      refine ⟨⟨by omega, by omega⟩, b, fun j h1 h2 => ?_⟩
      rcases Nat.eq_or_lt_of_le h1 with e1 | e1
      · rw [← e1]; exact c
      · exact e j e1 h2
