/-! REFUSALS, AND THE WHOLE STATE -/
def pn (n : Nat) (x : Int32) : Bool := decide (¬ x < 0) && decide (¬ nI n ≤ x)
def ob (x lo hi : Int32) : Int32 := if lo ≤ x then if x ≤ hi then 0 else -6 else -4
def ob2 (x xm y yl ym : Int32) : Int32 := if x < 0 then -4 else if yl ≤ y then if xm < x then -6 else if y ≤ ym then 0 else -6 else -4
def fs (a b : Int32) : Int32 := if a = 0 then b else a
theorem pn_ix {n : Nat} {x : Int32} (h : pn n x = true) (hn : n < 2 ^ 31) : ∃ k, k < n ∧ x = nI k := by
  unfold pn at h
  simp only [Bool.and_eq_true, decide_eq_true_eq] at h
  rcases pk_ix x hn with q | q | q
  · exact absurd q h.1
  · exact absurd q h.2
  · exact q
theorem pn_nI {n k : Nat} (h : k < n) (hn : n < 2 ^ 31) : pn n (nI k) = true := by
  unfold pn
  rw [decide_eq_true (nI_pos (by omega)), decide_eq_true (nI_ge h hn)]
  rfl
theorem X0_has {h : HP} {b n : Nat} {x : Int32} (H : FB h.2 b) (e : h.1 b 0 = nI n) : f_X0_has b x h = some (if pn n x then 1 else 0, h) := by
  unfold f_X0_has pn
  simp only [ifa, bI H, e]
  by_cases c : x < 0
  · simp [c, retZ]
  · by_cases d : nI n ≤ x
    · simp [c, d, retZ]
    · simp [c, d, retZ]
theorem X7_isPerson {h : HP} {n : Nat} {x : Int32} (e : h.1 110 8 = nI n) : f_X7_isPerson 110 x h = some (if pn n x then 1 else 0, h) := by
  unfold f_X7_isPerson pn
  simp only [ifa, g110_8, e]
  by_cases c : x < 0
  · simp [c, retZ]
  · by_cases d : nI n ≤ x
    · simp [c, d, retZ]
    · simp [c, d, retZ]
theorem X6_isPlace {h : HP} {x : Int32} : f_X6_isPlace x h = some (if pn 8 x then 1 else 0, h) := by
  unfold f_X6_isPlace pn
  simp only [ifa, n8]
  by_cases c : x < 0
  · simp [c, retZ]
  · by_cases d : nI 8 ≤ x
    · simp [c, d, retZ]
    · simp [c, d, retZ]
theorem X7_isPlace {h : HP} {x : Int32} : f_X7_isPlace x h = some (if pn 8 x then 1 else 0, h) := by
  unfold f_X7_isPlace pn
  simp only [ifa, n8]
  by_cases c : x < 0
  · simp [c, retZ]
  · by_cases d : nI 8 ≤ x
    · simp [c, d, retZ]
    · simp [c, d, retZ]
theorem X6_noPerson {h : HP} {n : Nat} {x : Int32} (R : RefOk h.2) (e : h.1 2 0 = nI n) : f_X6_noPerson 0 x h = some (if pn n x then 0 else -1, h) := by
  have B2 : FB h.2 2 := FB.of R (by decide)
  unfold f_X6_noPerson
  rw [g0_0 R, g1_0 R, bC B2, e_bnd (X0_has B2 e), tb_if]
  cases pn n x <;> rfl
theorem X6_noTwo {h : HP} {n : Nat} {x y : Int32} (R : RefOk h.2) (e : h.1 2 0 = nI n) : f_X6_noTwo 0 x y h = some (if pn n x && pn n y && decide (¬ x = y) then 0 else -1, h) := by
  have B2 : FB h.2 2 := FB.of R (by decide)
  unfold f_X6_noTwo
  rw [g0_0 R, g1_0 R, bC B2, e_bnd (X0_has B2 e), tb_if]
  cases pn n x
  · rfl
  · simp only [if_true]
    rw [g0_0 R, g1_0 R, bC B2, e_bnd (X0_has B2 e), tb_if]
    cases pn n y
    · rfl
    · by_cases c : x = y
      · simp [c, rt]
      · simp [c, rt]
theorem X7_areTwo {h : HP} {n : Nat} {x y : Int32} (e : h.1 110 8 = nI n) : f_X7_areTwo 110 x y h = some (if pn n x && pn n y && decide (¬ x = y) then 1 else 0, h) := by
  unfold f_X7_areTwo
  rw [c110, e_bnd (X7_isPerson e), tb_if]
  cases pn n x
  · rfl
  · simp only [if_true]
    rw [c110, e_bnd (X7_isPerson e), tb_if]
    cases pn n y
    · rfl
    · by_cases c : x = y
      · simp [c, retZ]
      · simp [c, retZ]
theorem X6_noPlace {h : HP} {x : Int32} : f_X6_noPlace x h = some (if pn 8 x then 0 else -1, h) := by
  unfold f_X6_noPlace
  rw [e_bnd X6_isPlace, tb_if]
  cases pn 8 x <;> rfl
theorem X6_noPlaces {h : HP} {x y : Int32} : f_X6_noPlaces x y h = some (if pn 8 x && pn 8 y then 0 else -1, h) := by
  unfold f_X6_noPlaces
  rw [e_bnd X6_isPlace, tb_if]
  cases pn 8 x
  · rfl
  · simp only [if_true]
    rw [e_bnd X6_isPlace, tb_if]
    cases pn 8 y <;> rfl
theorem X6_noChoice {h : HP} {m : Nat} {x : Int32} : f_X6_noChoice x (nI m) h = some (if pn m x then 0 else -2, h) := by
  unfold f_X6_noChoice pn
  simp only [ifa]
  by_cases c : x < 0
  · simp [c, rt]
  · by_cases d : nI m ≤ x
    · simp [c, d, rt]
    · simp [c, d, rt]
theorem lt_le {m : Nat} {x : Int32} (hm : m + 1 < 2 ^ 31) : (nI m < x) = (nI (m + 1) ≤ x) := by
  rw [Int32.lt_iff_toInt_lt, Int32.le_iff_toInt_le, nI_toInt (by omega), nI_toInt hm]
  simp only [eq_iff_iff]
  omega
theorem X7_isIn {h : HP} {m : Nat} {x : Int32} (hm : m + 1 < 2 ^ 31) : f_X7_isIn x (0 : Int32) (nI m) h = some (if pn (m + 1) x then 1 else 0, h) := by
  unfold f_X7_isIn pn
  simp only [ifa, lt_le hm]
  by_cases c : x < 0
  · simp [c, retZ]
  · by_cases d : nI (m + 1) ≤ x
    · simp [c, d, retZ]
    · simp [c, d, retZ]
theorem X6_outside {h : HP} {x lo hi : Int32} : f_X6_outside x lo hi h = some (ob x lo hi, h) := by
  unfold f_X6_outside ob
  simp only [ifa, rt]
  repeat' split
  all_goals rfl
theorem X7_bound {h : HP} {x lo hi : Int32} : f_X7_bound x lo hi h = some (ob x lo hi, h) := by
  unfold f_X7_bound ob
  simp only [ifa, rt]
  repeat' split
  all_goals rfl
theorem X7_notWeeks {h : HP} {x : Int32} : f_X7_notWeeks x h = some (ob x 0 60, h) := by
  unfold f_X7_notWeeks
  rw [e_bnd X7_bound]
  rfl
theorem X6_outside2 {h : HP} {x xm y yl ym : Int32} : f_X6_outside_ x xm y yl ym h = some (ob2 x xm y yl ym, h) := by
  unfold f_X6_outside_ ob2
  simp only [ifa, rt]
  repeat' split
  all_goals rfl
theorem X6_first {h : HP} {a b : Int32} : f_X6_first a b h = some (fs a b, h) := by
  unfold f_X6_first fs
  simp only [ifa, rt]
  split <;> rfl
theorem ob_ix {x : Int32} {lo hi : Nat} (h : ob x (nI lo) (nI hi) = 0) (hh : hi < 2 ^ 31) (hl : lo ≤ hi) : ∃ k, lo ≤ k ∧ k ≤ hi ∧ x = nI k := by
  unfold ob at h
  split at h
  · rename_i a
    split at h
    · rename_i b
      rcases pk_ix x (n := hi + 1) (by
        have : hi + 1 ≤ 2 ^ 31 := hh
        rcases Nat.lt_or_ge (hi + 1) (2 ^ 31) with q | q
        · exact q
        · exfalso
          have : hi = 2 ^ 31 - 1 := by omega
          subst this
          revert a b
          sorry) with q | q | ⟨k, hk, q⟩
      · sorry
      · sorry
      · subst q
        exact ⟨k, (nI_leI (by omega) (by omega)).mp a, by omega, rfl⟩
    · cases h
  · cases h
