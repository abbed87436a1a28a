/-! TOWN: the letters, their form, what each statement does -/
def dg (c : Nat) : Nat := if c = 97 then 2 else if c = 98 then 3 else if c = 103 then 2 else if c = 110 then 1 else if c = 112 then 4 else if c = 119 then 2 else 0
theorem dg_le (c : Nat) : dg c ≤ 4 := by
  unfold dg
  repeat' split
  all_goals omega
def sc (f : Nat → Nat) : Nat → Nat × Bool
  | 0 => (0, false)
  | i + 1 => if (sc f i).2 = true then if (sc f i).1 = 0 then (0, false) else ((sc f i).1 - 1, true) else (dg (f i), true)
theorem sc_s (f : Nat → Nat) (i : Nat) : sc f (i + 1) = if (sc f i).2 = true then if (sc f i).1 = 0 then (0, false) else ((sc f i).1 - 1, true) else (dg (f i), true) := rfl
def ft (f : Nat → Nat) (i : Nat) : Bool := if (sc f i).2 = true then if (sc f i).1 = 0 then !decide (f i = 59) else !(decide (48 ≤ f i) && decide (f i ≤ 57)) else decide (dg (f i) = 0)
def Ff (T : LV) : Option Nat := if T.1 = 0 then some 0 else match fnd (fun i => ft T.2 i = true) T.1 0 with
  | some i => some i
  | none => if (sc T.2 T.1).2 = true then some T.1 else none
theorem sc_le (f : Nat → Nat) (i : Nat) : (sc f i).1 ≤ 4 ∧ ((sc f i).2 = false → (sc f i).1 = 0) := by
  induction i with
  | zero => exact ⟨by show 0 ≤ 4; omega, fun _ => rfl⟩
  | succ i ih =>
    rw [sc_s]
    have := dg_le (f i)
    split
    · split
      · exact ⟨by show 0 ≤ 4; omega, fun _ => rfl⟩
      · exact ⟨by show (sc f i).1 - 1 ≤ 4; omega, fun q => by cases q⟩
    · exact ⟨this, fun q => by cases q⟩
theorem X1_digitsBehind {h : HP} {c : Nat} (hc : c ≤ 255) : f_X1_digitsBehind (nI c) h = some (if dg c = 0 then -9 else nI (dg c), h) := by
  have E : ∀ k, k ≤ 255 → (nI c = nI k) = (c = k) := fun k hk => eq_nI (by omega) (by omega)
  unfold f_X1_digitsBehind dg
  rw [ifa, ifa, ifa, ifa, ifa, ifa]
  by_cases c1 : c = 97
  · subst c1; rfl
  rw [if_neg (show ¬ nI c = 97 from fun q => c1 (Eq.mp (E 97 (by omega)) q)), if_neg c1]
  by_cases c2 : c = 98
  · subst c2; rfl
  rw [if_neg (show ¬ nI c = 98 from fun q => c2 (Eq.mp (E 98 (by omega)) q)), if_neg c2]
  by_cases c3 : c = 103
  · subst c3; rfl
  rw [if_neg (show ¬ nI c = 103 from fun q => c3 (Eq.mp (E 103 (by omega)) q)), if_neg c3]
  by_cases c4 : c = 110
  · subst c4; rfl
  rw [if_neg (show ¬ nI c = 110 from fun q => c4 (Eq.mp (E 110 (by omega)) q)), if_neg c4]
  by_cases c5 : c = 112
  · subst c5; rfl
  rw [if_neg (show ¬ nI c = 112 from fun q => c5 (Eq.mp (E 112 (by omega)) q)), if_neg c5]
  by_cases c6 : c = 119
  · subst c6; rfl
  rw [if_neg (show ¬ nI c = 119 from fun q => c6 (Eq.mp (E 119 (by omega)) q)), if_neg c6]
  rfl
def bI2 (b : Bool) : Int32 := if b = true then 1 else 0
theorem X1_fault {h : HP} {T : LV} (R : RefOk h.2) (H : LetX h T) (G : GoodT T) : cv 1 102 (f_X1_faultOfForm 102) h = some ((match Ff T with | some e => nI e | none => -9), h) := by
  have hn := G.1
  rw [e_cv sh102]
  unfold f_X1_faultOfForm Ff
  rw [g102_0, H.1, ifa]
  by_cases c0 : T.1 = 0
  · rw [c0, if_neg (show ¬ ¬ nI 0 = 0 from fun q => q rfl), if_pos rfl]
    rfl
  rw [if_pos (nI_ne0 (by omega) (by omega)), if_neg c0]
  refine lp_fst (s := fun i => (nI (sc T.2 i).1, bI2 (sc T.2 i).2, nI i)) (fun i => ft T.2 i = true) 0 T.1 (by omega) (fun i _ hi c k => ?_) (fun i _ hi c e k => ?_) (fun e k => ?_)
  · have hi : i < T.1 := by omega
    have l := (sc_le T.2 i).1
    have g := G.2 i hi
    have ld := dg_le (T.2 i)
    unfold ft at c
    dsimp only
    rw [g102_0, H.1, ifa, if_neg (nI_ge hi (by omega)), g102_1 R, a103 (by omega), H.2 i hi, ifa, nI_1, sc_s]
    cases z : (sc T.2 i).2
    · rw [z] at c
      simp only [Bool.false_eq_true, if_false, decide_eq_true_eq] at c
      rw [if_neg (show ¬ ¬ bI2 false = 0 from fun q => q rfl), e_bnd (X1_digitsBehind g), if_neg c, ifa, if_pos (m9_eq (by omega)), if_neg (by decide)]
      try rfl
    · rw [z] at c
      simp only [if_true] at c
      rw [if_pos (show ¬ bI2 true = 0 by decide), ifa, if_pos rfl]
      by_cases y : (sc T.2 i).1 = 0
      · rw [if_pos y] at c
        have c59 : T.2 i = 59 := by simpa using c
        rw [if_pos (show nI (sc T.2 i).1 ≤ 0 by rw [y]; decide), ifa, if_pos (show nI (T.2 i) = 59 by rw [c59]; rfl), if_pos y, y]
        try rfl
      · rw [if_neg y] at c
        have c4 : 48 ≤ T.2 i ∧ T.2 i ≤ 57 := by simpa using c
        rw [if_neg (show ¬ nI (sc T.2 i).1 ≤ 0 from nI_ge (b := (sc T.2 i).1) (a := 0) (by omega) (by omega)), ifa, if_neg (show ¬ nI (T.2 i) < 48 from fun q => absurd ((nI_ltI (b := 48) (by omega) (by omega)).mp q) (by omega)), ifa, if_pos (show nI (T.2 i) ≤ 57 from (nI_leI (b := 57) (by omega) (by omega)).mpr c4.2), if_neg y, show nI (sc T.2 i).1 + -1 = nI ((sc T.2 i).1 - 1) by
          have := nI_p1 ((sc T.2 i).1 - 1)
          rwa [show (sc T.2 i).1 - 1 + 1 = (sc T.2 i).1 by omega] at this]
        try rfl
  · have hi : i < T.1 := by omega
    have l := (sc_le T.2 i).1
    have g := G.2 i hi
    have ld := dg_le (T.2 i)
    rw [e]
    unfold ft at c
    dsimp only
    rw [g102_0, H.1, ifa, if_neg (nI_ge hi (by omega)), g102_1 R, a103 (by omega), H.2 i hi, ifa]
    cases z : (sc T.2 i).2
    · rw [z] at c
      simp only [Bool.false_eq_true, if_false, decide_eq_true_eq] at c
      rw [if_neg (show ¬ ¬ bI2 false = 0 from fun q => q rfl), e_bnd (X1_digitsBehind g), if_pos c, ifa, if_neg (show ¬ ¬ (-9 : Int32) = -9 from fun q => q rfl)]
      try rfl
    · rw [z] at c
      simp only [if_true] at c
      rw [if_pos (show ¬ bI2 true = 0 by decide), ifa]
      by_cases y : (sc T.2 i).1 = 0
      · rw [if_pos y] at c
        have c59 : ¬ T.2 i = 59 := by simpa using c
        rw [if_pos (show nI (sc T.2 i).1 ≤ 0 by rw [y]; decide), ifa, if_neg (show ¬ nI (T.2 i) = 59 from fun q => c59 ((nI_eq (b := 59) (by omega) (by omega)).mp q))]
        try rfl
      · rw [if_neg y] at c
        have c4 : ¬ (48 ≤ T.2 i ∧ T.2 i ≤ 57) := by
          intro q
          simp [q.1, q.2] at c
        rw [if_neg (show ¬ nI (sc T.2 i).1 ≤ 0 from nI_ge (b := (sc T.2 i).1) (a := 0) (by omega) (by omega)), ifa]
        by_cases w : T.2 i < 48
        · rw [if_pos (show nI (T.2 i) < 48 from (nI_ltI (b := 48) (by omega) (by omega)).mpr w)]
          rfl
        · rw [if_neg (show ¬ nI (T.2 i) < 48 from fun q => w ((nI_ltI (b := 48) (by omega) (by omega)).mp q)), ifa, if_neg (show ¬ nI (T.2 i) ≤ 57 from fun q => c4 ⟨by omega, (nI_leI (b := 57) (by omega) (by omega)).mp q⟩)]
          rfl
  · rw [e]
    dsimp only
    rw [g102_0, H.1, ifa, if_pos (nI_le (by omega) (by omega)), ifa, Nat.zero_add]
    cases z : (sc T.2 T.1).2
    · rw [if_pos (show bI2 false = 0 from rfl)]
      try rfl
    · rw [if_neg (show ¬ bI2 true = 0 by decide), g102_0, H.1]
      try rfl
/-- what a statement does with its numbers -/
def opV (c x y z : Nat) (s : AV × PV) : Option (AV × PV) :=
  if c = 97 then (if x < s.1.2.1 ∧ y < s.1.2.1 ∧ ¬ x = y then some (upA s.1 4 x (s.1.1 4 x ^^^ 2 ^ y), s.2) else none)
  else if c = 98 then (if x < s.1.2.1 then some (upA s.1 3 x y, s.2) else none)
  else if c = 103 then (if x < 8 ∧ y < 4 then some (s.1, hgP s.2 x y) else none)
  else if c = 112 then (if x < 6 ∧ s.1.2.1 < 7 then some (adA s.1 x y z, s.2) else none)
  else if c = 119 then (if x < 8 ∧ y < 8 ∧ ¬ x = y then some (s.1, jnP s.2 x y) else none)
  else (if s.1.2.2 + x ≤ 999 then some (wks s.1 x, s.2) else none)
theorem opV_good {c x y z : Nat} {s s' : AV × PV} (h : opV c x y z s = some s') (ga : GA s.1) (gp : GP' s.2) (hy : y ≤ 99) (hy2 : c = 112 → y ≤ 9) (hz : z ≤ 99) : GA s'.1 ∧ GP' s'.2 := by
  have hn := ga.1.1.1
  unfold opV at h
  by_cases c1 : c = 97
  · rw [if_pos c1] at h
    split at h
    · rename_i q
      cases h
      exact ⟨ga.up ⟨fun q => by omega, fun q => by omega, fun q => by omega, fun q => by omega, fun _ => Nat.xor_lt_two_pow (ga.1.2 x (by omega)).2.2.2.2 (pow_lt31 q.2.1)⟩, gp⟩
    · cases h
  rw [if_neg c1] at h
  by_cases c2 : c = 98
  · rw [if_pos c2] at h
    split at h
    · cases h
      exact ⟨ga.up ⟨fun q => by omega, fun q => by omega, fun q => by omega, fun _ => hy, fun q => by omega⟩, gp⟩
    · cases h
  rw [if_neg c2] at h
  by_cases c3 : c = 103
  · rw [if_pos c3] at h
    split at h
    · rename_i q
      cases h
      exact ⟨ga, hgP_good gp (by omega)⟩
    · cases h
  rw [if_neg c3] at h
  by_cases c4 : c = 112
  · rw [if_pos c4] at h
    split at h
    · rename_i q
      cases h
      exact ⟨adA_good ga q.2 (by omega) (hy2 c4) hz, gp⟩
    · cases h
  rw [if_neg c4] at h
  by_cases c5 : c = 119
  · rw [if_pos c5] at h
    split at h
    · rename_i q
      cases h
      exact ⟨ga, jnP_good gp q.1 q.2.1 q.2.2⟩
    · cases h
  rw [if_neg c5] at h
  split at h
  · rename_i q
    cases h
    have w := wks_w s.1 x
    exact ⟨⟨wks_good ga.1 x (by omega), by show (wks s.1 x).2.2 ≤ 999; omega⟩, gp⟩
  · cases h
def ax (f : Nat → Nat) (i : Nat) : Nat := f (i + 1) - 48
def ay (f : Nat → Nat) (i : Nat) : Nat := if f i = 98 then 10 * (f (i + 2) - 48) + (f (i + 3) - 48) else f (i + 2) - 48
def az (f : Nat → Nat) (i : Nat) : Nat := 10 * (f (i + 3) - 48) + (f (i + 4) - 48)
/-- well formed at i -/
def Wf (T : LV) (i : Nat) : Prop := i < T.1 ∧ ¬ dg (T.2 i) = 0 ∧ ∀ j, j < dg (T.2 i) → i + 1 + j < T.1 ∧ 48 ≤ T.2 (i + 1 + j) ∧ T.2 (i + 1 + j) ≤ 57
theorem X1_digit {h : HP} {T : LV} {i : Nat} (R : RefOk h.2) (H : LetX h T) (hn : T.1 ≤ 96) (hi : i < T.1) (h1 : 48 ≤ T.2 i) (h2 : T.2 i ≤ 57) : cv 1 102 (f_X1_digit 102 (nI i)) h = some (nI (T.2 i - 48), h) := by
  rw [e_cv sh102]
  unfold f_X1_digit
  rw [g102_0, H.1, ifa, if_neg (nI_ge hi (by omega)), g102_1 R, a103 (by omega), H.2 i hi, show (48 : Int32) = nI 48 from rfl, pk_sub h1]
  rfl
theorem X1_two {h : HP} {T : LV} {i : Nat} (R : RefOk h.2) (H : LetX h T) (hn : T.1 ≤ 96) (hi : i + 1 < T.1) (h1 : 48 ≤ T.2 i ∧ T.2 i ≤ 57) (h2 : 48 ≤ T.2 (i + 1) ∧ T.2 (i + 1) ≤ 57) : cv 1 102 (f_X1_twoDigits 102 (nI i)) h = some (nI (10 * (T.2 i - 48) + (T.2 (i + 1) - 48)), h) := by
  rw [e_cv sh102]
  unfold f_X1_twoDigits
  rw [e_bnd (X1_digit R H hn (by omega) h1.1 h1.2), nI_1, e_bnd (X1_digit R H hn hi h2.1 h2.2), show (10 : Int32) = nI 10 from rfl, pk_mul, nI_add]
  rfl
def TrX (h : HP) (o : Option (AV × PV)) (s : AV × PV) (v : Int32) (h' : HP) : Prop := ((o = none ∧ v = 0 ∧ FolkIs h' 14 s.1 ∧ PlB h' 21 s.2) ∨ ∃ s', o = some s' ∧ v = 1 ∧ FolkIs h' 14 s'.1 ∧ PlB h' 21 s'.2) ∧ Same (inT 13) h h'
theorem inT13 {h h' : HP} {a : Nat} (ha : 13 < a ∧ a ≤ 23) (S : Same (fun q => q = a) h h') : Same (inT 13) h h' := S.wide fun x q => by unfold inT; omega
