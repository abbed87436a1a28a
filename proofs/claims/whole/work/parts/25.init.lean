/-! THE LAW'S TWO OBJECTS: the constructors, run by the kernel -/
def hpE : HP := (fun _ _ => 0, fun _ _ => none)
def hp1 : HP := (setR hpE.1 0 (fun _ => 0), setR hpE.2 0 (fun _ => none))
def rx1 : Option RS := exF meths 4000 none eX6_init 0 [some (.ref 0)] [] 0 0 [(0, 5)] hp1
def hp2 : HP := (rx1.map fun r => r.2.2.2.2).getD hpE
set_option maxRecDepth 100000 in
theorem rx1_is : rx1.map (fun r => (r.1, r.2.1, r.2.2.1, r.2.2.2.1)) = some (none, 109, 1566, SHF.take 110) := by decide +kernel
theorem rx1_eq : rx1 = some (none, 109, 1566, SHF.take 110, hp2) := by
  have h := rx1_is
  unfold hp2
  cases hr : rx1 with
  | none => rw [hr] at h; cases h
  | some r =>
    rw [hr] at h
    obtain ⟨a, b, c, d, e⟩ := r
    simp only [Option.map_some, Option.some.injEq, Prod.mk.injEq] at h
    obtain ⟨rfl, rfl, rfl, rfl⟩ := h
    rfl
def hp3 : HP := (setR hp2.1 110 (fun _ => 0), setR hp2.2 110 (fun _ => none))
def rx2 : Option RS := exF meths 4000 none eX7_init 0 [some (.ref 110)] [] 0 0 (SHF.take 110 ++ [(0, 6)]) hp3
def HP0 : HP := (rx2.map fun r => r.2.2.2.2).getD hpE
set_option maxRecDepth 100000 in
theorem rx2_is : rx2.map (fun r => (r.1, r.2.1, r.2.2.1, r.2.2.2.1)) = some (none, 20, 4225, SHF) := by decide +kernel
theorem rx2_eq : rx2 = some (none, 20, 4225, SHF, HP0) := by
  have h := rx2_is
  unfold HP0
  cases hr : rx2 with
  | none => rw [hr] at h; cases h
  | some r =>
    rw [hr] at h
    obtain ⟨a, b, c, d, e⟩ := r
    simp only [Option.map_some, Option.some.injEq, Prod.mk.injEq] at h
    obtain ⟨rfl, rfl, rfl, rfl⟩ := h
    rfl
/-- what the heap holds then: every number 0 (in the first places of each row), every reference as the layout says -/
def refsOf (i : Nat) : List Nat := match i with
  | 0 => [1, 13, 25, 0, 37, 44, 102, 104, 0, 105, 106, 107, 108, 109]
  | 1 => [2, 9]
  | 13 => [14, 21]
  | 25 => [26, 33]
  | 9 => [10, 11, 12]
  | 21 => [22, 23, 24]
  | 33 => [34, 35, 36]
  | 44 => [0, 45]
  | 45 => [46, 53, 60, 67, 74, 81, 88, 95]
  | 102 => [0, 103]
  | 110 => [111, 112, 113, 114, 115, 116, 117, 118, 0, 0, 119, 120, 121, 122, 0, 0, 0, 123, 0, 0, 0, 0, 124, 125, 126, 0, 127, 128, 129, 130]
  | b => if SHF[b]? = some (0, 0) then [0, 0, 0, b + 1, b + 2, b + 3, b + 4, b + 5, b + 6] else []
set_option maxRecDepth 100000 in
theorem hp0_int : ((List.range 131).all fun i => (List.range 16).all fun k => decide (HP0.1 i k = 0)) = true := by decide +kernel
set_option maxRecDepth 100000 in
theorem hp0_ref : ((List.range 131).all fun i => (List.range 30).all fun k => decide ((refsOf i).getD k 0 = 0 ∨ HP0.2 i k = some ((refsOf i).getD k 0))) = true := by decide +kernel
/-! the law's first instructions -/
def Rg (scr : Option (Nat × (Nat → Int32))) (me : ME) (j : Nat) (L : List (Option Value)) (st : List Value) (cs sl : Nat) (sh : SH) (hp : HP) (res : RS) : Prop := ∃ n, exF meths n scr me j L st cs sl sh hp = some res
theorem Rg.prim {scr : Option (Nat × (Nat → Int32))} {me : ME} {j : Nat} {L : List (Option Value)} {st : List Value} {cs sl : Nat} {sh : SH} {hp : HP} {res : RS} {e : EI} {q : CF} (he : (mCode me)[j]? = some e) (h1 : isRet e.2.1 = false) (h2 : isCall e.2.1 e.2.2.2.1 = false) (hp1 : prim (mRoom me) scr e j L st cs sl sh hp = some q) (h : Rg scr me q.1 q.2.1 q.2.2.1 q.2.2.2.1 q.2.2.2.2.1 q.2.2.2.2.2.1 q.2.2.2.2.2.2 res) : Rg scr me j L st cs sl sh hp res := by
  obtain ⟨n, hn⟩ := h
  refine ⟨n + 1, ?_⟩
  simp only [exF, he, Option.bind_some, h1, h2, Bool.false_eq_true, if_false, hp1]
  exact hn
theorem Rg.call {scr : Option (Nat × (Nat → Int32))} {me : ME} {j : Nat} {L : List (Option Value)} {st : List Value} {cs sl : Nat} {sh : SH} {hp : HP} {res : RS} {e : EI} {me' : ME} {r : RS} {N : Nat} (he : (mCode me)[j]? = some e) (h1 : isRet e.2.1 = false) (h2 : isCall e.2.1 e.2.2.2.1 = true) (hm : meths[e.2.2.1]? = some me') (hok : callOk (mRoom me) e.2.1 me' st cs sl sh = true)
    (hf : exF meths N none me' 0 (loc0 me' st) [] 0 0 sh hp = some r) (k : Rg scr me (j + 1) L (r.1.toList ++ st.drop (mArgs me')) (cs + (mRoom me').cells) (sl + (mRoom me').slots) r.2.2.2.1 r.2.2.2.2 res) : Rg scr me j L st cs sl sh hp res := by
  obtain ⟨n, hn⟩ := k
  refine ⟨N + n + 1, ?_⟩
  have g1 := exF_mono N n hf
  have g2 := exF_mono n N hn
  rw [Nat.add_comm n N] at g2
  simp only [exF, he, Option.bind_some, h1, h2, Bool.false_eq_true, if_false, if_true, hm, hok, g1]
  exact g2
set_option maxRecDepth 100000 in
set_option maxHeartbeats 4000000 in
theorem law_init (scr : Option (Nat × (Nat → Int32))) (vr : Int32) (hr : HP) (h : Rn scr 131 5835 eL_law 10 [some (.ref SCR), some (.ref 0), some (.ref 110), some (.int (0 : Int32))] [] HP0 (eI vr, hr)) : Rg scr eL_law 0 [some (.ref SCR), none, none, none] [] 0 0 [] hpE (some (.int vr), 131, 5835, SHF, hr) := by
  refine Rg.prim (q := (1, [some (.ref SCR), none, none, none], [.ref 0], 1, 14, [(0, 5)], hp1)) rfl rfl rfl (by simp only [prim]; exact if_pos ⟨Nat.le_of_ble_eq_true rfl, Nat.le_of_ble_eq_true rfl, by decide +kernel⟩) ?_
  refine Rg.prim (q := (2, [some (.ref SCR), none, none, none], [.ref 0, .ref 0], 1, 14, [(0, 5)], hp1)) rfl rfl rfl rfl ?_
  refine Rg.call (N := 4000) (r := (none, 109, 1566, SHF.take 110, hp2)) (me' := eX6_init) rfl rfl rfl rfl rfl rx1_eq ?_
  refine Rg.prim (q := (4, [some (.ref SCR), some (.ref 0), none, none], [], 110, 1580, SHF.take 110, hp2)) rfl rfl rfl rfl ?_
  refine Rg.prim (q := (5, [some (.ref SCR), some (.ref 0), none, none], [.ref 110], 111, 1610, SHF.take 110 ++ [(0, 6)], hp3)) rfl rfl rfl rfl ?_
  refine Rg.prim (q := (6, [some (.ref SCR), some (.ref 0), none, none], [.ref 110, .ref 110], 111, 1610, SHF.take 110 ++ [(0, 6)], hp3)) rfl rfl rfl rfl ?_
  refine Rg.call (N := 4000) (r := (none, 20, 4225, SHF, HP0)) (me' := eX7_init) rfl rfl rfl rfl rfl rx2_eq ?_
  refine Rg.prim (q := (8, [some (.ref SCR), some (.ref 0), some (.ref 110), none], [], 131, 5835, SHF, HP0)) rfl rfl rfl rfl ?_
  refine Rg.prim (q := (9, [some (.ref SCR), some (.ref 0), some (.ref 110), none], [.int (0 : Int32)], 131, 5835, SHF, HP0)) rfl rfl rfl rfl ?_
  refine Rg.prim (q := (10, [some (.ref SCR), some (.ref 0), some (.ref 110), some (.int (0 : Int32))], [], 131, 5835, SHF, HP0)) rfl rfl rfl rfl ?_
  exact h
