/-! THE ABSTRACT MACHINE IS THE MACHINE'S: worlds, locals, the steps within a method -/
/-- references as the machine has them: the cells stand one behind the other from 'base' on; the script is the cell sb -/
def tr (base sb : Nat) : Value → Value
  | .ref i => .ref (if i = SCR then sb else base + i)
  | v => v
theorem tr_cat (base sb : Nat) (v : Value) : (tr base sb v).category = v.category := by cases v <;> rfl
theorem tr_sum (base sb : Nat) (st : List Value) : ((st.map (tr base sb)).map fun v => v.category).sum = (st.map fun v => v.category).sum := by
  rw [List.map_map]
  congr 1
  exact List.map_congr_left fun v _ => tr_cat base sb v
def trv (base : Nat) (r : Option Nat) : Value := va_rf (r.map (base + ·))
theorem tr_rv (base sb : Nat) (r : Option Nat) (h : ¬ r = some SCR) : tr base sb (rv r) = trv base r := by
  cases r with
  | none => rfl
  | some i =>
    have hi : ¬ i = SCR := fun q => h (by rw [q])
    simp [tr, rv, trv, va_rf, hi]
/-- the field k of an object of class ci, as the machine has it -/
def fvl (base : Nat) (hp : HP) (ci o k : Nat) : Value := if kd ci k = 2 then trv base (hp.2 o k) else .int (hp.1 o k)
def cellI (base : Nat) (D : va_G) (cI cF : ClassId) (H : Heap) (sh : SH) (hp : HP) (i : Nat) : Prop := match sh[i]? with
  | some (0, ci) => ∃ r : vw_C, vwCl[ci]? = some r ∧ t_OB (base + i) (D.1 ci) r.2.2 (D.2 ci) H (fvl base hp ci i)
  | some (1, n) => H[base + i]? = some (arrV cI n (fun j => .int (hp.1 i j)))
  | some (2, n) => H[base + i]? = some (arrV cF n (fun j => trv base (hp.2 i j)))
  | _ => True
/-- no cell holds the script -/
def noS (hp : HP) : Prop := ∀ i k, ¬ hp.2 i k = some SCR
def Iv (base : Nat) (Hb : Heap) (D : va_G) (cI cF : ClassId) (H : Heap) (sh : SH) (hp : HP) : Prop :=
  H.size = base + sh.length ∧ sh.length ≤ SCR ∧ noS hp ∧ (∀ i, i < sh.length → cellI base D cI cF H sh hp i) ∧ ∀ q, q < base → H[q]? = Hb[q]?
def LsOk (base sb nL : Nat) (ls : Array Slot) (L : List (Option Value)) : Prop := L.length = nL ∧ ls.size = nL ∧ lv_wf ls ∧ ∀ (i : Nat) (v : Value), L[i]? = some (some v) → ls[i]? = some (.val (tr base sb v)) ∧ v.category = 1
def lvOf (base sb : Nat) (L : List (Option Value)) : List (Nat × Value) := (List.range L.length).filterMap fun i => match L[i]? with
  | some (some v) => some (i, tr base sb v)
  | _ => none
theorem lvOf_mem {base sb : Nat} {L : List (Option Value)} {i : Nat} {v : Value} (h : L[i]? = some (some v)) : (i, tr base sb v) ∈ lvOf base sb L := by
  refine List.mem_filterMap.mpr ⟨i, List.mem_range.mpr (List.getElem?_eq_some_iff.mp h).1, ?_⟩
  rw [h]
theorem lvOf_of {base sb : Nat} {L : List (Option Value)} {q : Nat × Value} (h : q ∈ lvOf base sb L) : ∃ v, L[q.1]? = some (some v) ∧ q.2 = tr base sb v := by
  obtain ⟨i, -, hi⟩ := List.mem_filterMap.mp h
  split at hi
  · rename_i v hv
    cases hi
    exact ⟨v, hv, rfl⟩
  · cases hi
theorem LsOk.has {base sb nL : Nat} {ls : Array Slot} {L : List (Option Value)} (h : LsOk base sb nL ls L) : lv_has ls nL (lvOf base sb L) := by
  refine ⟨h.2.1, h.2.2.1, fun q hq => ?_⟩
  obtain ⟨v, h1, h2⟩ := lvOf_of hq
  rw [h2]
  exact (h.2.2.2 _ _ h1).1
theorem LsOk.set {base sb nL : Nat} {ls ls' : Array Slot} {L : List (Option Value)} {i : Nat} {v : Value} (h : LsOk base sb nL ls L) (hv : v.category = 1)
    (h' : lv_has ls' nL ((i, tr base sb v) :: (lvOf base sb L).filter (fun q => !(q.1 == i) && !(q.1 + 1 == i && q.2.category == 2)))) : LsOk base sb nL ls' (L.set i (some v)) := by
  refine ⟨by rw [List.length_set]; exact h.1, h'.1, h'.2.1, fun k w hk => ?_⟩
  by_cases hki : k = i
  · subst hki
    have hl : k < L.length := by
      have := (List.getElem?_eq_some_iff.mp hk).1
      rw [List.length_set] at this
      exact this
    rw [List.getElem?_set_self hl] at hk
    cases hk
    exact ⟨h'.2.2 _ List.mem_cons_self, hv⟩
  · rw [List.getElem?_set_ne (Ne.symm hki)] at hk
    have hc := (h.2.2.2 _ _ hk).2
    refine ⟨h'.2.2 (k, tr base sb w) (List.mem_cons_of_mem _ (List.mem_filter.mpr ⟨lvOf_mem hk, ?_⟩)), hc⟩
    simp [hki, tr_cat, hc]
theorem LsOk.int {base sb nL : Nat} {ls : Array Slot} {L : List (Option Value)} {i : Nat} {x : Int32} (h : LsOk base sb nL ls L) (hx : locI L i = some x) : ls[i]? = some (.val (.int x)) := by
  unfold locI at hx
  split at hx
  · rename_i y hy
    cases hx
    exact (h.2.2.2 _ _ hy).1
  · cases hx
theorem LsOk.rf {base sb nL : Nat} {ls : Array Slot} {L : List (Option Value)} {i : Nat} {x : Nat} (h : LsOk base sb nL ls L) (hx : locR L i = some x) : ls[i]? = some (.val (.ref (if x = SCR then sb else base + x))) := by
  unfold locR at hx
  split at hx
  · rename_i y hy
    cases hx
    exact (h.2.2.2 _ _ hy).1
  · cases hx
/-! a cell changed, a cell made -/
theorem cellI.kept {base : Nat} {D : va_G} {cI cF : ClassId} {H H' : Heap} {sh sh' : SH} {hp hp' : HP} {i : Nat} (h : cellI base D cI cF H sh hp i) (hs : sh'[i]? = sh[i]?) (h1 : hp'.1 i = hp.1 i) (h2 : hp'.2 i = hp.2 i) (hH : H'[base + i]? = H[base + i]?) : cellI base D cI cF H' sh' hp' i := by
  unfold cellI at h ⊢
  rw [hs]
  split
  · rename_i ci hci
    rw [hci] at h
    obtain ⟨r, hr, ho⟩ := h
    refine ⟨r, hr, (ho.kept hH).to fun k _ => ?_⟩
    simp only [fvl, h1, h2]
  · rename_i n hn
    rw [hn] at h
    rw [hH, h1]
    exact h
  · rename_i n hn
    rw [hn] at h
    rw [hH, h2]
    exact h
  · trivial
theorem setR_ne {α : Type} (f : Nat → Nat → α) {i j : Nat} (r : Nat → α) (h : ¬ j = i) : setR f i r j = f j := by simp [setR, h]
theorem setR_eq {α : Type} (f : Nat → Nat → α) (i : Nat) (r : Nat → α) : setR f i r i = r := by simp [setR]
theorem Iv.put {base : Nat} {Hb : Heap} {D : va_G} {cI cF : ClassId} {H H' : Heap} {sh : SH} {hp hp' : HP} {o : Nat} (h : Iv base Hb D cI cF H sh hp) (ho : o < sh.length) (hS : noS hp')
    (hc : cellI base D cI cF H' sh hp' o) (h1 : ∀ i, ¬ i = o → hp'.1 i = hp.1 i) (h2 : ∀ i, ¬ i = o → hp'.2 i = hp.2 i) (hz : H'.size = H.size) (hq : ∀ q, q ≠ base + o → H'[q]? = H[q]?) : Iv base Hb D cI cF H' sh hp' := by
  obtain ⟨a1, a2, a3, a4, a5⟩ := h
  refine ⟨by rw [hz, a1], a2, hS, fun i hi => ?_, fun q hq1 => ?_⟩
  · by_cases hio : i = o
    · subst hio
      exact hc
    · exact (a4 i hi).kept rfl (h1 i hio) (h2 i hio) (hq _ (by omega))
  · rw [hq q (by omega)]
    exact a5 q hq1
theorem Iv.push {base : Nat} {Hb : Heap} {D : va_G} {cI cF : ClassId} {H H' : Heap} {sh : SH} {x : Nat × Nat} {hp hp' : HP} (h : Iv base Hb D cI cF H sh hp) (hl : sh.length < SCR) (hS : noS hp')
    (hc : cellI base D cI cF H' (sh ++ [x]) hp' sh.length) (h1 : ∀ i, ¬ i = sh.length → hp'.1 i = hp.1 i) (h2 : ∀ i, ¬ i = sh.length → hp'.2 i = hp.2 i) (hz : H'.size = H.size + 1) (hq : ∀ q, q < H.size → H'[q]? = H[q]?) : Iv base Hb D cI cF H' (sh ++ [x]) hp' := by
  obtain ⟨a1, a2, a3, a4, a5⟩ := h
  refine ⟨by rw [hz, a1, List.length_append, List.length_singleton]; omega, by rw [List.length_append, List.length_singleton]; omega, hS, fun i hi => ?_, fun q hq1 => ?_⟩
  · by_cases hio : i = sh.length
    · subst hio
      exact hc
    · rw [List.length_append, List.length_singleton] at hi
      have hi' : i < sh.length := by omega
      exact (a4 i hi').kept (List.getElem?_append_left hi') (h1 i hio) (h2 i hio) (hq _ (by omega))
  · rw [hq q (by omega)]
    exact a5 q hq1
/-! what the tables say of an instruction -/
def pcAt (code : List EI) (t : Nat) : Nat := match code[t]? with
  | some e => e.1
  | none => 0
def ilen (i : Instr) : Nat := match i with
  | .iload _ => 2
  | .aload _ => 2
  | .istore _ => 2
  | .astore _ => 2
  | .bipush _ => 2
  | .sipush _ => 3
  | .ldc _ => 2
  | .ldc_w _ => 3
  | .iinc _ _ => 3
  | .goto _ => 3
  | .ifCond _ _ => 3
  | .if_icmp _ _ => 3
  | .getfield _ => 3
  | .putfield _ => 3
  | .new _ => 3
  | .newarray _ => 2
  | .anewarray _ => 3
  | .invokevirtual _ => 3
  | .invokespecial _ => 3
  | .invokestatic _ => 3
  | _ => 1
/-- the pcs of an entry, by the bytes -/
def chkE (bs : ByteArray) (code : List EI) (nx : Nat) (e : EI) : Bool := match e.2.1 with
  | .tableswitch d lo hi offs => (match decode bs e.1 with
      | .ok q => decide (q.1 = .tableswitch d lo hi offs)
      | _ => false) && decide (lo ≤ hi ∧ offs.size = (hi - lo).toNat + 1) && decide ((d :: offs.toList).map (fun o => (e.1 : Int) + o) = e.2.2.2.2.map fun t => (pcAt code t : Int))
  | .lookupswitch d ps => (match decode bs e.1 with
      | .ok q => decide (q.1 = .lookupswitch d ps)
      | _ => false) && ((ps.toList.zip (ps.toList.drop 1)).all fun (a, next) => a.1 < next.1) && decide ((ps.toList.map (·.2) ++ [d]).map (fun o => (e.1 : Int) + o) = e.2.2.2.2.map fun t => (pcAt code t : Int))
  | .goto off => decide (decode bs e.1 = .ok (e.2.1, 3)) && decide ((e.1 : Int) + off = (pcAt code e.2.2.1 : Int))
  | .ifCond _ off => decide (decode bs e.1 = .ok (e.2.1, 3)) && decide ((e.1 : Int) + off = (pcAt code e.2.2.1 : Int)) && decide (nx = e.1 + 3)
  | .if_icmp _ off => decide (decode bs e.1 = .ok (e.2.1, 3)) && decide ((e.1 : Int) + off = (pcAt code e.2.2.1 : Int)) && decide (nx = e.1 + 3)
  | i => decide (decode bs e.1 = .ok (i, ilen i)) && (isRet i || decide (nx = e.1 + ilen i))
/-- a stretch of the code, with the pc that comes behind it -/
def chkS (bs : ByteArray) (code : List EI) (nx : Nat) : List EI → Bool
  | [] => true
  | e :: r => chkE bs code (match r with
    | [] => nx
    | e' :: _ => e'.1) e && chkS bs code nx r
def chkC (bs : ByteArray) (code : List EI) : Prop := pcAt code 0 = 0 ∧ ∀ (j : Nat) (e : EI), code[j]? = some e → chkE bs code (pcAt code (j + 1)) e = true
theorem chkS_at {bs : ByteArray} {code : List EI} {nx : Nat} : ∀ {l : List EI}, chkS bs code nx l = true → ∀ (j : Nat) (e : EI), l[j]? = some e → chkE bs code (match l[j + 1]? with
    | some e' => e'.1
    | none => nx) e = true := by
  intro l
  induction l with
  | nil => intro _ j e h; cases h
  | cons a r ih =>
    intro h j e hj
    simp only [chkS, Bool.and_eq_true] at h
    cases j with
    | zero =>
      cases hj
      cases r with
      | nil => exact h.1
      | cons b r => exact h.1
    | succ j => exact ih h.2 j e hj
theorem chkS_app {bs : ByteArray} {code : List EI} {nx : Nat} {b : EI} {l2 : List EI} : ∀ {l1 : List EI}, chkS bs code b.1 l1 = true → chkS bs code nx (b :: l2) = true → chkS bs code nx (l1 ++ b :: l2) = true := by
  intro l1
  induction l1 with
  | nil => intro _ h; exact h
  | cons a r ih =>
    intro h1 h2
    simp only [chkS, Bool.and_eq_true] at h1
    have h3 := ih h1.2 h2
    show chkS bs code nx (a :: (r ++ b :: l2)) = true
    simp only [chkS, Bool.and_eq_true]
    refine ⟨?_, h3⟩
    cases r with
    | nil => exact h1.1
    | cons c r => exact h1.1
theorem chkC_of {bs : ByteArray} {code : List EI} (h0 : pcAt code 0 = 0) (h : chkS bs code 0 code = true) : chkC bs code := ⟨h0, fun j e hj => by
  have := chkS_at h j e hj
  unfold pcAt
  exact this⟩
