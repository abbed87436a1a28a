/-! THE LINKS -/
theorem tbp (i : Nat) {w : Cond} (h : (k2_sels lw_privs)[i]? = some w ∧ goodWord w = true) : w ∈ tbG := List.mem_filter.mpr ⟨List.mem_append_left _ (List.mem_of_getElem? h.1), h.2⟩
theorem tb1 (i : Nat) {w : Cond} (h : tables_1_1[i]? = some w) (g : goodWord w = true) : w ∈ tbG := List.mem_filter.mpr ⟨List.mem_append_right _ (List.mem_append_left _ (List.mem_of_getElem? h)), g⟩
theorem tb2 (i : Nat) {w : Cond} (h : tables_1_2[i]? = some w) (g : goodWord w = true) : w ∈ tbG := List.mem_filter.mpr ⟨List.mem_append_right _ (List.mem_append_right _ (List.mem_append_left _ (List.mem_of_getElem? h))), g⟩
theorem tb3 (i : Nat) {w : Cond} (h : tables_1_3[i]? = some w) (g : goodWord w = true) : w ∈ tbG := List.mem_filter.mpr ⟨List.mem_append_right _ (List.mem_append_right _ (List.mem_append_right _ (List.mem_append_left _ (List.mem_of_getElem? h)))), g⟩
theorem tb4 (i : Nat) {w : Cond} (h : tables_1_4[i]? = some w) (g : goodWord w = true) : w ∈ tbG := List.mem_filter.mpr ⟨List.mem_append_right _ (List.mem_append_right _ (List.mem_append_right _ (List.mem_append_right _ (List.mem_append_left _ (List.mem_of_getElem? h))))), g⟩
theorem tb5 (i : Nat) {w : Cond} (h : tables_1_5[i]? = some w) (g : goodWord w = true) : w ∈ tbG := List.mem_filter.mpr ⟨List.mem_append_right _ (List.mem_append_right _ (List.mem_append_right _ (List.mem_append_right _ (List.mem_append_right _ (List.mem_append_left _ (List.mem_of_getElem? h)))))), g⟩
theorem tb6 (i : Nat) {w : Cond} (h : tables_1_6[i]? = some w) (g : goodWord w = true) : w ∈ tbG := List.mem_filter.mpr ⟨List.mem_append_right _ (List.mem_append_right _ (List.mem_append_right _ (List.mem_append_right _ (List.mem_append_right _ (List.mem_append_right _ (List.mem_of_getElem? h)))))), g⟩
theorem lkG {ms : List ME} {y : MethodName} {own C : String} {T : u_T} {N idx a b : Nat} (hc : vwCl[a]? = some (C, T, N)) (hb : b < N) (hw : Cond.fieldLink own idx (T b).1 (T b).2.1 (T b).2.2.1 ∈ tbG) (hy : y.cls = own) : LinkOK ms y (.getfield idx) a b := ⟨C, T, N, hc, hb, by rw [hy]; exact hw⟩
theorem lkP {ms : List ME} {y : MethodName} {own C : String} {T : u_T} {N idx a b : Nat} (hc : vwCl[a]? = some (C, T, N)) (hb : b < N) (hw : Cond.fieldLink own idx (T b).1 (T b).2.1 (T b).2.2.1 ∈ tbG) (hy : y.cls = own) (hf : (T b).2.2.2 = false) : LinkOK ms y (.putfield idx) a b := ⟨⟨C, T, N, hc, hb, by rw [hy]; exact hw⟩, fun C' T' N' h' h2 => by cases hc.symm.trans h'; rw [hf] at h2; cases h2⟩
theorem lkPi {ms : List ME} {y : MethodName} {own C : String} {T : u_T} {N idx a b : Nat} (hc : vwCl[a]? = some (C, T, N)) (hb : b < N) (hw : Cond.fieldLink own idx (T b).1 (T b).2.1 (T b).2.2.1 ∈ tbG) (hy : y.cls = own) (hf : (T b).1 = own) (hn : y.name = "<init>") : LinkOK ms y (.putfield idx) a b := ⟨⟨C, T, N, hc, hb, by rw [hy]; exact hw⟩, fun C' T' N' h' h2 => by cases hc.symm.trans h'; exact ⟨by rw [hf, hy], hn⟩⟩
theorem lkN {ms : List ME} {y : MethodName} {own C : String} {T : u_T} {N idx a b : Nat} (hc : vwCl[a]? = some (C, T, N)) (h1 : Cond.classLink own idx C ∈ tbG) (h2 : Cond.instantiable C N ∈ tbG) (h3 : Cond.initialized C ∈ tbG) (hy : y.cls = own) : LinkOK ms y (.new idx) a b := ⟨C, T, N, hc, by rw [hy]; exact h1, h2, h3⟩
theorem lkA {ms : List ME} {y : MethodName} {own : String} {idx a b : Nat} (h1 : Cond.classLink own idx RX0 ∈ tbG) (hy : y.cls = own) : LinkOK ms y (.anewarray idx) a b := by
  show Cond.classLink y.cls idx RX0 ∈ tbG
  rw [hy]; exact h1
theorem lkC {ms : List ME} {y : MethodName} {own : String} {idx a b : Nat} (h1 : Cond.constant own idx (Int32.ofNat a) ∈ tbG) (hy : y.cls = own) : LinkOK ms y (.ldc idx) a b := by
  show Cond.constant y.cls idx (Int32.ofNat a) ∈ tbG
  rw [hy]; exact h1
theorem lkW {ms : List ME} {y : MethodName} {own : String} {idx a b : Nat} (h1 : Cond.constant own idx (Int32.ofNat a) ∈ tbG) (hy : y.cls = own) : LinkOK ms y (.ldc_w idx) a b := by
  show Cond.constant y.cls idx (Int32.ofNat a) ∈ tbG
  rw [hy]; exact h1
theorem lkO {ms : List ME} {y : MethodName} {own : String} {idx a : Nat} (h1 : Cond.methodLink own idx Lib.objectInit ∈ tbG) (hy : y.cls = own) : LinkOK ms y (.invokespecial idx) a 1 := ⟨fun _ => by rw [hy]; exact h1, fun h => by cases h⟩
theorem lkMabs {ms : List ME} {y : MethodName} {own : String} {idx a : Nat} (h1 : Cond.methodLink own idx Lib.Math.abs.name ∈ tbG) (hy : y.cls = own) : LinkOK ms y (.invokestatic idx) a 3 := ⟨⟨fun h => (by cases h), fun _ => (by rw [hy]; exact h1), fun h => (by cases h), fun h => (by cases h)⟩, fun h => by cases h⟩
theorem lkMmax {ms : List ME} {y : MethodName} {own : String} {idx a : Nat} (h1 : Cond.methodLink own idx Lib.Math.max.name ∈ tbG) (hy : y.cls = own) : LinkOK ms y (.invokestatic idx) a 4 := ⟨⟨fun h => (by cases h), fun h => (by cases h), fun _ => (by rw [hy]; exact h1), fun h => (by cases h)⟩, fun h => by cases h⟩
theorem lkMmin {ms : List ME} {y : MethodName} {own : String} {idx a : Nat} (h1 : Cond.methodLink own idx Lib.Math.min.name ∈ tbG) (hy : y.cls = own) : LinkOK ms y (.invokestatic idx) a 5 := ⟨⟨fun h => (by cases h), fun h => (by cases h), fun h => (by cases h), fun _ => (by rw [hy]; exact h1)⟩, fun h => by cases h⟩
theorem lkY {ms : List ME} {y : MethodName} {own : String} {idx a : Nat} (h1 : Cond.methodLink own idx arraycopyName ∈ tbG) (hy : y.cls = own) : LinkOK ms y (.invokestatic idx) a 2 := ⟨⟨fun _ => (by rw [hy]; exact h1), fun h => (by cases h), fun h => (by cases h), fun h => (by cases h)⟩, fun h => by cases h⟩
theorem lkV {ms : List ME} {y : MethodName} {own : String} {idx a b : Nat} {e : ME} (h : ms[a]? = some e) (h1 : LinkNOK own idx (mName e)) (h2 : Cond.initialized (mName e).cls ∈ tbG) (h3 : Cond.instanceMethod (mName e) ∈ tbG) (h4 : Cond.selects (mName e).cls (mName e) (mName e) ∈ tbG) (h5 : ¬ mCls e = 99) (hy : y.cls = own) : LinkOK ms y (.invokevirtual idx) a b := ⟨⟨e, h, by rw [hy]; exact h1, h2⟩, fun me' h' => by cases h.symm.trans h'; exact ⟨h3, h4, h5⟩⟩
theorem lkI {ms : List ME} {y : MethodName} {own : String} {idx a : Nat} {e : ME} (h : ms[a]? = some e) (h1 : LinkNOK own idx (mName e)) (h2 : Cond.initialized (mName e).cls ∈ tbG) (h3 : Cond.instanceMethod (mName e) ∈ tbG) (h4 : (mName e).name = "<init>") (h6 : mRet e = none) (h5 : ¬ mCls e = 99) (hy : y.cls = own) : LinkOK ms y (.invokespecial idx) a 0 := ⟨fun h => (by cases h), fun _ => ⟨⟨e, h, by rw [hy]; exact h1, h2⟩, fun me' h' => by cases h.symm.trans h'; exact ⟨h3, h4, h6, h5⟩⟩⟩
theorem lkS {ms : List ME} {y : MethodName} {own : String} {idx a : Nat} {e : ME} (h : ms[a]? = some e) (h1 : LinkNOK own idx (mName e)) (h2 : Cond.initialized (mName e).cls ∈ tbG) (h3 : Cond.static (mName e) ∈ tbG) (h5 : mCls e = 99) (hy : y.cls = own) : LinkOK ms y (.invokestatic idx) a 0 := ⟨⟨fun h => (by cases h), fun h => (by cases h), fun h => (by cases h), fun h => (by cases h)⟩, fun _ => ⟨⟨e, h, by rw [hy]; exact h1, h2⟩, fun me' h' => by cases h.symm.trans h'; exact ⟨h3, h5⟩⟩⟩
def isLk (i : Instr) : Bool := match i with
  | .getfield _ => true
  | .putfield _ => true
  | .new _ => true
  | .newarray _ => true
  | .anewarray _ => true
  | .ldc _ => true
  | .ldc_w _ => true
  | .invokevirtual _ => true
  | .invokespecial _ => true
  | .invokestatic _ => true
  | _ => false
theorem lk_all {ms : List ME} {y : MethodName} {pool : List (Instr × Nat × Nat)} {code : List EI} (hp : ∀ q ∈ pool, LinkOK ms y q.1 q.2.1 q.2.2) (h : (code.all fun e => !isLk e.2.1 || pool.any (fun q => decide (q = (e.2.1, e.2.2.1, e.2.2.2.1)))) = true) : ∀ e ∈ code, LinkOK ms y e.2.1 e.2.2.1 e.2.2.2.1 := by
  intro e he
  have h1 := List.all_eq_true.mp h e he
  simp only [Bool.or_eq_true, Bool.not_eq_true'] at h1
  rcases h1 with h1 | h1
  · obtain ⟨pc, ins, a, b, ts⟩ := e
    cases ins <;> first | trivial | (cases h1; done)
  · obtain ⟨q, hq, hqe⟩ := List.any_eq_true.mp h1
    have hqe := of_decide_eq_true hqe
    subst hqe
    exact hp _ hq
