/-- the tables' words that any later state keeps -/
def tbG : List Cond := lw_tbl.filter goodWord
/-! what the tables say of the links -/
def FieldOK (own : String) (idx a b : Nat) : Prop := ∃ (C : String) (T : u_T) (N : Nat), vwCl[a]? = some (C, T, N) ∧ b < N ∧ Cond.fieldLink own idx (T b).1 (T b).2.1 (T b).2.2.1 ∈ tbG
def PutOK (y : MethodName) (a b : Nat) : Prop := ∀ (C : String) (T : u_T) (N : Nat), vwCl[a]? = some (C, T, N) → (T b).2.2.2 = true → (T b).1 = y.cls ∧ y.name = "<init>"
def NewOK (own : String) (idx a : Nat) : Prop := ∃ (C : String) (T : u_T) (N : Nat), vwCl[a]? = some (C, T, N) ∧ Cond.classLink own idx C ∈ tbG ∧ Cond.instantiable C N ∈ tbG ∧ Cond.initialized C ∈ tbG
def LinkNOK (own : String) (idx : Nat) (y : MethodName) : Prop := Cond.methodLink own idx y ∈ tbG ∨ ∃ host, Cond.methodLinkNest own idx y host ∈ lw_tbl
def CallOK (ms : List ME) (own : String) (idx a : Nat) : Prop := ∃ me', ms[a]? = some me' ∧ LinkNOK own idx (mName me') ∧ Cond.initialized (mName me').cls ∈ tbG
def LinkOK (ms : List ME) (y : MethodName) (i : Instr) (a b : Nat) : Prop := match i with
  | .getfield idx => FieldOK y.cls idx a b
  | .putfield idx => FieldOK y.cls idx a b ∧ PutOK y a b
  | .new idx => NewOK y.cls idx a
  | .newarray t => t = .int
  | .anewarray idx => Cond.classLink y.cls idx RX0 ∈ tbG
  | .ldc idx => Cond.constant y.cls idx (Int32.ofNat a) ∈ tbG
  | .ldc_w idx => Cond.constant y.cls idx (Int32.ofNat a) ∈ tbG
  | .invokevirtual idx => CallOK ms y.cls idx a ∧ ∀ me', ms[a]? = some me' → Cond.instanceMethod (mName me') ∈ tbG ∧ Cond.selects (mName me').cls (mName me') (mName me') ∈ tbG ∧ ¬ mCls me' = 99
  | .invokespecial idx => (b = 1 → Cond.methodLink y.cls idx Lib.objectInit ∈ tbG) ∧ (b = 0 → CallOK ms y.cls idx a ∧ ∀ me', ms[a]? = some me' → Cond.instanceMethod (mName me') ∈ tbG ∧ (mName me').name = "<init>" ∧ mRet me' = none ∧ ¬ mCls me' = 99)
  | .invokestatic idx => ((b = 2 → Cond.methodLink y.cls idx arraycopyName ∈ tbG) ∧ (b = 3 → Cond.methodLink y.cls idx Lib.Math.abs.name ∈ tbG) ∧ (b = 4 → Cond.methodLink y.cls idx Lib.Math.max.name ∈ tbG) ∧ (b = 5 → Cond.methodLink y.cls idx Lib.Math.min.name ∈ tbG)) ∧ (b = 0 → CallOK ms y.cls idx a ∧ ∀ me', ms[a]? = some me' → Cond.static (mName me') ∈ tbG ∧ mCls me' = 99)
  | _ => True
/-- what the tables say of the classes -/
def ClOK : Prop := ∀ (ci : Nat) (C : String) (T : u_T) (N : Nat), vwCl[ci]? = some (C, T, N) → (∀ w ∈ u_ws C T N, w ∈ tbG) ∧ (∀ a, a < N → ∀ b, b < N → a ≠ b → (T a).2.1 ≠ (T b).2.1) ∧ (clk.getD ci []).length = N ∧
  ∃ ty : Nat → FieldType, (∀ k, k < N → parseFieldDescriptor (T k).2.2.1 = some (ty k)) ∧ ∀ k, k < N → (kd ci k = 0 ∧ ty k = .int) ∨ (kd ci k = 1 ∧ ty k = .boolean) ∨ (kd ci k = 2 ∧ ((∃ n, ty k = .object n) ∨ ∃ t, ty k = .array t))
def GlOK : Prop := Cond.arrayClass .int ∈ tbG ∧ True ∧ Cond.instanceMethod Lib.objectInit ∈ tbG ∧ Cond.code Lib.objectInit ⟨#[0xb1]⟩ 1 none ∈ tbG ∧
  Cond.native arraycopyName ∈ tbG ∧ Cond.static arraycopyName ∈ tbG ∧ Cond.initialized "java/lang/System" ∈ tbG ∧ Cond.initialized "java/lang/Math" ∈ tbG ∧
  (Cond.static Lib.Math.abs.name ∈ tbG ∧ Cond.code Lib.Math.abs.name Lib.Math.abs.code 1 (some .int) ∈ tbG) ∧ (Cond.static Lib.Math.max.name ∈ tbG ∧ Cond.code Lib.Math.max.name Lib.Math.max.code 2 (some .int) ∈ tbG) ∧ (Cond.static Lib.Math.min.name ∈ tbG ∧ Cond.code Lib.Math.min.name Lib.Math.min.code 2 (some .int) ∈ tbG)
/-- the words that are kept their own way -/
def Nw (s : State) : Prop := (∀ (a : String) (i : Nat) (x : MethodName) (h : String), Cond.methodLinkNest a i x h ∈ lw_tbl → va_Nw (.methodLinkNest a i x h) s) ∧ va_AO RX0 s
theorem Nw.warm {s U : State} (hW : s.WarmedH U.vm) (h : Nw s) : Nw U := ⟨fun a i x z hm => (h.1 a i x z hm).warmM hW, h.2.moved hW.alike⟩
theorem Nw.same {s U : State} (hv : s.vm = U.vm) (h : Nw s) : Nw U := ⟨fun a i x z hm => va_Nw.same rfl hv (h.1 a i x z hm), h.2.moved (hv ▸ Vm.Alike.refl s.vm)⟩
/-- what holds of a frame -/
def Fx (p : Program) (s : State) (m : MethodId) (args : Array Value) (meth : Method) (c : Code) (y : MethodName) (bs : ByteArray) (nL : Nat) (D : va_G) (cI cF : ClassId) : Prop :=
  p.tables.exec = Jvm.exec ∧ c.code = bs ∧ c.maxLocals = nL ∧ s.vm.findClass y.cls = some m.cls ∧ (∀ w ∈ tbG, w.before args s = true) ∧ va_K D vwCl [(cI, .int), (cF, .object RX0)] s ∧ (y.name = "<init>" → meth.name = "<init>") ∧ Nw s
def Sx (s : State) (base sb : Nat) (Hb : Heap) (scr : Option (Nat × (Nat → Int32))) : Prop := ∀ q, scr = some q → va_X sb q.1 q.2 s Hb ∧ sb < base
theorem noS_setR {hp : HP} {o : Nat} {r : Nat → Option Nat} (h : noS hp) (hr : ∀ k, ¬ r k = some SCR) (f : Nat → Nat → Int32) : noS (f, setR hp.2 o r) := by
  intro i k
  show ¬ (setR hp.2 o r) i k = some SCR
  by_cases hi : i = o
  · subst hi
    rw [setR_eq]
    exact hr k
  · rw [setR_ne _ _ hi]
    exact h i k
theorem noS_up {hp : HP} {o k q : Nat} (h : noS hp) (hq : ¬ q = SCR) : ∀ j, ¬ va_up (hp.2 o) k (some q) j = some SCR := by
  intro j
  unfold va_up
  by_cases hj : j = k
  · rw [if_pos hj]
    exact fun z => hq (Option.some.inj z)
  · rw [if_neg hj]
    exact h o j
theorem cell_obj {base : Nat} {D : va_G} {cI cF : ClassId} {H : Heap} {sh : SH} {hp : HP} {o ci : Nat} {r : vw_C} (h : cellI base D cI cF H sh hp o) (hs : sh[o]? = some (0, ci)) (hr : vwCl[ci]? = some r) : t_OB (base + o) (D.1 ci) r.2.2 (D.2 ci) H (fvl base hp ci o) := by
  unfold cellI at h
  rw [hs] at h
  obtain ⟨r', h1, h2⟩ := h
  cases hr.symm.trans h1
  exact h2
theorem cell_int {base : Nat} {D : va_G} {cI cF : ClassId} {H : Heap} {sh : SH} {hp : HP} {o n : Nat} (h : cellI base D cI cF H sh hp o) (hs : sh[o]? = some (1, n)) : H[base + o]? = some (arrV cI n (fun j => .int (hp.1 o j))) := by
  unfold cellI at h
  rw [hs] at h
  exact h
theorem cell_ref {base : Nat} {D : va_G} {cI cF : ClassId} {H : Heap} {sh : SH} {hp : HP} {o n : Nat} (h : cellI base D cI cF H sh hp o) (hs : sh[o]? = some (2, n)) : H[base + o]? = some (arrV cF n (fun j => trv base (hp.2 o j))) := by
  unfold cellI at h
  rw [hs] at h
  exact h
theorem sh_lt {sh : SH} {o : Nat} {x : Nat × Nat} (h : sh[o]? = some x) : o < sh.length := (List.getElem?_eq_some_iff.mp h).1
theorem tr_fval {base sb : Nat} {hp : HP} (h : noS hp) (ci o k : Nat) : tr base sb (fval hp ci o k) = fvl base hp ci o k := by
  unfold fval fvl
  split
  · exact tr_rv base sb _ (h o k)
  · rfl
theorem tr_ref {base sb o : Nat} (h : ¬ o = SCR) : tr base sb (.ref o) = .ref (base + o) := by simp [tr, h]
theorem lk_to {ks : List (Int × Int)} {d : Int} {x : Int} {pc : Nat} {ts : List Nat} {f : Nat → Nat} {t : Nat} (h : (ks.map (·.2) ++ [d]).map (fun o => (pc : Int) + o) = ts.map fun t => (f t : Int)) (hq : lookTo (ks.map (·.1)) x ts = some t) : (pc : Int) + Op.lookupswitch.offset ks d x = (f t : Int) := by
  induction ks generalizing ts with
  | nil =>
    match ts, h, hq with
    | [], h, _ => simp at h
    | t0 :: ts, h, hq =>
      simp only [List.map_nil, lookTo] at hq
      cases hq
      simp only [List.map_nil, List.nil_append, List.map_cons] at h
      have h0 := (List.cons.inj h).1
      simpa [Op.lookupswitch.offset] using h0
  | cons q ks ih =>
    match ts, h, hq with
    | [], h, _ => simp at h
    | t0 :: ts, h, hq =>
      simp only [List.map_cons, List.cons_append] at h
      have h0 := (List.cons.inj h).1
      have h1 := (List.cons.inj h).2
      simp only [List.map_cons, lookTo] at hq
      by_cases hx : x = q.1
      · rw [if_pos hx] at hq
        cases hq
        simpa [Op.lookupswitch.offset, hx] using h0
      · rw [if_neg hx] at hq
        have := ih h1 hq
        simpa [Op.lookupswitch.offset, Ne.symm hx, hx] using this
