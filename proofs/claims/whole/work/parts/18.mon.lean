/-! METHODS AS FUNCTIONS: a method's function reads and writes the heap of the abstract machine; the shapes are those that stand when the law's objects are made -/
/-- the shapes behind the law's two constructors: the object, its parts, the reference's object, its arrays -/
def SHF : SH := [(0, 5), (0, 4), (0, 0), (1, 7), (1, 7), (1, 7), (1, 7), (1, 7), (1, 7), (0, 3), (1, 8), (1, 8), (1, 8), (0, 4), (0, 0), (1, 7), (1, 7), (1, 7), (1, 7), (1, 7), (1, 7), (0, 3), (1, 8), (1, 8), (1, 8), (0, 4), (0, 0), (1, 7), (1, 7), (1, 7), (1, 7), (1, 7), (1, 7), (0, 3), (1, 8), (1, 8), (1, 8), (0, 0), (1, 7), (1, 7), (1, 7), (1, 7), (1, 7), (1, 7), (0, 2), (2, 8), (0, 0), (1, 7), (1, 7), (1, 7), (1, 7), (1, 7), (1, 7), (0, 0), (1, 7), (1, 7), (1, 7), (1, 7), (1, 7), (1, 7), (0, 0), (1, 7), (1, 7), (1, 7), (1, 7), (1, 7), (1, 7), (0, 0), (1, 7), (1, 7), (1, 7), (1, 7), (1, 7), (1, 7), (0, 0), (1, 7), (1, 7), (1, 7), (1, 7), (1, 7), (1, 7), (0, 0), (1, 7), (1, 7), (1, 7), (1, 7), (1, 7), (1, 7), (0, 0), (1, 7), (1, 7), (1, 7), (1, 7), (1, 7), (1, 7), (0, 0), (1, 7), (1, 7), (1, 7), (1, 7), (1, 7), (1, 7), (0, 1), (1, 96), (1, 12), (1, 7), (1, 100), (1, 128), (1, 256), (1, 256), (0, 6), (1, 7), (1, 7), (1, 7), (1, 7), (1, 7), (1, 7), (1, 8), (1, 8), (1, 96), (1, 48), (1, 48), (1, 144), (1, 660), (1, 7), (1, 868), (1, 12), (1, 100), (1, 128), (1, 8), (1, 2048)]
theorem shf_lt {i : Nat} {x : Nat × Nat} (h : SHF[i]? = some x) : ¬ i = SCR := by
  have := (List.getElem?_eq_some_iff.mp h).1
  have hl : SHF.length = 131 := rfl
  rw [hl] at this
  unfold SCR
  omega
abbrev M (α : Type) : Type := HP → Option (α × HP)
def rt {α : Type} (v : α) : M α := fun h => some (v, h)
def retZ (v : Int32) : M Int32 := fun h => if v = 0 ∨ v = 1 then some (v, h) else none
def bnd {α β : Type} (x : M α) (f : α → M β) : M β := fun h => (x h).bind fun q => f q.1 q.2
def jn {α β : Type} (F : (α → M β) → M β) (G : α → M β) : M β := F G
def loopK {σ β : Type} : Nat → (σ → (σ → M β) → M β) → σ → M β
  | 0, _, _ => fun _ => none
  | n + 1, B, s => B s (loopK n B)
def NF : Nat := 1000000
def gI (ci k : Nat) (a : Nat) : M Int32 := fun h => if SHF[a]? = some (0, ci) then some (h.1 a k, h) else none
def gR (ci k : Nat) (a : Nat) : M Nat := fun h => if SHF[a]? = some (0, ci) then (h.2 a k).map fun r => (r, h) else none
def pI (ci k : Nat) (a : Nat) (v : Int32) : M Unit := fun h => if SHF[a]? = some (0, ci) then some ((), (setR h.1 a (upd (h.1 a) k v), h.2)) else none
def pZ (ci k : Nat) (a : Nat) (v : Int32) : M Unit := fun h => if SHF[a]? = some (0, ci) ∧ (v = 0 ∨ v = 1) then some ((), (setR h.1 a (upd (h.1 a) k v), h.2)) else none
def aI (a : Nat) (i : Int32) : M Int32 := fun h => match SHF[a]? with
  | some (1, n) => if ¬ (i < 0 ∨ n ≤ i.toNatClampNeg) then some (h.1 a i.toNatClampNeg, h) else none
  | _ => none
def sI (a : Nat) (i v : Int32) : M Unit := fun h => match SHF[a]? with
  | some (1, n) => if ¬ (i < 0 ∨ n ≤ i.toNatClampNeg) then some ((), (setR h.1 a (upd (h.1 a) i.toNatClampNeg v), h.2)) else none
  | _ => none
def aR (a : Nat) (i : Int32) : M Nat := fun h => match SHF[a]? with
  | some (2, n) => if ¬ (i < 0 ∨ n ≤ i.toNatClampNeg) then (h.2 a i.toNatClampNeg).map fun r => (r, h) else none
  | _ => none
def sR (a : Nat) (i : Int32) (q : Nat) : M Unit := fun h => match SHF[a]? with
  | some (2, n) => if SHF[q]? = some (0, 0) ∧ ¬ (i < 0 ∨ n ≤ i.toNatClampNeg) then some ((), (h.1, setR h.2 a (va_up (h.2 a) i.toNatClampNeg (some q)))) else none
  | _ => none
def len (a : Nat) : M Int32 := fun h => match SHF[a]? with
  | some (1, n) => some (Int32.ofNat n, h)
  | some (2, n) => some (Int32.ofNat n, h)
  | _ => none
def divM (x y : Int32) : M Int32 := fun h => if y = 0 then none else some (x / y, h)
def remM (x y : Int32) : M Int32 := fun h => if y = 0 then none else some (x - x / y * y, h)
def cpy (o : Nat) (sp : Int32) (d : Nat) (dp n : Int32) : M Unit := fun h => match SHF[o]?, SHF[d]? with
  | some (1, n0), some (1, n1) => if ¬ sp < 0 ∧ ¬ dp < 0 ∧ ¬ n < 0 ∧ sp.toNatClampNeg + n.toNatClampNeg ≤ n0 ∧ dp.toNatClampNeg + n.toNatClampNeg ≤ n1 then some ((), (setR h.1 d (va_cpy (h.1 o) (h.1 d) sp.toNatClampNeg dp.toNatClampNeg n.toNatClampNeg), h.2)) else none
  | _, _ => none
/-- a call on an object: it is of that class -/
def cv {α : Type} (ci o : Nat) (m : M α) : M α := fun h => if SHF[o]? = some (0, ci) then m h else none
def scrM (scr : Option (Nat × (Nat → Int32))) (i : Int32) : M Int32 := fun h => match scr with
  | some q => if ¬ (i < 0 ∨ q.1 ≤ i.toNatClampNeg) then some (q.2 i.toNatClampNeg, h) else none
  | none => none
def scrN (scr : Option (Nat × (Nat → Int32))) : M Int32 := fun h => match scr with
  | some q => some (Int32.ofNat q.1, h)
  | none => none
/-- a run of a method from a place on, with an end -/
def Rn (scr : Option (Nat × (Nat → Int32))) (cs sl : Nat) (me : ME) (j : Nat) (L : List (Option Value)) (st : List Value) (hp : HP) (res : Option Value × HP) : Prop := ∃ n, exF meths n scr me j L st cs sl SHF hp = some (res.1, cs, sl, SHF, res.2)
def eI (r : Int32) : Option Value := some (.int r)
def eU (_ : Unit) : Option Value := none
def eR (r : Nat) : Option Value := some (.ref r)
theorem exF_mono {ms : List ME} : ∀ (n k : Nat) {scr : Option (Nat × (Nat → Int32))} {me : ME} {j : Nat} {L : List (Option Value)} {st : List Value} {cs sl : Nat} {sh : SH} {hp : HP} {r : RS}, exF ms n scr me j L st cs sl sh hp = some r → exF ms (n + k) scr me j L st cs sl sh hp = some r := by
  intro n
  induction n with
  | zero => intro k scr me j L st cs sl sh hp r h; cases h
  | succ n ih =>
    intro k scr me j L st cs sl sh hp r h
    rw [Nat.succ_add]
    simp only [exF, Option.bind_eq_some_iff] at h ⊢
    obtain ⟨e, he, h⟩ := h
    refine ⟨e, he, ?_⟩
    split at h
    · rename_i h1
      rw [if_pos h1]; exact h
    · rename_i h1
      rw [if_neg h1]
      split at h
      · rename_i h2
        rw [if_pos h2]
        simp only [Option.bind_eq_some_iff] at h ⊢
        obtain ⟨me', hm, h⟩ := h
        refine ⟨me', hm, ?_⟩
        split at h
        · rename_i h3
          rw [if_pos h3]
          simp only [Option.bind_eq_some_iff] at h ⊢
          obtain ⟨q, hq, h⟩ := h
          exact ⟨q, ih k hq, ih k h⟩
        · cases h
      · rename_i h2
        rw [if_neg h2]
        simp only [Option.bind_eq_some_iff] at h ⊢
        obtain ⟨q, hq, h⟩ := h
        exact ⟨q, hq, ih k h⟩
section RULES
variable {scr : Option (Nat × (Nat → Int32))} {cs sl : Nat} {me : ME} {j : Nat} {L : List (Option Value)} {st : List Value} {hp : HP} {res : Option Value × HP} {pc a b : Nat} {ts : List Nat}
theorem Rn.prim {e : EI} {j' : Nat} {L' : List (Option Value)} {st' : List Value} {hp' : HP} (he : (mCode me)[j]? = some e) (h1 : isRet e.2.1 = false) (h2 : isCall e.2.1 e.2.2.2.1 = false) (hp1 : prim (mRoom me) scr e j L st cs sl SHF hp = some (j', L', st', cs, sl, SHF, hp')) (h : Rn scr cs sl me j' L' st' hp' res) : Rn scr cs sl me j L st hp res := by
  obtain ⟨n, hn⟩ := h
  refine ⟨n + 1, ?_⟩
  simp only [exF, he, Option.bind_some, h1, h2, Bool.false_eq_true, if_false, hp1]
  exact hn
theorem r_iln {k : Fin 4} {i : Nat} {x : Int32} (he : (mCode me)[j]? = some (pc, .iload_n k, a, b, ts)) (hi : (k : Nat) = i) (hl : L[i]? = some (some (.int x))) (h : Rn scr cs sl me (j + 1) L (.int x :: st) hp res) : Rn scr cs sl me j L st hp res := by
  subst hi
  exact Rn.prim he rfl rfl (by simp only [prim, locI, hl]; rfl) h
theorem r_il {i : Nat} {x : Int32} (he : (mCode me)[j]? = some (pc, .iload i, a, b, ts)) (hl : L[i]? = some (some (.int x))) (h : Rn scr cs sl me (j + 1) L (.int x :: st) hp res) : Rn scr cs sl me j L st hp res :=
  Rn.prim he rfl rfl (by simp only [prim, locI, hl]; rfl) h
theorem r_aln {k : Fin 4} {i : Nat} {x : Nat} (he : (mCode me)[j]? = some (pc, .aload_n k, a, b, ts)) (hi : (k : Nat) = i) (hl : L[i]? = some (some (.ref x))) (h : Rn scr cs sl me (j + 1) L (.ref x :: st) hp res) : Rn scr cs sl me j L st hp res := by
  subst hi
  exact Rn.prim he rfl rfl (by simp only [prim, locR, hl]; rfl) h
theorem r_al {i : Nat} {x : Nat} (he : (mCode me)[j]? = some (pc, .aload i, a, b, ts)) (hl : L[i]? = some (some (.ref x))) (h : Rn scr cs sl me (j + 1) L (.ref x :: st) hp res) : Rn scr cs sl me j L st hp res :=
  Rn.prim he rfl rfl (by simp only [prim, locR, hl]; rfl) h
theorem r_isn {k : Fin 4} {i : Nat} {x : Int32} {L' : List (Option Value)} (he : (mCode me)[j]? = some (pc, .istore_n k, a, b, ts)) (hi : (k : Nat) = i) (hk : i < L.length) (hL : L.set i (some (.int x)) = L') (h : Rn scr cs sl me (j + 1) L' st hp res) : Rn scr cs sl me j L (.int x :: st) hp res := by
  subst hi; subst hL
  exact Rn.prim he rfl rfl (by simp only [prim, if_pos hk]) h
theorem r_is {i : Nat} {x : Int32} {L' : List (Option Value)} (he : (mCode me)[j]? = some (pc, .istore i, a, b, ts)) (hk : i < L.length) (hL : L.set i (some (.int x)) = L') (h : Rn scr cs sl me (j + 1) L' st hp res) : Rn scr cs sl me j L (.int x :: st) hp res := by
  subst hL
  exact Rn.prim he rfl rfl (by simp only [prim, if_pos hk]) h
theorem r_asn {k : Fin 4} {i : Nat} {x : Nat} {L' : List (Option Value)} (he : (mCode me)[j]? = some (pc, .astore_n k, a, b, ts)) (hi : (k : Nat) = i) (hk : i < L.length) (hL : L.set i (some (.ref x)) = L') (h : Rn scr cs sl me (j + 1) L' st hp res) : Rn scr cs sl me j L (.ref x :: st) hp res := by
  subst hi; subst hL
  exact Rn.prim he rfl rfl (by simp only [prim, if_pos hk]) h
theorem r_as {i : Nat} {x : Nat} {L' : List (Option Value)} (he : (mCode me)[j]? = some (pc, .astore i, a, b, ts)) (hk : i < L.length) (hL : L.set i (some (.ref x)) = L') (h : Rn scr cs sl me (j + 1) L' st hp res) : Rn scr cs sl me j L (.ref x :: st) hp res := by
  subst hL
  exact Rn.prim he rfl rfl (by simp only [prim, if_pos hk]) h
theorem r_ic {n : Int} {v : Int32} (he : (mCode me)[j]? = some (pc, .iconst n, a, b, ts)) (hv : Int32.ofInt n = v) (h : Rn scr cs sl me (j + 1) L (.int v :: st) hp res) : Rn scr cs sl me j L st hp res := by
  subst hv
  exact Rn.prim he rfl rfl rfl h
theorem r_bi {n : Int} {v : Int32} (he : (mCode me)[j]? = some (pc, .bipush n, a, b, ts)) (hv : (Int8.ofInt n).toInt32 = v) (h : Rn scr cs sl me (j + 1) L (.int v :: st) hp res) : Rn scr cs sl me j L st hp res := by
  subst hv
  exact Rn.prim he rfl rfl rfl h
theorem r_si {n : Int} {v : Int32} (he : (mCode me)[j]? = some (pc, .sipush n, a, b, ts)) (hv : (Int16.ofInt n).toInt32 = v) (h : Rn scr cs sl me (j + 1) L (.int v :: st) hp res) : Rn scr cs sl me j L st hp res := by
  subst hv
  exact Rn.prim he rfl rfl rfl h
theorem r_lc {i : Nat} {v : Int32} (he : (mCode me)[j]? = some (pc, .ldc i, a, b, ts)) (hv : Int32.ofNat a = v) (h : Rn scr cs sl me (j + 1) L (.int v :: st) hp res) : Rn scr cs sl me j L st hp res := by
  subst hv
  exact Rn.prim he rfl rfl rfl h
theorem r_lw {i : Nat} {v : Int32} (he : (mCode me)[j]? = some (pc, .ldc_w i, a, b, ts)) (hv : Int32.ofNat a = v) (h : Rn scr cs sl me (j + 1) L (.int v :: st) hp res) : Rn scr cs sl me j L st hp res := by
  subst hv
  exact Rn.prim he rfl rfl rfl h
theorem r_inc {i : Nat} {n : Int} {x v : Int32} {L' : List (Option Value)} (he : (mCode me)[j]? = some (pc, .iinc i n, a, b, ts)) (hl : L[i]? = some (some (.int x))) (hv : Int32.ofInt n = v) (hL : L.set i (some (.int (x + v))) = L') (h : Rn scr cs sl me (j + 1) L' st hp res) : Rn scr cs sl me j L st hp res := by
  subst hv; subst hL
  have hk : i < L.length := (List.getElem?_eq_some_iff.mp hl).1
  exact Rn.prim he rfl rfl (by simp only [prim, locI, hl, Option.bind_some, if_pos hk]) h
theorem r_add {x y : Int32} (he : (mCode me)[j]? = some (pc, .iadd, a, b, ts)) (h : Rn scr cs sl me (j + 1) L (.int (x + y) :: st) hp res) : Rn scr cs sl me j L (.int y :: .int x :: st) hp res := Rn.prim he rfl rfl rfl h
theorem r_sub {x y : Int32} (he : (mCode me)[j]? = some (pc, .isub, a, b, ts)) (h : Rn scr cs sl me (j + 1) L (.int (x - y) :: st) hp res) : Rn scr cs sl me j L (.int y :: .int x :: st) hp res := Rn.prim he rfl rfl rfl h
theorem r_mul {x y : Int32} (he : (mCode me)[j]? = some (pc, .imul, a, b, ts)) (h : Rn scr cs sl me (j + 1) L (.int (x * y) :: st) hp res) : Rn scr cs sl me j L (.int y :: .int x :: st) hp res := Rn.prim he rfl rfl rfl h
theorem r_and {x y : Int32} (he : (mCode me)[j]? = some (pc, .iand, a, b, ts)) (h : Rn scr cs sl me (j + 1) L (.int (x &&& y) :: st) hp res) : Rn scr cs sl me j L (.int y :: .int x :: st) hp res := Rn.prim he rfl rfl rfl h
theorem r_or {x y : Int32} (he : (mCode me)[j]? = some (pc, .ior, a, b, ts)) (h : Rn scr cs sl me (j + 1) L (.int (x ||| y) :: st) hp res) : Rn scr cs sl me j L (.int y :: .int x :: st) hp res := Rn.prim he rfl rfl rfl h
theorem r_xor {x y : Int32} (he : (mCode me)[j]? = some (pc, .ixor, a, b, ts)) (h : Rn scr cs sl me (j + 1) L (.int (x ^^^ y) :: st) hp res) : Rn scr cs sl me j L (.int y :: .int x :: st) hp res := Rn.prim he rfl rfl rfl h
theorem r_shl {x y : Int32} (he : (mCode me)[j]? = some (pc, .ishl, a, b, ts)) (h : Rn scr cs sl me (j + 1) L (.int (x <<< (y &&& 31)) :: st) hp res) : Rn scr cs sl me j L (.int y :: .int x :: st) hp res := Rn.prim he rfl rfl rfl h
theorem r_shr {x y : Int32} (he : (mCode me)[j]? = some (pc, .ishr, a, b, ts)) (h : Rn scr cs sl me (j + 1) L (.int (x >>> (y &&& 31)) :: st) hp res) : Rn scr cs sl me j L (.int y :: .int x :: st) hp res := Rn.prim he rfl rfl rfl h
theorem r_ushr {x y : Int32} (he : (mCode me)[j]? = some (pc, .iushr, a, b, ts)) (h : Rn scr cs sl me (j + 1) L (.int (x.toUInt32 >>> (y.toUInt32 &&& Int32.toUInt32 31)).toInt32 :: st) hp res) : Rn scr cs sl me j L (.int y :: .int x :: st) hp res := Rn.prim he rfl rfl rfl h
theorem r_neg {x : Int32} (he : (mCode me)[j]? = some (pc, .ineg, a, b, ts)) (h : Rn scr cs sl me (j + 1) L (.int (-x) :: st) hp res) : Rn scr cs sl me j L (.int x :: st) hp res := Rn.prim he rfl rfl rfl h
theorem r_dupi {x : Int32} (he : (mCode me)[j]? = some (pc, .dup, a, b, ts)) (h : Rn scr cs sl me (j + 1) L (.int x :: .int x :: st) hp res) : Rn scr cs sl me j L (.int x :: st) hp res := Rn.prim he rfl rfl rfl h
theorem r_dupr {x : Nat} (he : (mCode me)[j]? = some (pc, .dup, a, b, ts)) (h : Rn scr cs sl me (j + 1) L (.ref x :: .ref x :: st) hp res) : Rn scr cs sl me j L (.ref x :: st) hp res := Rn.prim he rfl rfl rfl h
theorem r_dup2 {y : Int32} {x : Nat} (he : (mCode me)[j]? = some (pc, .dup2, a, b, ts)) (h : Rn scr cs sl me (j + 1) L (.int y :: .ref x :: .int y :: .ref x :: st) hp res) : Rn scr cs sl me j L (.int y :: .ref x :: st) hp res := Rn.prim he rfl rfl rfl h
theorem r_popi {x : Int32} (he : (mCode me)[j]? = some (pc, .pop, a, b, ts)) (h : Rn scr cs sl me (j + 1) L st hp res) : Rn scr cs sl me j L (.int x :: st) hp res := Rn.prim he rfl rfl rfl h
theorem r_popr {x : Nat} (he : (mCode me)[j]? = some (pc, .pop, a, b, ts)) (h : Rn scr cs sl me (j + 1) L st hp res) : Rn scr cs sl me j L (.ref x :: st) hp res := Rn.prim he rfl rfl rfl h
theorem r_go {o : Int} (he : (mCode me)[j]? = some (pc, .goto o, a, b, ts)) (h : Rn scr cs sl me a L st hp res) : Rn scr cs sl me j L st hp res := Rn.prim he rfl rfl rfl h
theorem r_cmpT {c : ClassFile.Cond} {o : Int} {x y : Int32} (he : (mCode me)[j]? = some (pc, .if_icmp c o, a, b, ts)) (hc : cnd c x y = true) (h : Rn scr cs sl me a L st hp res) : Rn scr cs sl me j L (.int y :: .int x :: st) hp res :=
  Rn.prim he rfl rfl (by simp only [prim, hc, if_true]) h
theorem r_cmpF {c : ClassFile.Cond} {o : Int} {x y : Int32} (he : (mCode me)[j]? = some (pc, .if_icmp c o, a, b, ts)) (hc : cnd c x y = false) (h : Rn scr cs sl me (j + 1) L st hp res) : Rn scr cs sl me j L (.int y :: .int x :: st) hp res :=
  Rn.prim he rfl rfl (by simp only [prim, hc, Bool.false_eq_true, if_false]) h
theorem r_ifT {c : ClassFile.Cond} {o : Int} {x : Int32} (he : (mCode me)[j]? = some (pc, .ifCond c o, a, b, ts)) (hc : cnd c x 0 = true) (h : Rn scr cs sl me a L st hp res) : Rn scr cs sl me j L (.int x :: st) hp res :=
  Rn.prim he rfl rfl (by simp only [prim, hc, if_true]) h
theorem r_ifF {c : ClassFile.Cond} {o : Int} {x : Int32} (he : (mCode me)[j]? = some (pc, .ifCond c o, a, b, ts)) (hc : cnd c x 0 = false) (h : Rn scr cs sl me (j + 1) L st hp res) : Rn scr cs sl me j L (.int x :: st) hp res :=
  Rn.prim he rfl rfl (by simp only [prim, hc, Bool.false_eq_true, if_false]) h
/-- a branch, beside the function's own -/
theorem r_cmp {α : Type} {c : ClassFile.Cond} {o : Int} {x y : Int32} {P : Prop} [Decidable P] {A B : M α} {z : Option (α × HP)} (H : (if P then A else B) hp = z) (he : (mCode me)[j]? = some (pc, .if_icmp c o, a, b, ts)) (hc : cnd c x y = decide P) (k1 : A hp = z → Rn scr cs sl me a L st hp res) (k2 : B hp = z → Rn scr cs sl me (j + 1) L st hp res) : Rn scr cs sl me j L (.int y :: .int x :: st) hp res := by
  by_cases h : P
  · rw [if_pos h] at H
    exact r_cmpT he (by rw [hc]; exact decide_eq_true h) (k1 H)
  · rw [if_neg h] at H
    exact r_cmpF he (by rw [hc]; exact decide_eq_false h) (k2 H)
theorem r_if {α : Type} {c : ClassFile.Cond} {o : Int} {x : Int32} {P : Prop} [Decidable P] {A B : M α} {z : Option (α × HP)} (H : (if P then A else B) hp = z) (he : (mCode me)[j]? = some (pc, .ifCond c o, a, b, ts)) (hc : cnd c x 0 = decide P) (k1 : A hp = z → Rn scr cs sl me a L st hp res) (k2 : B hp = z → Rn scr cs sl me (j + 1) L st hp res) : Rn scr cs sl me j L (.int x :: st) hp res := by
  by_cases h : P
  · rw [if_pos h] at H
    exact r_ifT he (by rw [hc]; exact decide_eq_true h) (k1 H)
  · rw [if_neg h] at H
    exact r_ifF he (by rw [hc]; exact decide_eq_false h) (k2 H)
theorem r_abs {x : Int32} {i : Nat} (he : (mCode me)[j]? = some (pc, .invokestatic i, a, b, ts)) (hb : b = 3) (hf : 1 ≤ (mRoom me).frames) (hc : (decide (cs ≤ (mRoom me).cells) && decide (sl ≤ (mRoom me).slots) && decide ((st.map fun v => v.category).sum + 13 ≤ (mRoom me).locals)) = true) (h : Rn scr cs sl me (j + 1) L (.int (mabs x) :: st) hp res) : Rn scr cs sl me j L (.int x :: st) hp res := by
  subst hb
  simp only [Bool.and_eq_true, decide_eq_true_eq] at hc
  exact Rn.prim he rfl rfl (by simp only [prim]; rw [if_neg (by decide), if_pos ⟨hf, hc.1.1, hc.1.2⟩, if_pos trivial, if_pos hc.2]) h
theorem r_max {x y : Int32} {i : Nat} (he : (mCode me)[j]? = some (pc, .invokestatic i, a, b, ts)) (hb : b = 4) (hf : 1 ≤ (mRoom me).frames) (hc : (decide (cs ≤ (mRoom me).cells) && decide (sl ≤ (mRoom me).slots) && decide ((st.map fun v => v.category).sum + 13 ≤ (mRoom me).locals)) = true) (h : Rn scr cs sl me (j + 1) L (.int (mmax x y) :: st) hp res) : Rn scr cs sl me j L (.int y :: .int x :: st) hp res := by
  subst hb
  simp only [Bool.and_eq_true, decide_eq_true_eq] at hc
  exact Rn.prim he rfl rfl (by simp only [prim]; rw [if_neg (by decide), if_pos ⟨hf, hc.1.1, hc.1.2⟩, if_neg (by decide), if_pos trivial, if_pos hc.2]) h
theorem r_min {x y : Int32} {i : Nat} (he : (mCode me)[j]? = some (pc, .invokestatic i, a, b, ts)) (hb : b = 5) (hf : 1 ≤ (mRoom me).frames) (hc : (decide (cs ≤ (mRoom me).cells) && decide (sl ≤ (mRoom me).slots) && decide ((st.map fun v => v.category).sum + 13 ≤ (mRoom me).locals)) = true) (h : Rn scr cs sl me (j + 1) L (.int (mmin x y) :: st) hp res) : Rn scr cs sl me j L (.int y :: .int x :: st) hp res := by
  subst hb
  simp only [Bool.and_eq_true, decide_eq_true_eq] at hc
  exact Rn.prim he rfl rfl (by simp only [prim]; rw [if_neg (by decide), if_pos ⟨hf, hc.1.1, hc.1.2⟩, if_neg (by decide), if_neg (by decide), if_pos trivial, if_pos hc.2]) h
theorem r_tab {d lo hi : Int} {os : Array Int} {x : Int32} {t : Nat} (he : (mCode me)[j]? = some (pc, .tableswitch d lo hi os, a, b, ts)) (hs : switchTo x.toInt lo hi ts = some t) (h : Rn scr cs sl me t L st hp res) : Rn scr cs sl me j L (.int x :: st) hp res :=
  Rn.prim he rfl rfl (by simp only [prim, hs, Option.bind_some]) h
theorem r_look {d : Int} {ps : Array (Int × Int)} {x : Int32} {t : Nat} (he : (mCode me)[j]? = some (pc, .lookupswitch d ps, a, b, ts)) (hs : lookTo (ps.toList.map (·.1)) x.toInt ts = some t) (h : Rn scr cs sl me t L st hp res) : Rn scr cs sl me j L (.int x :: st) hp res :=
  Rn.prim he rfl rfl (by simp only [prim, hs, Option.bind_some]) h
theorem sw_ne {x c : Int32} {v : Int} (h : ¬ x = c) (hv : c.toInt = v) : ¬ x.toInt = v := fun q => h (Int32.toInt_inj.mp (by rw [hv]; exact q))
theorem sw_out {x lo hi : Int} {ts : List Nat} (h : x < lo ∨ hi < x) : switchTo x lo hi ts = ts[0]? := by
  unfold switchTo
  rw [if_pos h]
theorem bnd_some {α β : Type} {x : M α} {f : α → M β} {z : β × HP} (H : bnd x f hp = some z) : ∃ v hp1, x hp = some (v, hp1) ∧ f v hp1 = some z := by
  unfold bnd at H
  obtain ⟨q, h1, h2⟩ := Option.bind_eq_some_iff.mp H
  exact ⟨q.1, q.2, h1, h2⟩
theorem r_gI {β : Type} {f : Int32 → M β} {z : β × HP} {o i : Nat} (H : bnd (gI a b o) f hp = some z) (he : (mCode me)[j]? = some (pc, .getfield i, a, b, ts)) (hk : kd a b ≤ 1) (k : f (hp.1 o b) hp = some z → Rn scr cs sl me (j + 1) L (.int (hp.1 o b) :: st) hp res) : Rn scr cs sl me j L (.ref o :: st) hp res := by
  obtain ⟨v, hp1, h1, h2⟩ := bnd_some H
  unfold gI at h1
  split at h1
  · rename_i ho
    cases h1
    exact Rn.prim he rfl rfl (by simp only [prim, fval]; rw [if_pos ⟨ho, shf_lt ho⟩, if_neg (by omega)]) (k h2)
  · cases h1
theorem r_gR {β : Type} {f : Nat → M β} {z : β × HP} {o i : Nat} (H : bnd (gR a b o) f hp = some z) (he : (mCode me)[j]? = some (pc, .getfield i, a, b, ts)) (hk : kd a b = 2) (k : ∀ r, f r hp = some z → Rn scr cs sl me (j + 1) L (.ref r :: st) hp res) : Rn scr cs sl me j L (.ref o :: st) hp res := by
  obtain ⟨v, hp1, h1, h2⟩ := bnd_some H
  unfold gR at h1
  split at h1
  · rename_i ho
    obtain ⟨r, hr, h1⟩ := Option.map_eq_some_iff.mp h1
    cases h1
    exact Rn.prim he rfl rfl (by simp only [prim, fval]; rw [if_pos ⟨ho, shf_lt ho⟩, if_pos hk, hr]; rfl) (k v h2)
  · cases h1
theorem r_pI {β : Type} {f : Unit → M β} {z : β × HP} {o i : Nat} {v : Int32} (H : bnd (pI a b o v) f hp = some z) (he : (mCode me)[j]? = some (pc, .putfield i, a, b, ts)) (hk : kd a b = 0) (k : f () (setR hp.1 o (upd (hp.1 o) b v), hp.2) = some z → Rn scr cs sl me (j + 1) L st (setR hp.1 o (upd (hp.1 o) b v), hp.2) res) : Rn scr cs sl me j L (.int v :: .ref o :: st) hp res := by
  obtain ⟨w, hp1, h1, h2⟩ := bnd_some H
  unfold pI at h1
  split at h1
  · rename_i ho
    cases h1
    exact Rn.prim he rfl rfl (by simp only [prim]; rw [if_pos ⟨⟨ho, shf_lt ho⟩, Or.inl hk⟩]) (k h2)
  · cases h1
theorem r_pZ {β : Type} {f : Unit → M β} {z : β × HP} {o i : Nat} {v : Int32} (H : bnd (pZ a b o v) f hp = some z) (he : (mCode me)[j]? = some (pc, .putfield i, a, b, ts)) (hk : kd a b = 1) (k : f () (setR hp.1 o (upd (hp.1 o) b v), hp.2) = some z → Rn scr cs sl me (j + 1) L st (setR hp.1 o (upd (hp.1 o) b v), hp.2) res) : Rn scr cs sl me j L (.int v :: .ref o :: st) hp res := by
  obtain ⟨w, hp1, h1, h2⟩ := bnd_some H
  unfold pZ at h1
  split at h1
  · rename_i ho
    cases h1
    exact Rn.prim he rfl rfl (by simp only [prim]; rw [if_pos ⟨⟨ho.1, shf_lt ho.1⟩, Or.inr ⟨hk, ho.2⟩⟩]) (k h2)
  · cases h1
theorem r_aI {β : Type} {f : Int32 → M β} {z : β × HP} {o : Nat} {i : Int32} (H : bnd (aI o i) f hp = some z) (he : (mCode me)[j]? = some (pc, .iaload, a, b, ts)) (k : f (hp.1 o i.toNatClampNeg) hp = some z → Rn scr cs sl me (j + 1) L (.int (hp.1 o i.toNatClampNeg) :: st) hp res) : Rn scr cs sl me j L (.int i :: .ref o :: st) hp res := by
  obtain ⟨w, hp1, h1, h2⟩ := bnd_some H
  unfold aI at h1
  split at h1
  · rename_i n ho
    split at h1
    · rename_i hin
      cases h1
      exact Rn.prim he rfl rfl (by simp only [prim]; rw [if_neg (shf_lt ho), ho]; exact if_pos hin) (k h2)
    · cases h1
  · cases h1
theorem r_sI {β : Type} {f : Unit → M β} {z : β × HP} {o : Nat} {i v : Int32} (H : bnd (sI o i v) f hp = some z) (he : (mCode me)[j]? = some (pc, .iastore, a, b, ts)) (k : f () (setR hp.1 o (upd (hp.1 o) i.toNatClampNeg v), hp.2) = some z → Rn scr cs sl me (j + 1) L st (setR hp.1 o (upd (hp.1 o) i.toNatClampNeg v), hp.2) res) : Rn scr cs sl me j L (.int v :: .int i :: .ref o :: st) hp res := by
  obtain ⟨w, hp1, h1, h2⟩ := bnd_some H
  unfold sI at h1
  split at h1
  · rename_i n ho
    split at h1
    · rename_i hin
      cases h1
      exact Rn.prim he rfl rfl (by simp only [prim]; rw [if_neg (shf_lt ho), ho]; exact if_pos hin) (k h2)
    · cases h1
  · cases h1
theorem r_aR {β : Type} {f : Nat → M β} {z : β × HP} {o : Nat} {i : Int32} (H : bnd (aR o i) f hp = some z) (he : (mCode me)[j]? = some (pc, .aaload, a, b, ts)) (k : ∀ r, f r hp = some z → Rn scr cs sl me (j + 1) L (.ref r :: st) hp res) : Rn scr cs sl me j L (.int i :: .ref o :: st) hp res := by
  obtain ⟨w, hp1, h1, h2⟩ := bnd_some H
  unfold aR at h1
  split at h1
  · rename_i n ho
    split at h1
    · rename_i hin
      obtain ⟨r, hr, h1⟩ := Option.map_eq_some_iff.mp h1
      cases h1
      exact Rn.prim he rfl rfl (by simp only [prim]; rw [if_neg (shf_lt ho), ho]; show (if _ then _ else _) = _; rw [if_pos hin, hr]; rfl) (k w h2)
    · cases h1
  · cases h1
theorem r_sR {β : Type} {f : Unit → M β} {z : β × HP} {o q : Nat} {i : Int32} (H : bnd (sR o i q) f hp = some z) (he : (mCode me)[j]? = some (pc, .aastore, a, b, ts)) (k : f () (hp.1, setR hp.2 o (va_up (hp.2 o) i.toNatClampNeg (some q))) = some z → Rn scr cs sl me (j + 1) L st (hp.1, setR hp.2 o (va_up (hp.2 o) i.toNatClampNeg (some q))) res) : Rn scr cs sl me j L (.ref q :: .int i :: .ref o :: st) hp res := by
  obtain ⟨w, hp1, h1, h2⟩ := bnd_some H
  unfold sR at h1
  split at h1
  · rename_i n ho
    split at h1
    · rename_i hin
      cases h1
      exact Rn.prim he rfl rfl (by simp only [prim]; rw [if_neg (by rintro (h | h | h); exact shf_lt ho h; exact shf_lt hin.1 h; exact h hin.1), ho]; exact if_pos hin.2) (k h2)
    · cases h1
  · cases h1
theorem r_len {β : Type} {f : Int32 → M β} {z : β × HP} {o : Nat} (H : bnd (len o) f hp = some z) (he : (mCode me)[j]? = some (pc, .arraylength, a, b, ts)) (k : ∀ v, f v hp = some z → Rn scr cs sl me (j + 1) L (.int v :: st) hp res) : Rn scr cs sl me j L (.ref o :: st) hp res := by
  obtain ⟨w, hp1, h1, h2⟩ := bnd_some H
  unfold len at h1
  split at h1
  · rename_i n ho
    cases h1
    exact Rn.prim he rfl rfl (by simp only [prim]; rw [if_neg (shf_lt ho), ho]; rfl) (k _ h2)
  · rename_i n ho
    cases h1
    exact Rn.prim he rfl rfl (by simp only [prim]; rw [if_neg (shf_lt ho), ho]; rfl) (k _ h2)
  · cases h1
theorem r_div {β : Type} {f : Int32 → M β} {z : β × HP} {x y : Int32} (H : bnd (divM x y) f hp = some z) (he : (mCode me)[j]? = some (pc, .idiv, a, b, ts)) (k : f (x / y) hp = some z → Rn scr cs sl me (j + 1) L (.int (x / y) :: st) hp res) : Rn scr cs sl me j L (.int y :: .int x :: st) hp res := by
  obtain ⟨w, hp1, h1, h2⟩ := bnd_some H
  unfold divM at h1
  split at h1
  · cases h1
  · rename_i hy
    cases h1
    exact Rn.prim he rfl rfl (by simp only [prim]; exact if_neg hy) (k h2)
theorem r_rem {β : Type} {f : Int32 → M β} {z : β × HP} {x y : Int32} (H : bnd (remM x y) f hp = some z) (he : (mCode me)[j]? = some (pc, .irem, a, b, ts)) (k : f (x - x / y * y) hp = some z → Rn scr cs sl me (j + 1) L (.int (x - x / y * y) :: st) hp res) : Rn scr cs sl me j L (.int y :: .int x :: st) hp res := by
  obtain ⟨w, hp1, h1, h2⟩ := bnd_some H
  unfold remM at h1
  split at h1
  · cases h1
  · rename_i hy
    cases h1
    exact Rn.prim he rfl rfl (by simp only [prim]; exact if_neg hy) (k h2)
theorem r_cpy {β : Type} {f : Unit → M β} {z : β × HP} {o d i : Nat} {sp dp n : Int32} (H : bnd (cpy o sp d dp n) f hp = some z) (he : (mCode me)[j]? = some (pc, .invokestatic i, a, 2, ts)) (hf : 1 ≤ (mRoom me).frames) (hl : (st.map fun v => v.category).sum + 40 ≤ (mRoom me).locals) (k : ∀ hp1, f () hp1 = some z → Rn scr cs sl me (j + 1) L st hp1 res) : Rn scr cs sl me j L (.int n :: .int dp :: .ref d :: .int sp :: .ref o :: st) hp res := by
  obtain ⟨w, hp1, h1, h2⟩ := bnd_some H
  unfold cpy at h1
  split at h1
  · rename_i n0 n1 ho hd
    split at h1
    · rename_i hc
      cases h1
      refine Rn.prim he rfl rfl ?_ (k _ h2)
      simp only [prim, ho, hd, if_true]
      exact if_pos ⟨⟨shf_lt ho, shf_lt hd⟩, hc.1, hc.2.1, hc.2.2.1, hc.2.2.2.1, hc.2.2.2.2, hf, hl⟩
    · cases h1
  · cases h1
theorem r_scr {β : Type} {f : Int32 → M β} {z : β × HP} {i : Int32} (H : bnd (scrM scr i) f hp = some z) (he : (mCode me)[j]? = some (pc, .iaload, a, b, ts)) (k : ∀ v, f v hp = some z → Rn scr cs sl me (j + 1) L (.int v :: st) hp res) : Rn scr cs sl me j L (.int i :: .ref SCR :: st) hp res := by
  obtain ⟨w, hp1, h1, h2⟩ := bnd_some H
  unfold scrM at h1
  split at h1
  · rename_i q
    split at h1
    · rename_i hin
      cases h1
      exact Rn.prim he rfl rfl (by simp only [prim, if_true, Option.bind_some]; exact if_pos hin) (k _ h2)
    · cases h1
  · cases h1
theorem r_scrN {β : Type} {f : Int32 → M β} {z : β × HP} (H : bnd (scrN scr) f hp = some z) (he : (mCode me)[j]? = some (pc, .arraylength, a, b, ts)) (k : ∀ v, f v hp = some z → Rn scr cs sl me (j + 1) L (.int v :: st) hp res) : Rn scr cs sl me j L (.ref SCR :: st) hp res := by
  obtain ⟨w, hp1, h1, h2⟩ := bnd_some H
  unfold scrN at h1
  split at h1
  · cases h1
    exact Rn.prim he rfl rfl (by simp only [prim, if_true, Option.bind_some]) (k _ h2)
  · cases h1
/-- a call -/
theorem Rn.call {e : EI} {me' : ME} {rv : Option Value} {hp1 : HP} (he : (mCode me)[j]? = some e) (h1 : isRet e.2.1 = false) (h2 : isCall e.2.1 e.2.2.2.1 = true) (hm : meths[e.2.2.1]? = some me') (hc : (mRoom me').cells = 0 ∧ (mRoom me').slots = 0) (hok : callOk (mRoom me) e.2.1 me' st cs sl SHF = true)
    (hf : Rn none 0 0 me' 0 (loc0 me' st) [] hp (rv, hp1)) (k : Rn scr cs sl me (j + 1) L (rv.toList ++ st.drop (mArgs me')) hp1 res) : Rn scr cs sl me j L st hp res := by
  obtain ⟨n1, hn1⟩ := hf
  obtain ⟨n2, hn2⟩ := k
  refine ⟨n1 + n2 + 1, ?_⟩
  have g1 := exF_mono n1 n2 hn1
  have g2 := exF_mono n2 n1 hn2
  rw [Nat.add_comm n2 n1] at g2
  simp only [exF, he, Option.bind_some, h1, h2, Bool.false_eq_true, if_false, if_true, hm, hok, g1, hc.1, hc.2, Nat.add_zero]
  exact g2
/-- a callee's function is its run -/
def Sm {α : Type} (me' : ME) (as : List Value) (en : α → Option Value) (f : M α) : Prop := ∀ hp v hp1, f hp = some (v, hp1) → Rn none 0 0 me' 0 (as.map some ++ List.replicate (mLoc me' - mArgs me') none) [] hp (en v, hp1)
def okS (rm : Room) (me' : ME) (st : List Value) (cs sl : Nat) : Bool :=
  decide (mArgs me' ≤ st.length) && decide (mArgs me' ≤ mLoc me') && ((st.take (mArgs me')).all fun v => v.category == 1) && decide (((st.drop (mArgs me')).map fun v => v.category).sum ≤ 8) &&
  decide ((mRoom me').frames + 1 ≤ rm.frames) && decide (8 + (mLoc me' + 11) + (mRoom me').locals ≤ rm.locals) && decide (cs + (mRoom me').cells ≤ rm.cells) && decide (sl + (mRoom me').slots ≤ rm.slots)
theorem r_st {α β : Type} {g : M α} {f : α → M β} {z : β × HP} {me' : ME} {as rest : List Value} {en : α → Option Value} {i : Nat} (H : bnd g f hp = some z) (he : (mCode me)[j]? = some (pc, .invokestatic i, a, 0, ts)) (hm : meths[a]? = some me') (hs : Sm me' as en g) (hst : st = as.reverse ++ rest) (hn : as.length = mArgs me') (hc : (mRoom me').cells = 0 ∧ (mRoom me').slots = 0) (hok : okS (mRoom me) me' st cs sl = true)
    (k : ∀ v hp1, f v hp1 = some z → Rn scr cs sl me (j + 1) L ((en v).toList ++ rest) hp1 res) : Rn scr cs sl me j L st hp res := by
  obtain ⟨v, hp1, h1, h2⟩ := bnd_some H
  have hl : as.reverse.length = mArgs me' := by rw [List.length_reverse]; exact hn
  have hd : st.drop (mArgs me') = rest := by rw [hst, ← hl, List.drop_left]
  have ht : args0 me' st = as := by unfold args0; rw [hst, ← hl, List.take_left, List.reverse_reverse]
  refine Rn.call he rfl rfl hm hc (by simp only [callOk]; exact Bool.and_eq_true_iff.mpr ⟨hok, rfl⟩) (rv := en v) (hp1 := hp1) ?_ ?_
  · unfold loc0; rw [ht]; exact hs _ _ _ h1
  · rw [hd]; exact k v hp1 h2
theorem r_vt {α β : Type} {g : M α} {f : α → M β} {z : β × HP} {me' : ME} {as rest : List Value} {en : α → Option Value} {i ci o : Nat} (H : bnd (cv ci o g) f hp = some z) (he : (mCode me)[j]? = some (pc, .invokevirtual i, a, b, ts)) (hm : meths[a]? = some me') (hci : mCls me' = ci) (hs : Sm me' (.ref o :: as) en g) (hst : st = as.reverse ++ .ref o :: rest) (hn : as.length + 1 = mArgs me') (hc : (mRoom me').cells = 0 ∧ (mRoom me').slots = 0) (hok : okS (mRoom me) me' st cs sl = true)
    (k : ∀ v hp1, f v hp1 = some z → Rn scr cs sl me (j + 1) L ((en v).toList ++ rest) hp1 res) : Rn scr cs sl me j L st hp res := by
  obtain ⟨v, hp1, h1, h2⟩ := bnd_some H
  unfold cv at h1
  split at h1
  · rename_i ho
    have hl : (as.reverse ++ [Value.ref o]).length = mArgs me' := by rw [List.length_append, List.length_reverse]; exact hn
    have hst2 : st = (as.reverse ++ [Value.ref o]) ++ rest := by rw [hst]; simp
    have hd : st.drop (mArgs me') = rest := by rw [hst2, ← hl, List.drop_left]
    have htk : st.take (mArgs me') = as.reverse ++ [Value.ref o] := by rw [hst2, ← hl, List.take_left]
    have ht : args0 me' st = .ref o :: as := by unfold args0; rw [htk]; simp
    have hrec : recvOk (.invokevirtual i) me' st SHF = true := by
      simp only [recvOk, htk, List.getLast?_concat]
      exact decide_eq_true ⟨shf_lt ho, by rw [hci]; exact ho⟩
    refine Rn.call he rfl rfl hm hc (by simp only [callOk]; exact Bool.and_eq_true_iff.mpr ⟨hok, hrec⟩) (rv := en v) (hp1 := hp1) ?_ ?_
    · unfold loc0; rw [ht]; exact hs _ _ _ h1
    · rw [hd]; exact k v hp1 h2
  · cases h1
theorem r_reti {v : Int32} {r : Int32} {hp1 : HP} (H : rt v hp = some (r, hp1)) (he : (mCode me)[j]? = some (pc, .ireturn, a, b, ts)) (hr : mRet me = some .int) (hc : cs ≤ (mRoom me).cells ∧ sl ≤ (mRoom me).slots) : Rn scr cs sl me j L [.int v] hp (eI r, hp1) := by
  cases H
  refine ⟨1, ?_⟩
  simp only [exF, he, Option.bind_some, isRet, if_true, retTo, if_pos hc, hr]
  rfl
theorem r_retz {v : Int32} {r : Int32} {hp1 : HP} (H : retZ v hp = some (r, hp1)) (he : (mCode me)[j]? = some (pc, .ireturn, a, b, ts)) (hr : mRet me = some .boolean) (hc : cs ≤ (mRoom me).cells ∧ sl ≤ (mRoom me).slots) : Rn scr cs sl me j L [.int v] hp (eI r, hp1) := by
  unfold retZ at H
  split at H
  · rename_i hv
    cases H
    refine ⟨1, ?_⟩
    simp only [exF, he, Option.bind_some, isRet, if_true, retTo, if_pos hc, hr]
    rw [if_pos (Or.inr ⟨trivial, hv⟩)]
    rfl
  · cases H
theorem r_retv {r : Unit} {hp1 : HP} (H : rt () hp = some (r, hp1)) (he : (mCode me)[j]? = some (pc, .return_, a, b, ts)) (hr : mRet me = none) (hc : cs ≤ (mRoom me).cells ∧ sl ≤ (mRoom me).slots) : Rn scr cs sl me j L [] hp (eU r, hp1) := by
  cases H
  refine ⟨1, ?_⟩
  simp only [exF, he, Option.bind_some, isRet, if_true, retTo, if_pos hc, hr]
  rfl
theorem r_retr {v r : Nat} {hp1 : HP} {n : String} (H : rt v hp = some (r, hp1)) (he : (mCode me)[j]? = some (pc, .areturn, a, b, ts)) (hr : mRet me = some (.object n)) (hc : cs ≤ (mRoom me).cells ∧ sl ≤ (mRoom me).slots) : Rn scr cs sl me j L [.ref v] hp (eR r, hp1) := by
  cases H
  refine ⟨1, ?_⟩
  simp only [exF, he, Option.bind_some, isRet, if_true, retTo, if_pos hc, hr]
  rfl
end RULES
theorem r_loop {σ β : Type} {B : σ → (σ → M β) → M β} {z : β × HP} (P : σ → HP → Prop) (step : ∀ (k : σ → M β), (∀ s hp, k s hp = some z → P s hp) → ∀ s hp, B s k hp = some z → P s hp) : ∀ (n : Nat) (s : σ) (hp : HP), loopK n B s hp = some z → P s hp := by
  intro n
  induction n with
  | zero => intro s hp h; cases h
  | succ n ih => intro s hp h; exact step (loopK n B) ih s hp h
