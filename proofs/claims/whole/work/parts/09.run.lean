/-! METHODS: a run of the abstract machine is a run of the machine -/
abbrev mWs (me : ME) : List Cond := Cond.code (mName me) (mBytes me) (mLoc me) (mRet me) :: tbG
def MeOK (ms : List ME) (me : ME) : Prop := chkC (mBytes me) (mCode me) ∧ (∀ e ∈ mCode me, LinkOK ms (mName me) e.2.1 e.2.2.1 e.2.2.2.1) ∧ Cond.code (mName me) (mBytes me) (mLoc me) (mRet me) ∈ tbG ∧ plainName (mName me).cls = true ∧
  ((mName me).cls ≠ "java/lang/invoke/MethodHandle" ∧ (mName me).cls ≠ "java/lang/invoke/VarHandle") ∧ (∃ np, (parseMethodDescriptor (mName me).desc).map (fun d => d.parameters.length) = some np ∧ mArgs me = if mCls me = 99 then np else np + 1) ∧
  (¬ mCls me = 99 → (vwCl[mCls me]?).map (·.1) = some (mName me).cls)
def BodyOK (ms : List ME) (me : ME) : Prop := chkC (mBytes me) (mCode me) ∧ ∀ e ∈ mCode me, LinkOK ms (mName me) e.2.1 e.2.2.1 e.2.2.2.1
def va_KK (D : va_G) (cI cF : ClassId) (U : State) : Prop := va_K D vwCl [(cI, .int), (cF, .object RX0)] U
def Ct (l : Launch) (base sb : Nat) (Hb : Heap) (D : va_G) (cI cF : ClassId) (me : ME) (as : List Value) (sh : SH) (hp : HP) (res : RS) : Prop :=
  Met l (mName me) (mWs me) (mRoom me) (va_Pc (as.map (tr base sb)) (fun U => Iv base Hb D cI cF U.heap sh hp ∧ va_KK D cI cF U ∧ Nw U)) (fun _ _ o t => o = .returned (res.1.map (tr base sb)) ∧ Iv base Hb D cI cF t.heap res.2.2.2.1 res.2.2.2.2) (mRoom me).cells (mRoom me).slots (fun q => base ≤ q)
section RUN
variable {p : Program} {l : Launch} {e0 : Env} {rm : Room} {s : State} {m : MethodId} {args : Array Value} {below : List Frame} {meth : Method} {c : Code} {H : Heap} {locs : List Loc} {Q : State → Prop} {cells slots mc mss : Nat}
theorem my_call {rv : Option Value} {P : Heap → Prop} {free : Addr → Prop} {g : JFrame} {rest : List Value} (hr : va_Run p l e0 rm s m args below meth c H locs cells slots mc mss g rest (fun _ o t => o = .returned rv ∧ P t.heap) free)
    (kk : ∀ (H1 : Heap) (locs1 : List Loc), P H1 → (∀ z ∈ locs1, z ∈ locs ∨ free z.base) → W p l e0 rm s m args below meth c H1 locs1 (cells + mc) (slots + mss) Q { g with pc := g.pc + 3, stack := rv.toList ++ rest }) : W p l e0 rm s m args below meth c H locs cells slots Q g := by
  intro T hT X
  obtain ⟨v, st₀, t, T', L, h0, X', hL, e1, e2, ⟨ho, hP⟩, st⟩ := hr T hT X
  cases ho
  obtain ⟨t2, a1, b1⟩ := kk T'.heap (locs ++ L) (by rw [e1]; exact hP) (fun z hz => (List.mem_append.mp hz).imp id (hL z)) T' rfl X'
  exact ⟨t2, st t2 a1, b1⟩
theorem ct_blind (base sb : Nat) (Hb : Heap) (D : va_G) (cI cF : ClassId) (as : List Value) (sh : SH) (hp : HP) : FrameBlind (va_Pc (as.map (tr base sb)) (fun U => Iv base Hb D cI cF U.heap sh hp ∧ va_KK D cI cF U ∧ Nw U)) := by
  intro a U g mk q
  obtain ⟨q1, q2, q3, q4⟩ := q
  exact ⟨q1, q2, va_K.moved (u := U) (U := U.calling g mk a) (Vm.Alike.refl U.vm) q3, Nw.same (U := U.calling g mk a) rfl q4⟩
theorem pc_at {code : List EI} {j : Nat} {e : EI} (h : code[j]? = some e) : pcAt code j = e.1 := by
  unfold pcAt
  rw [h]
theorem chk_at {bs : ByteArray} {code : List EI} (h : chkC bs code) {j : Nat} {e : EI} (hj : code[j]? = some e) : chkE bs code (pcAt code (j + 1)) e = true := h.2 j e hj
theorem ls_entry {base sb : Nat} {as : List Value} {n : Nat} (hc : ∀ v ∈ as, v.category = 1) (hn : as.length ≤ n) : LsOk base sb n ((lg_sl (as.map (tr base sb)) ++ List.replicate (n - (lg_sl (as.map (tr base sb))).length) Slot.unset).toArray) (as.map some ++ List.replicate (n - as.length) none) := by
  have hsl : lg_sl (as.map (tr base sb)) = as.map (fun v => Slot.val (tr base sb v)) := by
    clear hn
    induction as with
    | nil => rfl
    | cons v vs ih =>
      have hv : (tr base sb v).category = 1 := by rw [tr_cat]; exact hc v List.mem_cons_self
      have ih' := ih (fun w hw => hc w (List.mem_cons_of_mem _ hw))
      simp only [lg_sl, List.map_cons, List.flatMap_cons, hv] at ih' ⊢
      rw [ih']
      rfl
  have hlen : (lg_sl (as.map (tr base sb))).length = as.length := by rw [hsl, List.length_map]
  have he := lv_entry (as.map (tr base sb)) (n := n) (by rw [hlen]; exact hn)
  refine ⟨by simp; omega, he.1, he.2.1, fun i v hi => ?_⟩
  by_cases hil : i < as.length
  · rw [List.getElem?_append_left (by rw [List.length_map]; exact hil), List.getElem?_map] at hi
    obtain ⟨w, hw, hwv⟩ := Option.map_eq_some_iff.mp hi
    cases hwv
    refine ⟨?_, hc _ (List.mem_of_getElem? hw)⟩
    rw [hsl]
    have e := (List.getElem?_eq_some_iff.mp hw).2
    simp [hil, List.getElem?_append_left, e]
  · rw [List.getElem?_append_right (by rw [List.length_map]; omega), List.getElem?_replicate] at hi
    split at hi <;> cases hi
end RUN
