section RUN4
variable {Hb : Heap} {ms : List ME}
set_option maxHeartbeats 8000000 in
/-- THE ABSTRACT MACHINE'S RUN OF A METHOD IS THE MACHINE'S -/
theorem exF_sound (hcl : ClOK) (hgl : GlOK) (hms : ∀ (i : Nat) (me : ME), ms[i]? = some me → MeOK ms me) (base sb : Nat) (Hb : Heap) (D : va_G) (cI cF : ClassId) : ∀ (n : Nat) (scr : Option (Nat × (Nat → Int32))) (me : ME) (j : Nat) (L : List (Option Value)) (st : List Value) (cs sl : Nat) (sh : SH) (hp : HP) (res : RS), exF ms n scr me j L st cs sl sh hp = some res → BodyOK ms me →
    ∀ {p : Program} {l : Launch} {e0 : Env} {s : State} {m : MethodId} {args : Array Value} {below : List Frame} {meth : Method} {c : Code} {H : Heap} {locs : List Loc} {Q : State → Prop} {ls : Array Slot}, Fx p s m args meth c (mName me) (mBytes me) (mLoc me) D cI cF → Sx s base sb Hb scr → Iv base Hb D cI cF H sh hp → (∀ z ∈ locs, base ≤ z.base) → LsOk base sb (mLoc me) ls L →
      (∀ (e : EI) (st' : List Value) (H' : Heap) (locs' : List Loc) (ls' : Array Slot), e ∈ mCode me → decode (mBytes me) e.1 = .ok (e.2.1, 1) → retTo (mRet me) (mRoom me) e.2.1 st' res.2.1 res.2.2.1 res.2.2.2.1 res.2.2.2.2 = some res → Iv base Hb D cI cF H' res.2.2.2.1 res.2.2.2.2 → (∀ z ∈ locs', base ≤ z.base) →
        W p l e0 (mRoom me) s m args below meth c H' locs' res.2.1 res.2.2.1 Q (F0 m e.1 ls' (st'.map (tr base sb)))) →
      W p l e0 (mRoom me) s m args below meth c H locs cs sl Q (F0 m (pcAt (mCode me) j) ls (st.map (tr base sb))) := by
  intro n
  induction n with
  | zero =>
    intro scr me j L st cs sl sh hp res h
    cases h
  | succ n ih =>
    intro scr me j L st cs sl sh hp res h ho p l e0 s m args below meth c H locs Q ls fx sx iv hl hL kk
    simp only [exF, Option.bind_eq_some_iff] at h
    obtain ⟨e, he, h⟩ := h
    have hmem := List.mem_of_getElem? he
    have hch := chk_at ho.1 he
    have hlk := ho.2 e hmem
    rw [pc_at he]
    split at h
    · rename_i hret
      have hde : decode (mBytes me) e.1 = .ok (e.2.1, 1) := by
        obtain ⟨pc, ins, a, b, ts⟩ := e
        cases ins <;> first | (cases hret; done) | (simp only [chkE, ilen, Bool.and_eq_true] at hch; exact of_decide_eq_true hch.1)
      have hrs : cs = res.2.1 ∧ sl = res.2.2.1 ∧ sh = res.2.2.2.1 ∧ hp = res.2.2.2.2 := by
        unfold retTo at h
        split at h
        · split at h
          · split at h
            · cases h; exact ⟨rfl, rfl, rfl, rfl⟩
            · cases h
          · split at h
            · cases h; exact ⟨rfl, rfl, rfl, rfl⟩
            · cases h
          · split at h
            · cases h; exact ⟨rfl, rfl, rfl, rfl⟩
            · cases h
          · cases h
        · cases h
      obtain ⟨rfl, rfl, rfl, rfl⟩ := hrs
      exact kk e st H locs ls hmem hde h iv hl
    · rename_i hret
      have hret : isRet e.2.1 = false := by simpa using hret
      split at h
      · rename_i hcall
        simp only [Option.bind_eq_some_iff] at h
        obtain ⟨me', hme, h⟩ := h
        split at h
        · rename_i hok
          simp only [Option.bind_eq_some_iff] at h
          obtain ⟨r1, h1, h2⟩ := h
          have ho' := hms _ _ hme
          have hok2 := hok
          simp only [callOk, Bool.and_eq_true, decide_eq_true_eq] at hok2
          obtain ⟨⟨⟨⟨⟨⟨⟨⟨k1, k2⟩, k3⟩, k4⟩, k5⟩, k6⟩, k7⟩, k8⟩, k9⟩ := hok2
          have hcat : ∀ v ∈ args0 me' st, v.category = 1 := by
            intro v hv
            unfold args0 at hv
            have := List.all_eq_true.mp k3 v (List.mem_reverse.mp hv)
            simpa using this
          have hlen : (args0 me' st).length = mArgs me' := by
            unfold args0
            rw [List.length_reverse, List.length_take]
            omega
          have hpc0 : pcAt (mCode me') 0 = 0 := ho'.1.1
          have hM : Ct l base sb Hb D cI cF me' (args0 me' st) sh hp r1 := by
            refine ct_of ho' hcat hlen k2 ?_
            intro p e0 s m args below meth c H locs Q ls fx' iv' hl' hL' kk'
            have := ih none me' 0 (loc0 me' st) [] 0 0 sh hp r1 h1 ⟨ho'.1, ho'.2.1⟩ (p := p) (l := l) (e0 := e0) (s := s) (m := m) (args := args) (below := below) (meth := meth) (c := c) (H := H) (locs := locs) (Q := Q) (ls := ls) fx' (fun q hq => by cases hq) iv' hl' hL' kk'
            rw [hpc0] at this
            exact this
          obtain ⟨pc, ins, a, b, ts⟩ := e
          have hplain : decode (mBytes me) pc = .ok (ins, 3) ∧ pcAt (mCode me) (j + 1) = pc + 3 := by
            cases ins <;> first | (cases hcall; done) | exact chk_pl hch rfl
          refine call_sound fx iv hl hme ho' hL.2.1 hok ?_ hM hplain.1 ?_
          · cases ins <;> first | (cases hcall; done) | exact Or.inl ⟨_, rfl, hlk⟩ | (have hb : b = 0 := (by simpa [isCall] using hcall); subst hb; first | exact Or.inr (Or.inl ⟨_, rfl, hlk⟩) | exact Or.inr (Or.inr ⟨_, rfl, hlk⟩))
          · intro H' locs' iv' hl'
            rw [← hplain.2]
            exact ih scr me (j + 1) L _ _ _ _ _ res h2 ho fx sx iv' hl' hL kk
        · cases h
      · rename_i hcall
        simp only [Option.bind_eq_some_iff] at h
        obtain ⟨q, h1, h2⟩ := h
        refine prim_sound hcl hgl fx sx h1 hch hlk iv hl hL ?_
        intro H' locs' ls' iv' hl' hL'
        exact ih scr me q.1 q.2.1 q.2.2.1 q.2.2.2.1 q.2.2.2.2.1 q.2.2.2.2.2.1 q.2.2.2.2.2.2 res h2 ho fx sx iv' hl' hL' kk
end RUN4
