section RUN3
variable {p : Program} {l : Launch} {e0 : Env} {rm : Room} {s : State} {m : MethodId} {args : Array Value} {below : List Frame} {meth : Method} {c : Code} {H : Heap} {locs : List Loc} {Q : State → Prop} {cs sl : Nat}
variable {sh : SH} {hp : HP} {base sb : Nat} {Hb : Heap} {D : va_G} {cI cF : ClassId} {ms : List ME} {y : MethodName} {bs : ByteArray} {nL : Nat}
theorem np_sig {me : ME} {np : Nat} (h : (parseMethodDescriptor (mName me).desc).map (fun d => d.parameters.length) = some np) : ∀ sig, parseMethodDescriptor (mName me).desc = some sig → np = sig.parameters.length := by
  intro sig hs
  rw [hs] at h
  exact (Option.some.inj h).symm
theorem getLast_split {α : Type} {l : List α} {x : α} (h : l.getLast? = some x) : ∃ init, l = init ++ [x] := by
  refine ⟨l.dropLast, ?_⟩
  have hne : l ≠ [] := by
    intro h0
    rw [h0] at h
    cases h
  rw [List.getLast?_eq_some_getLast hne] at h
  cases h
  exact (List.dropLast_concat_getLast hne).symm
set_option maxHeartbeats 8000000 in
/-- a call, whichever its kind -/
theorem call_sound (fx : Fx p s m args meth c y bs nL D cI cF) (iv : Iv base Hb D cI cF H sh hp) (hl : ∀ z ∈ locs, base ≤ z.base) {i : Instr} {a pc : Nat} {me' : ME} (hme : ms[a]? = some me') (ho : MeOK ms me') {st : List Value} {ls : Array Slot} (hls : ls.size = nL) {res : RS}
    (hok : callOk rm i me' st cs sl sh = true) (hi : (∃ idx, i = .invokevirtual idx ∧ LinkOK ms y i a 0) ∨ (∃ idx, i = .invokespecial idx ∧ LinkOK ms y i a 0) ∨ ∃ idx, i = .invokestatic idx ∧ LinkOK ms y i a 0)
    (hM : Ct l base sb Hb D cI cF me' (args0 me' st) sh hp res) (hdg : decode bs pc = .ok (i, 3))
    (kk : ∀ (H' : Heap) (locs' : List Loc), Iv base Hb D cI cF H' res.2.2.2.1 res.2.2.2.2 → (∀ z ∈ locs', base ≤ z.base) → W p l e0 rm s m args below meth c H' locs' (cs + (mRoom me').cells) (sl + (mRoom me').slots) Q (F0 m (pc + 3) ls ((res.1.toList ++ st.drop (mArgs me')).map (tr base sb)))) :
    W p l e0 rm s m args below meth c H locs cs sl Q (F0 m pc ls (st.map (tr base sb))) := by
  obtain ⟨hx, hb, hml, hown, hts, hK, hini, hN⟩ := fx
  simp only [callOk, Bool.and_eq_true, decide_eq_true_eq] at hok
  obtain ⟨⟨⟨⟨⟨⟨⟨⟨k1, k2⟩, k3⟩, k4⟩, k5⟩, k6⟩, k7⟩, k8⟩, k9⟩ := hok
  obtain ⟨o1, o2, o3, o4, o5, ⟨np, o6, o7⟩, o8⟩ := ho
  have hww := ws_warm (s := s) (args := args) hts o3
  have hcode : (Cond.code (mName me') (mBytes me') (mLoc me') (mRet me')).before args s = true := hts _ o3
  have hst : st.map (tr base sb) = (st.take (mArgs me')).map (tr base sb) ++ (st.drop (mArgs me')).map (tr base sb) := by rw [← List.map_append, List.take_append_drop]
  have hrest : 2 * (F0 m pc ls (st.map (tr base sb))).monitorRoom + (((st.drop (mArgs me')).map (tr base sb)).map fun v => v.category).sum ≤ 8 := lv_room (by rw [tr_sum]; exact k4)
  have hback : ∀ (H1 : Heap) (locs1 : List Loc), Iv base Hb D cI cF H1 res.2.2.2.1 res.2.2.2.2 → (∀ z ∈ locs1, z ∈ locs ∨ base ≤ z.base) →
      W p l e0 rm s m args below meth c H1 locs1 (cs + (mRoom me').cells) (sl + (mRoom me').slots) Q { F0 m pc ls (st.map (tr base sb)) with pc := pc + 3, stack := (res.1.map (tr base sb)).toList ++ (st.drop (mArgs me')).map (tr base sb) } := by
    intro H1 locs1 hI hz
    have := kk H1 locs1 hI (fun z hz1 => (hz z hz1).elim (hl z) id)
    rw [List.map_append] at this
    have e : (res.1.map (tr base sb)).toList = res.1.toList.map (tr base sb) := by cases res.1 <;> rfl
    rw [e]
    exact this
  have hpc : ∀ U : State, U.heap = H → s.WarmedH U.vm → va_Pc ((args0 me' st).map (tr base sb)) (fun U => Iv base Hb D cI cF U.heap sh hp ∧ va_KK D cI cF U ∧ Nw U) ((args0 me' st).map (tr base sb)).toArray U := fun U hU hW => ⟨rfl, by rw [hU]; exact iv, va_K.moved hW.alike hK, hN.warm hW⟩
  have htl : (st.take (mArgs me')).length = mArgs me' := by rw [List.length_take]; omega
  have hlk : ∀ {own : String} {idx : Nat}, LinkNOK own idx (mName me') → (Cond.methodLink own idx (mName me')).before args s = true ∨ ∃ host, (Cond.methodLinkNest own idx (mName me') host).before args s = true := by
    intro own idx h
    rcases h with h | ⟨host, h⟩
    · exact Or.inl (hts _ h)
    · exact Or.inr ⟨host, va_Nw.use rfl (hN.1 _ _ _ _ h)⟩
  rcases hi with ⟨idx, rfl, hL⟩ | ⟨idx, rfl, hL⟩ | ⟨idx, rfl, hL⟩
  · obtain ⟨⟨me2, hm2, hlink, hinit⟩, hrow⟩ := hL
    cases hme.symm.trans hm2
    obtain ⟨r1, r2, r3⟩ := hrow _ hme
    rw [if_neg r3] at o7
    simp only [recvOk] at k9
    split at k9
    · rename_i o hlast
      have k9 := of_decide_eq_true k9
      obtain ⟨init, hinit2⟩ := getLast_split hlast
      have hil : init.length = np := by
        have := congrArg List.length hinit2
        rw [htl, List.length_append, List.length_singleton] at this
        omega
      have hargs : args0 me' st = .ref o :: init.reverse := by
        unfold args0
        rw [hinit2]
        simp
      have hcls := o8 r3
      obtain ⟨r, hr, hrc⟩ := Option.map_eq_some_iff.mp hcls
      have hcell := cell_obj (iv.2.2.2.1 o (sh_lt k9.2)) k9.2 hr
      obtain ⟨cell, q1, q2, q3, -⟩ := hcell
      have hfc := (hK.1 _ _ hr).2.1
      have hbase : tr base sb (.ref o) = .ref (base + o) := tr_ref k9.1
      have hargs2 : (args0 me' st).map (tr base sb) = .ref (base + o) :: (init.reverse).map (tr base sb) := by rw [hargs, List.map_cons, hbase]
      have hpre : PreV s H (mName me').cls (base + o) (va_Pc ((args0 me' st).map (tr base sb)) (fun U => Iv base Hb D cI cF U.heap sh hp ∧ va_KK D cI cF U ∧ Nw U)) ((init.reverse).map (tr base sb)) :=
        ⟨ct_blind base sb Hb D cI cF _ sh hp, ⟨cell, q1, by rw [q3]; rfl, by rw [q2, ← hrc]; exact hfc⟩, fun U hU hW => by rw [← hargs2]; exact hpc U hU hW⟩
      have hstk : (F0 m pc ls (st.map (tr base sb))).stack = ((init.reverse).map (tr base sb)).reverse ++ .ref (base + o) :: (st.drop (mArgs me')).map (tr base sb) := by
        show st.map (tr base sb) = _
        rw [hst, hinit2]
        simp [hbase]
      rcases hlk hlink with h | ⟨host, h⟩
      · exact my_call (va_runV (C := (mName me').cls) (n := np) (Ts := tbG) ⟨hx, hb, hml, hown, hts⟩ hM ⟨⟨rfl, rfl, k5, k6, hww, List.mem_cons_self, hcode, hts _ hinit, o5, np_sig o6, h⟩, hts _ r1, hts _ r2⟩ hpre rfl (by simp [hil]) hls hstk hrest hdg ⟨k7, k8⟩) hback
      · exact my_call (va_runVN (C := (mName me').cls) (n := np) (Ts := tbG) ⟨hx, hb, hml, hown, hts⟩ hM ⟨⟨⟨rfl, rfl, k5, k6, hww, List.mem_cons_self⟩, hcode, hts _ hinit, o5, np_sig o6, h⟩, hts _ r1, hts _ r2⟩ hpre rfl (by simp [hil]) hls hstk hrest hdg ⟨k7, k8⟩) hback
    · cases k9
  · obtain ⟨⟨me2, hm2, hlink, hinit⟩, hrow⟩ := hL.2 rfl
    cases hme.symm.trans hm2
    obtain ⟨r1, r2, r4, r3⟩ := hrow _ hme
    rw [if_neg r3] at o7
    simp only [recvOk] at k9
    split at k9
    · rename_i o hlast
      obtain ⟨init, hinit2⟩ := getLast_split hlast
      have hil : init.length = np := by
        have := congrArg List.length hinit2
        rw [htl, List.length_append, List.length_singleton] at this
        omega
      have hargs : args0 me' st = .ref o :: init.reverse := by
        unfold args0
        rw [hinit2]
        simp
      have hbase : tr base sb (.ref o) = .ref (if o = SCR then sb else base + o) := rfl
      have hargs2 : (args0 me' st).map (tr base sb) = .ref (if o = SCR then sb else base + o) :: (init.reverse).map (tr base sb) := by rw [hargs, List.map_cons, hbase]
      have hpre : PreS s H (va_Pc ((args0 me' st).map (tr base sb)) (fun U => Iv base Hb D cI cF U.heap sh hp ∧ va_KK D cI cF U ∧ Nw U)) (.ref (if o = SCR then sb else base + o) :: (init.reverse).map (tr base sb)) :=
        ⟨ct_blind base sb Hb D cI cF _ sh hp, fun U hU hW => by rw [← hargs2]; exact hpc U hU hW⟩
      have hstk : (F0 m pc ls (st.map (tr base sb))).stack = ((init.reverse).map (tr base sb)).reverse ++ .ref (if o = SCR then sb else base + o) :: (st.drop (mArgs me')).map (tr base sb) := by
        show st.map (tr base sb) = _
        rw [hst, hinit2]
        simp [hbase]
      rw [r4] at hcode
      have hM' := hM
      unfold Ct at hM'
      have hmem : Cond.code (mName me') (mBytes me') (mLoc me') none ∈ mWs me' := by rw [← r4]; exact List.mem_cons_self
      have hww2 := ws_warm (s := s) (args := args) hts o3
      rcases hlk hlink with h | ⟨host, h⟩
      · exact my_call (va_runI (n := np) (Ts := tbG) ⟨hx, hb, hml, hown, hts⟩ hM' ⟨⟨rfl, rfl, k5, k6, hww2, hmem, hcode, hts _ hinit, o5, np_sig o6, h⟩, r2, hts _ r1⟩ hpre rfl (by simp [hil]) hls hstk hrest hdg ⟨k7, k8⟩) hback
      · exact my_call (va_runIN (n := np) (Ts := tbG) ⟨hx, hb, hml, hown, hts⟩ hM' ⟨⟨⟨rfl, rfl, k5, k6, hww2, hmem⟩, hcode, hts _ hinit, o5, np_sig o6, h⟩, r2, hts _ r1⟩ hpre rfl (by simp [hil]) hls hstk hrest hdg ⟨k7, k8⟩) hback
    · cases k9
  · obtain ⟨⟨me2, hm2, hlink, hinit⟩, hrow⟩ := hL.2 rfl
    cases hme.symm.trans hm2
    obtain ⟨r1, r3⟩ := hrow _ hme
    rw [if_pos r3] at o7
    have hpre : PreS s H (va_Pc ((args0 me' st).map (tr base sb)) (fun U => Iv base Hb D cI cF U.heap sh hp ∧ va_KK D cI cF U ∧ Nw U)) ((args0 me' st).map (tr base sb)) := ⟨ct_blind base sb Hb D cI cF _ sh hp, hpc⟩
    have hstk : (F0 m pc ls (st.map (tr base sb))).stack = ((args0 me' st).map (tr base sb)).reverse ++ (st.drop (mArgs me')).map (tr base sb) := by
      show st.map (tr base sb) = _
      rw [hst]
      simp [args0]
    have hal : ((args0 me' st).map (tr base sb)).length = np := by
      rw [List.length_map]
      unfold args0
      rw [List.length_reverse, htl, o7]
    rcases hlk hlink with h | ⟨host, h⟩
    · exact my_call (va_runS (n := np) (Ts := tbG) ⟨hx, hb, hml, hown, hts⟩ hM ⟨⟨rfl, rfl, k5, k6, hww, List.mem_cons_self, hcode, hts _ hinit, o5, np_sig o6, h⟩, hts _ r1⟩ hpre rfl hal hls hstk hrest hdg ⟨k7, k8⟩) hback
    · exact my_call (va_runSN (n := np) (Ts := tbG) ⟨hx, hb, hml, hown, hts⟩ hM ⟨⟨⟨rfl, rfl, k5, k6, hww, List.mem_cons_self⟩, hcode, hts _ hinit, o5, np_sig o6, h⟩, hts _ r1, trivial⟩ hpre rfl hal hls hstk hrest hdg ⟨k7, k8⟩) hback
end RUN3
