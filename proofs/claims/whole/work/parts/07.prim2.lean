section PRIM2
variable {p : Program} {l : Launch} {e0 : Env} {rm : Room} {s : State} {m : MethodId} {args : Array Value} {below : List Frame} {meth : Method} {c : Code} {H : Heap} {locs : List Loc} {Q : State → Prop}
variable {sh : SH} {hp : HP} {base sb : Nat} {Hb : Heap} {D : va_G} {cI cF : ClassId} {ms : List ME} {y : MethodName} {bs : ByteArray} {nL : Nat} {code : List EI}
theorem nn_int {z : Int32} (hz : ¬ z < 0) : z.toInt = (z.toNatClampNeg : Int) := by
  have hz0 : (0 : Int) ≤ z.toInt := by
    have := Int32.not_lt.mp hz
    simpa using Int32.le_iff_toInt_le.mp this
  show z.toInt = ((z.toInt.toNat : Nat) : Int)
  omega
set_option maxHeartbeats 4000000 in
set_option maxRecDepth 100000 in
theorem s_copy (hgl : GlOK) (fx : Fx p s m args meth c y bs nL D cI cF) (iv : Iv base Hb D cI cF H sh hp) {idx pc o d n0 n1 : Nat} {sp dp n : Int32} {ls : Array Slot} {rest : List Value} {cs sl : Nat} (hk : Cond.methodLink y.cls idx arraycopyName ∈ tbG) (hls : ls.size = nL) (ho : sh[o]? = some (1, n0)) (hd : sh[d]? = some (1, n1))
    (h1 : ¬ sp < 0) (h2 : ¬ dp < 0) (h3 : ¬ n < 0) (h4 : sp.toNatClampNeg + n.toNatClampNeg ≤ n0) (h5 : dp.toNatClampNeg + n.toNatClampNeg ≤ n1) (hf : 1 ≤ rm.frames) (hlo : (rest.map fun v => v.category).sum + 40 ≤ rm.locals) (hdg : decode bs pc = .ok (.invokestatic idx, 3)) (hl : ∀ q ∈ locs, base ≤ q.base)
    (kk : ∀ (H' : Heap) (locs' : List Loc), Iv base Hb D cI cF H' sh (setR hp.1 d (va_cpy (hp.1 o) (hp.1 d) sp.toNatClampNeg dp.toNatClampNeg n.toNatClampNeg), hp.2) → (∀ q ∈ locs', base ≤ q.base) → W p l e0 rm s m args below meth c H' locs' cs sl Q (F0 m (pc + 3) ls rest)) : W p l e0 rm s m args below meth c H locs cs sl Q (F0 m pc ls (.int n :: .int dp :: .ref (base + d) :: .int sp :: .ref (base + o) :: rest)) := by
  obtain ⟨hx, hb, hml, hown, hts, hK, -⟩ := fx
  intro T hT X
  have hc0 := cell_int (iv.2.2.2.1 o (sh_lt ho)) ho
  have hc1 := cell_int (iv.2.2.2.1 d (sh_lt hd)) hd
  obtain ⟨-, k0, hk0, cm0, hkk0⟩ := (hK.2 0 _ rfl).1 n0 (fun j => .int (hp.1 o j))
  obtain ⟨-, k1, hk1, cm1, hkk1⟩ := (hK.2 0 _ rfl).1 n1 (fun j => .int (hp.1 d j))
  obtain ⟨vm', X', step⟩ := X.arraycopy hx hown (hts _ hk) (hts _ hgl.2.2.2.2.1) (hts _ hgl.2.2.2.2.2.1) (hts _ hgl.2.2.2.2.2.2.1) (src := base + o) (dst := base + d) (cs := arrV cI n0 (fun j => .int (hp.1 o j))) (cd := arrV cI n1 (fun j => .int (hp.1 d j))) (srcPos := sp) (destPos := dp) (n := n) (by rw [hT]; exact hc0) (by rw [hT]; exact hc1)
    (fun _ h => by cases h) (fun _ h => by cases h) (fun h => by cases h) (fun h => by cases h) hk0 hk1 hkk0 hkk1 (by simp [refKind]) h1 h2 h3
    (by rw [nn_int h1, nn_int h3]; show ¬ _ > ((arrV cI n0 (fun j => .int (hp.1 o j))).slots.size : Int); rw [arrV_size]; omega)
    (by rw [nn_int h2, nn_int h3]; show ¬ _ > ((arrV cI n1 (fun j => .int (hp.1 d j))).slots.size : Int); rw [arrV_size]; omega)
    (fun vm₁ _ i hi => by
      have e : (arrV cI n0 (fun j => .int (hp.1 o j))).slots.getD (sp.toNatClampNeg + i) .null = .int (hp.1 o (sp.toNatClampNeg + i)) := by
        rw [Array.getD_eq_getD_getElem?, arrV_read _ _ (by omega)]
        rfl
      refine ⟨?_, ?_⟩
      · rw [e]
        rfl
      · rw [e]
        exact trivial)
    (g := F0 m pc ls (.int n :: .int dp :: .ref (base + d) :: .int sp :: .ref (base + o) :: rest)) rfl (by rw [hml]; exact hls) (rest := rest) rfl (by rw [hb]; exact hdg) hf (by
      show 2 * 0 + _ + _ ≤ _
      have : nativeFrameWords "java/lang/System" "arraycopy" 5 + 11 ≤ 40 := by decide +kernel
      omega)
  have e1 : copied (arrV cI n0 (fun j => .int (hp.1 o j))) (arrV cI n1 (fun j => .int (hp.1 d j))) sp dp n = arrV cI n1 (fun j => .int (va_cpy (hp.1 o) (hp.1 d) sp.toNatClampNeg dp.toNatClampNeg n.toNatClampNeg j)) := va_copied (fun z => .int z) cI cI (hp.1 o) (hp.1 d) h4
  rw [e1] at X' step
  have hlt : base + d < H.size := (Array.getElem?_eq_some_iff.mp hc1).1
  generalize hcc : arrV cI n1 (fun j => .int (va_cpy (hp.1 o) (hp.1 d) sp.toNatClampNeg dp.toNatClampNeg n.toNatClampNeg j)) = cc at X' step
  have hheap : ((T.setVm vm').setCell (base + d) cc).heap = H.setIfInBounds (base + d) cc := by rw [← hT]; rfl
  obtain ⟨t, a1, b1⟩ := kk _ _ (iv.put (H' := H.setIfInBounds (base + d) cc) (hp' := (setR hp.1 d (va_cpy (hp.1 o) (hp.1 d) sp.toNatClampNeg dp.toNatClampNeg n.toNatClampNeg), hp.2)) (sh_lt hd) iv.2.2.1 (by
      unfold cellI
      rw [hd]
      show (H.setIfInBounds (base + d) cc)[base + d]? = some _
      rw [← hcc]
      simp [Array.getElem?_setIfInBounds, hlt, setR_eq]) (fun j hj => setR_ne _ _ hj) (fun _ _ => rfl) (by simp) (fun q hq => by simp [Array.getElem?_setIfInBounds, Ne.symm hq])) (fun q hq => by
      rcases List.mem_append.mp hq with h | h
      · exact hl q h
      · obtain ⟨z, -, hz⟩ := List.mem_map.mp h
        rw [← hz]
        exact Nat.le_add_right _ _) _ hheap X'
  exact ⟨t, step t a1, b1⟩
theorem chk_pl {i : Instr} {pc j : Nat} (h : (decide (decode bs pc = .ok (i, ilen i)) && (isRet i || decide (pcAt code (j + 1) = pc + ilen i))) = true) (hr : isRet i = false) : decode bs pc = .ok (i, ilen i) ∧ pcAt code (j + 1) = pc + ilen i := by
  rw [hr] at h
  simpa using h
end PRIM2
