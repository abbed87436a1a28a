/-! THE STEPS WITHIN A METHOD, against the machine -/
section PRIM
variable {p : Program} {l : Launch} {e0 : Env} {rm : Room} {s : State} {m : MethodId} {args : Array Value} {below : List Frame} {meth : Method} {c : Code} {H : Heap} {locs : List Loc} {Q : State → Prop}
variable {sh : SH} {hp : HP} {base sb : Nat} {Hb : Heap} {D : va_G} {cI cF : ClassId} {ms : List ME} {y : MethodName} {bs : ByteArray} {nL : Nat} {code : List EI}
theorem app_in {locs : List Loc} {base : Nat} {q : Loc} (h : ∀ l ∈ locs, base ≤ l.base) (hq : base ≤ q.base) : ∀ l ∈ locs ++ [q], base ≤ l.base := by
  intro l hl
  rcases List.mem_append.mp hl with h1 | h1
  · exact h l h1
  · rw [List.mem_singleton.mp h1]
    exact hq
set_option maxHeartbeats 4000000 in
set_option maxRecDepth 100000 in
/-- a field read -/
theorem s_get (hcl : ClOK) (fx : Fx p s m args meth c y bs nL D cI cF) (iv : Iv base Hb D cI cF H sh hp) {o a b idx pc : Nat} {ls : Array Slot} {rest : List Value} {cs sl : Nat} (ho : sh[o]? = some (0, a)) (hk : FieldOK y.cls idx a b) (hdg : decode bs pc = .ok (.getfield idx, 3))
    (kk : W p l e0 rm s m args below meth c H locs cs sl Q (F0 m (pc + 3) ls (fvl base hp a o b :: rest))) : W p l e0 rm s m args below meth c H locs cs sl Q (F0 m pc ls (.ref (base + o) :: rest)) := by
  obtain ⟨hx, hb, hml, hown, hts, hK, -⟩ := fx
  obtain ⟨C, T, N, hc, hb2, hlk⟩ := hk
  obtain ⟨hws, hnm, -, ty, hty, -⟩ := hcl _ _ _ _ hc
  obtain ⟨cell, q1, q2, q3, q4⟩ := cell_obj (iv.2.2.2.1 o (sh_lt ho)) ho hc
  obtain ⟨hS, hfc, kC, hkC, hkind⟩ := hK.1 a _ hc
  obtain ⟨cf, kf, fi, f, hi, hsl⟩ := hS b hb2
  refine W.getf hx hb hown (hts _ hlk) hi (u_facts hfc hkC (u_lays hts hws hb2) hi).1 q1 (by rw [q3]; exact fun h => by cases h) (v := fvl base hp a o b) ?_ rfl rfl hdg kk
  rw [hsl, q4 b hb2]
set_option maxHeartbeats 4000000 in
set_option maxRecDepth 100000 in
/-- a field written -/
theorem s_put (hcl : ClOK) (fx : Fx p s m args meth c y bs nL D cI cF) (iv : Iv base Hb D cI cF H sh hp) {hp' : HP} {o a b idx pc : Nat} {ls : Array Slot} {rest : List Value} {cs sl : Nat} {v : Value} (ho : sh[o]? = some (0, a)) (hk : FieldOK y.cls idx a b) (hp2 : PutOK y a b) (hdg : decode bs pc = .ok (.putfield idx, 3))
    (hv : (kd a b = 0 ∧ ∃ x, v = .int x) ∨ (kd a b = 1 ∧ (v = .int 0 ∨ v = .int 1)) ∨ (kd a b = 2 ∧ ∃ x, v = .ref x)) (hl : ∀ q ∈ locs, base ≤ q.base)
    (hS : noS hp') (h1 : ∀ i, ¬ i = o → hp'.1 i = hp.1 i) (h2 : ∀ i, ¬ i = o → hp'.2 i = hp.2 i) (hV : ∀ k, fvl base hp' a o k = updV (fvl base hp a o) b v k)
    (kk : ∀ (H' : Heap) (locs' : List Loc), Iv base Hb D cI cF H' sh hp' → (∀ q ∈ locs', base ≤ q.base) → W p l e0 rm s m args below meth c H' locs' cs sl Q (F0 m (pc + 3) ls rest)) : W p l e0 rm s m args below meth c H locs cs sl Q (F0 m pc ls (v :: .ref (base + o) :: rest)) := by
  obtain ⟨hx, hb, hml, hown, hts, hK, hini, -⟩ := fx
  obtain ⟨C, T, N, hc, hb2, hlk⟩ := hk
  obtain ⟨hws, hnm, -, ty, hty, htk⟩ := hcl _ _ _ _ hc
  have hap := va_apart (own := y.cls) hts hws ty hty hnm hK hc
  have hcell := iv.2.2.2.1 o (sh_lt ho)
  obtain ⟨cell, q1, q2, q3, q4⟩ := cell_obj hcell ho hc
  obtain ⟨hSl, hfc, kC, hkC, hkind⟩ := hK.1 a _ hc
  obtain ⟨cf, kf, fi, f, hi, hsl⟩ := hSl b hb2
  have hst := (u_facts hfc hkC (u_lays hts hws hb2) hi).1
  have hnf : narrow (ty b) v = v ∧ fits (ty b) v = true := by
    rcases htk b hb2 with ⟨k1, k2⟩ | ⟨k1, k2⟩ | ⟨k1, k2⟩
    · rcases hv with ⟨-, x, rfl⟩ | ⟨j1, -⟩ | ⟨j1, -⟩
      · rw [k2]; exact ⟨rfl, rfl⟩
      · omega
      · omega
    · rcases hv with ⟨j1, -⟩ | ⟨-, rfl | rfl⟩ | ⟨j1, -⟩
      · omega
      · rw [k2]; exact ⟨by decide, by decide⟩
      · rw [k2]; exact ⟨by decide, by decide⟩
      · omega
    · rcases hv with ⟨j1, -⟩ | ⟨j1, -⟩ | ⟨-, x, rfl⟩
      · omega
      · omega
      · rcases k2 with ⟨n, k2⟩ | ⟨t, k2⟩ <;> (rw [k2]; exact ⟨rfl, rfl⟩)
  have key : ∀ H' : Heap, H'[base + o]? = some (cell.setSlot f.slot v) → H'.size = H.size → (∀ q, q ≠ base + o → H'[q]? = H[q]?) → Iv base Hb D cI cF H' sh hp' := by
    intro H' e1 e2 e3
    refine iv.put (sh_lt ho) hS ?_ h1 h2 e2 e3
    unfold cellI
    rw [ho]
    rw [hsl] at e1
    refine ⟨_, hc, ?_⟩
    exact t_OB.to (V := updV (fvl base hp a o) b v) ⟨_, e1, q2, q3, t_set q4 hap hb2 v⟩ (fun k _ => (hV k).symm)
  have hloc : ∀ q ∈ locs ++ [⟨base + o, f.slot⟩], base ≤ q.base := app_in hl (Nat.le_add_right _ _)
  cases hfin : (T b).2.2.2 with
  | false =>
    have hlay := hts _ (hws _ (u_in_lay hb2))
    unfold u_lay at hlay
    rw [if_neg (by rw [hfin]; decide)] at hlay
    have h6 := u_store hfc hkC hkind hlay hi (hty b hb2) hnf.1 hnf.2
    exact W.putK hx hb (f := f) ⟨hown, hts _ hlk, ⟨_, _, _, hi⟩, hst⟩ (by rw [q2]; exact h6) q1 q3 (by rw [hsl]; exact k2_hasslot (q4 b hb2)) rfl rfl hdg fun H' e1 e2 e3 => kk H' _ (key H' e1 e2 e3) hloc
  | true =>
    have hlay := hts _ (hws _ (u_in_lay hb2))
    unfold u_lay at hlay
    rw [if_pos hfin] at hlay
    obtain ⟨p1, p2⟩ := hp2 _ _ _ hc hfin
    have hcf : m.cls = cf := by
      obtain ⟨_, _, c', _, _, _, -, -, hf', -, -, -, hown2, -⟩ := Cond.laysFinal_spec hlay
      have e1 : c' = cf := by have := hi.symm.trans hf'; simp at this; exact this.1.symm
      rw [p1] at hown2
      rw [← e1]; exact Option.some.inj (hown.symm.trans hown2)
    have h6 := u_fits hfc hkC hkind (Or.inr hlay) hi (hty b hb2) hnf.1 hnf.2
    exact W.putFinK hx hb hown (hts _ hlk) hi hst hcf (hini p2) (by rw [q2]; exact h6) q1 q3 (by rw [hsl]; exact k2_hasslot (q4 b hb2)) rfl rfl hdg fun H' e1 e2 e3 => kk H' _ (key H' e1 e2 e3) hloc
set_option maxHeartbeats 4000000 in
set_option maxRecDepth 100000 in
theorem s_iast (fx : Fx p s m args meth c y bs nL D cI cF) (iv : Iv base Hb D cI cF H sh hp) {o n pc : Nat} {i x : Int32} {ls : Array Slot} {rest : List Value} {cs sl : Nat} (ho : sh[o]? = some (1, n)) (hin : ¬ (i < 0 ∨ n ≤ i.toNatClampNeg)) (hdg : decode bs pc = .ok (.iastore, 1)) (hl : ∀ q ∈ locs, base ≤ q.base)
    (kk : ∀ (H' : Heap) (locs' : List Loc), Iv base Hb D cI cF H' sh (setR hp.1 o (upd (hp.1 o) i.toNatClampNeg x), hp.2) → (∀ q ∈ locs', base ≤ q.base) → W p l e0 rm s m args below meth c H' locs' cs sl Q (F0 m (pc + 1) ls rest)) : W p l e0 rm s m args below meth c H locs cs sl Q (F0 m pc ls (.int x :: .int i :: .ref (base + o) :: rest)) := by
  obtain ⟨hx, hb, hml, hown, hts, hK, -⟩ := fx
  have hcell := cell_int (iv.2.2.2.1 o (sh_lt ho)) ho
  refine W.iast hx hb hcell ((hK.2 0 _ rfl).1 n _) (fun q => by cases q) (by show ¬ (i < 0 ∨ (arrV _ _ _).slots.size ≤ _); rw [arrV_size]; exact hin) rfl rfl hdg fun H1 e z oq => ?_
  refine kk H1 _ (iv.put (sh_lt ho) iv.2.2.1 ?_ (fun j hj => setR_ne _ _ hj) (fun _ _ => rfl) z oq) (app_in hl (Nat.le_add_right _ _))
  unfold cellI
  rw [ho]
  show H1[base + o]? = some _
  rw [e, arrV_store]
  congr 2
  funext q
  show _ = Value.int (setR hp.1 o _ o q)
  rw [setR_eq]
  by_cases hq : q = i.toNatClampNeg
  · subst hq
    simp [updV, upd]
  · simp [updV, upd, hq]
set_option maxHeartbeats 4000000 in
set_option maxRecDepth 100000 in
theorem s_aast (fx : Fx p s m args meth c y bs nL D cI cF) (iv : Iv base Hb D cI cF H sh hp) {o n pc q : Nat} {i : Int32} {ls : Array Slot} {rest : List Value} {cs sl : Nat} (ho : sh[o]? = some (2, n)) (hq0 : sh[q]? = some (0, 0)) (hqS : ¬ q = SCR) (hin : ¬ (i < 0 ∨ n ≤ i.toNatClampNeg)) (hdg : decode bs pc = .ok (.aastore, 1)) (hl : ∀ q ∈ locs, base ≤ q.base)
    (kk : ∀ (H' : Heap) (locs' : List Loc), Iv base Hb D cI cF H' sh (hp.1, setR hp.2 o (va_up (hp.2 o) i.toNatClampNeg (some q))) → (∀ q ∈ locs', base ≤ q.base) → W p l e0 rm s m args below meth c H' locs' cs sl Q (F0 m (pc + 1) ls rest)) : W p l e0 rm s m args below meth c H locs cs sl Q (F0 m pc ls (.ref (base + q) :: .int i :: .ref (base + o) :: rest)) := by
  obtain ⟨hx, hb, hml, hown, hts, hK, -⟩ := fx
  have hcell := cell_ref (iv.2.2.2.1 o (sh_lt ho)) ho
  have hr0 : vwCl[0]? = some (RX0, TX0, 9) := rfl
  obtain ⟨cellV, g1, g2, g3, -⟩ := cell_obj (iv.2.2.2.1 q (sh_lt hq0)) hq0 hr0
  have hcls := (hK.1 0 _ hr0).2
  obtain ⟨kA, comp, k1, k2, k3, -⟩ := (hK.2 1 _ rfl).2
  have hcomp : comp = D.1 0 := Option.some.inj (k3.symm.trans hcls.1)
  subst hcomp
  obtain ⟨kC, hkC, -⟩ := hcls.2
  have hlt : i.toNatClampNeg < n := Nat.not_le.mp fun z => hin (Or.inr z)
  have h0 : ¬ i < 0 := fun z => hin (Or.inl z)
  refine W.aast hx hb hcell (fun q h => by cases h) (fun h => by cases h) k1 k2 rfl hkC ⟨h0, by show _ < (arrV _ _ _).slots.size; rw [arrV_size]; exact hlt⟩ g1 (fun q h => by rw [g3] at h; cases h) (by rw [g2]; exact hkC) (by rw [g2]; exact va_assign hcls) rfl rfl hdg fun H1 e z oq => ?_
  refine kk H1 _ (iv.put (sh_lt ho) (noS_setR iv.2.2.1 (noS_up iv.2.2.1 hqS) _) ?_ (fun _ _ => rfl) (fun j hj => setR_ne _ _ hj) z oq) (app_in hl (Nat.le_add_right _ _))
  unfold cellI
  rw [ho]
  show H1[base + o]? = some _
  rw [e, arrV_store]
  congr 2
  funext j
  show _ = trv base (setR hp.2 o _ o j)
  rw [setR_eq]
  by_cases hq : j = i.toNatClampNeg
  · subst hq
    simp [updV, va_up, trv, va_rf]
  · simp [updV, va_up, hq]
set_option maxHeartbeats 4000000 in
set_option maxRecDepth 100000 in
theorem s_new (hcl : ClOK) (fx : Fx p s m args meth c y bs nL D cI cF) (iv : Iv base Hb D cI cF H sh hp) {a idx pc : Nat} {ls : Array Slot} {rest : List Value} {cs sl : Nat} (hk : NewOK y.cls idx a) (hlt : sh.length < SCR) (h1 : cs + 1 ≤ rm.cells) (h2 : sl + (clk.getD a []).length ≤ rm.slots) (hdg : decode bs pc = .ok (.new idx, 3))
    (kk : ∀ (H' : Heap), Iv base Hb D cI cF H' (sh ++ [(0, a)]) (setR hp.1 sh.length (fun _ => 0), setR hp.2 sh.length (fun _ => none)) → W p l e0 rm s m args below meth c H' locs (cs + 1) (sl + (clk.getD a []).length) Q (F0 m (pc + 3) ls (.ref (base + sh.length) :: rest))) : W p l e0 rm s m args below meth c H locs cs sl Q (F0 m pc ls rest) := by
  obtain ⟨hx, hb, hml, hown, hts, hK, -⟩ := fx
  obtain ⟨C, T, N, hc, hlk, hin, hit⟩ := hk
  obtain ⟨hws, hnm, hlen, ty, hty, htk⟩ := hcl _ _ _ _ hc
  have hKn := hK.1 a _ hc
  rw [hlen] at h2 kk
  refine W.newcK hx hb hown (hts _ hlk) (hts _ hin) (hts _ hit) rfl hdg h1 h2 hKn.2.1 iv.1 fun H1 kC hkC e1 z1 o1 => ?_
  refine kk H1 (iv.push hlt (noS_setR iv.2.2.1 (fun _ z => by cases z) _) ?_ (fun j hj => setR_ne _ _ hj) (fun j hj => setR_ne _ _ hj) (by rw [z1, iv.1]) (fun q hq => o1 q (by rw [← iv.1]; exact hq)))
  unfold cellI
  rw [List.getElem?_concat_length]
  refine ⟨_, hc, (u_born ty hts hws hKn hkC e1 hty).to fun k hkN => ?_⟩
  rcases htk k hkN with ⟨k1, k2⟩ | ⟨k1, k2⟩ | ⟨k1, k2⟩
  · rw [k2]; simp [fvl, k1, setR, defaultValue]
  · rw [k2]; simp [fvl, k1, setR, defaultValue]
  · rcases k2 with ⟨n, k2⟩ | ⟨t, k2⟩ <;> (rw [k2]; simp [fvl, k1, setR, defaultValue, trv, va_rf])
set_option maxHeartbeats 4000000 in
set_option maxRecDepth 100000 in
theorem s_newa (hgl : GlOK) (fx : Fx p s m args meth c y bs nL D cI cF) (iv : Iv base Hb D cI cF H sh hp) {pc : Nat} {n : Int32} {ls : Array Slot} {rest : List Value} {cs sl : Nat} (hn : ¬ n < 0) (hn2 : n.toNatClampNeg ≤ 100000) (hlt : sh.length < SCR) (h1 : cs + 1 ≤ rm.cells) (h2 : sl + n.toNatClampNeg ≤ rm.slots) (hdg : decode bs pc = .ok (.newarray .int, 2))
    (kk : ∀ (H' : Heap), Iv base Hb D cI cF H' (sh ++ [(1, n.toNatClampNeg)]) (setR hp.1 sh.length (fun _ => 0), hp.2) → W p l e0 rm s m args below meth c H' locs (cs + 1) (sl + n.toNatClampNeg) Q (F0 m (pc + 2) ls (.ref (base + sh.length) :: rest))) : W p l e0 rm s m args below meth c H locs cs sl Q (F0 m pc ls (.int n :: rest)) := by
  obtain ⟨hx, hb, hml, hown, hts, hK, -⟩ := fx
  refine va_newaK hx hb (atype := .int) (hts _ hgl.1) rfl hdg rfl hn rfl (by show n.toNatClampNeg * 4 ≤ 536870912; omega) h1 h2 iv.1 fun H1 cA e1 z1 o1 hAr hNm => ?_
  have hcA : cA = cI := Option.some.inj (hNm.symm.trans (hK.2 0 _ rfl).2)
  subst hcA
  refine kk H1 (iv.push hlt iv.2.2.1 ?_ (fun j hj => setR_ne _ _ hj) (fun _ _ => rfl) (by rw [z1, iv.1]) (fun q hq => o1 q (by rw [← iv.1]; exact hq)))
  unfold cellI
  rw [List.getElem?_concat_length]
  show H1[base + sh.length]? = some _
  rw [e1]
  congr 2
  funext j
  show _ = Value.int (setR hp.1 sh.length _ sh.length j)
  rw [setR_eq]
  rfl
set_option maxHeartbeats 4000000 in
set_option maxRecDepth 100000 in
theorem s_newr (hgl : GlOK) (fx : Fx p s m args meth c y bs nL D cI cF) (iv : Iv base Hb D cI cF H sh hp) {idx pc : Nat} {n : Int32} {ls : Array Slot} {rest : List Value} {cs sl : Nat} (hk : Cond.classLink y.cls idx RX0 ∈ tbG) (hn : ¬ n < 0) (hn2 : n.toNatClampNeg ≤ 100000) (hlt : sh.length < SCR) (h1 : cs + 1 ≤ rm.cells) (h2 : sl + n.toNatClampNeg ≤ rm.slots) (hdg : decode bs pc = .ok (.anewarray idx, 3))
    (kk : ∀ (H' : Heap), Iv base Hb D cI cF H' (sh ++ [(2, n.toNatClampNeg)]) (hp.1, setR hp.2 sh.length (fun _ => none)) → W p l e0 rm s m args below meth c H' locs (cs + 1) (sl + n.toNatClampNeg) Q (F0 m (pc + 3) ls (.ref (base + sh.length) :: rest))) : W p l e0 rm s m args below meth c H locs cs sl Q (F0 m pc ls (.int n :: rest)) := by
  obtain ⟨hx, hb, hml, hown, hts, hK, -, -, hAO⟩ := fx
  refine W.anew hx hb hown (hts _ hk) (va_AO.use hAO) rfl hdg rfl hn (by omega) h1 h2 fun cA kA comp f1 f2 f3 f4 => ?_
  have hcA : cA = cF := by
    obtain ⟨_, _, -, -, -, k4⟩ := (hK.2 1 _ rfl).2
    exact Option.some.inj (f1.symm.trans k4)
  subst hcA
  have hsz := iv.1
  rw [hsz]
  refine kk _ (iv.push hlt (noS_setR iv.2.2.1 (fun _ z => by cases z) _) ?_ (fun _ _ => rfl) (fun j hj => setR_ne _ _ hj) (by simp) (fun q hq => by rw [Array.getElem?_push, if_neg (Nat.ne_of_lt hq)]))
  unfold cellI
  rw [List.getElem?_concat_length]
  show (H.push _)[base + sh.length]? = some _
  rw [← hsz, Array.getElem?_push_size, arrV_new]
  congr 2
  funext j
  show _ = trv base (setR hp.2 sh.length _ sh.length j)
  rw [setR_eq]
  rfl
end PRIM
