section PRIM3
variable {p : Program} {l : Launch} {e0 : Env} {rm : Room} {s : State} {m : MethodId} {args : Array Value} {below : List Frame} {meth : Method} {c : Code} {H : Heap} {locs : List Loc} {Q : State → Prop}
variable {sh : SH} {hp : HP} {base sb : Nat} {Hb : Heap} {D : va_G} {cI cF : ClassId} {ms : List ME} {y : MethodName} {bs : ByteArray} {nL : Nat} {code : List EI}
set_option maxHeartbeats 20000000 in
set_option maxRecDepth 100000 in
theorem prim_sound (hcl : ClOK) (hgl : GlOK) (fx : Fx p s m args meth c y bs nL D cI cF) {scr : Option (Nat × (Nat → Int32))} (sx : Sx s base sb Hb scr) {e : EI} {j : Nat} {L : List (Option Value)} {st : List Value} {cs sl : Nat} {q : CF} {ls : Array Slot}
    (hex : prim rm scr e j L st cs sl sh hp = some q) (hch : chkE bs code (pcAt code (j + 1)) e = true) (hlk : LinkOK ms y e.2.1 e.2.2.1 e.2.2.2.1) (iv : Iv base Hb D cI cF H sh hp) (hl : ∀ z ∈ locs, base ≤ z.base) (hL : LsOk base sb nL ls L)
    (kk : ∀ (H' : Heap) (locs' : List Loc) (ls' : Array Slot), Iv base Hb D cI cF H' q.2.2.2.2.2.1 q.2.2.2.2.2.2 → (∀ z ∈ locs', base ≤ z.base) → LsOk base sb nL ls' q.2.1 → W p l e0 rm s m args below meth c H' locs' q.2.2.2.1 q.2.2.2.2.1 Q (F0 m (pcAt code q.1) ls' (q.2.2.1.map (tr base sb)))) :
    W p l e0 rm s m args below meth c H locs cs sl Q (F0 m e.1 ls (st.map (tr base sb))) := by
  obtain ⟨pc, ins, a, b, ts⟩ := e
  have hx := fx.1
  have hb := fx.2.1
  have hts := fx.2.2.2.2.1
  have hown := fx.2.2.2.1
  dsimp only at hlk ⊢
  cases ins
  case iload_n k =>
    obtain ⟨hd, hn⟩ := chk_pl (code := code) (j := j) hch rfl
    dsimp only [ilen] at hd hn
    simp only [prim, Option.bind_eq_some_iff] at hex
    obtain ⟨x, hx1, hex⟩ := hex
    cases hex
    refine lv_iload_n hx hb hd rfl (hL.int hx1) ?_
    rw [← hn]
    exact kk H locs ls iv hl hL
  case iload k =>
    obtain ⟨hd, hn⟩ := chk_pl (code := code) (j := j) hch rfl
    dsimp only [ilen] at hd hn
    simp only [prim, Option.bind_eq_some_iff] at hex
    obtain ⟨x, hx1, hex⟩ := hex
    cases hex
    refine lv_iload hx hb hd (hL.int hx1) ?_
    rw [← hn]
    exact kk H locs ls iv hl hL
  case aload_n k =>
    obtain ⟨hd, hn⟩ := chk_pl (code := code) (j := j) hch rfl
    dsimp only [ilen] at hd hn
    simp only [prim, Option.bind_eq_some_iff] at hex
    obtain ⟨x, hx1, hex⟩ := hex
    cases hex
    refine lv_aload_n hx hb hd rfl (hL.rf hx1) ?_
    rw [← hn]
    exact kk H locs ls iv hl hL
  case aload k =>
    obtain ⟨hd, hn⟩ := chk_pl (code := code) (j := j) hch rfl
    dsimp only [ilen] at hd hn
    simp only [prim, Option.bind_eq_some_iff] at hex
    obtain ⟨x, hx1, hex⟩ := hex
    cases hex
    refine lv_aload hx hb hd (hL.rf hx1) ?_
    rw [← hn]
    exact kk H locs ls iv hl hL
  case istore_n k =>
    obtain ⟨hd, hn⟩ := chk_pl (code := code) (j := j) hch rfl
    dsimp only [ilen] at hd hn
    simp only [prim] at hex
    split at hex
    · rename_i x r
      split at hex
      · rename_i hk
        cases hex
        refine lv_istore_n hx hb hd rfl hL.has (by rw [← hL.1]; exact hk) rfl (fun ls' hl' => ?_)
        rw [← hn]
        exact kk H locs ls' iv hl (hL.set rfl hl')
      · cases hex
    · cases hex
  case istore k =>
    obtain ⟨hd, hn⟩ := chk_pl (code := code) (j := j) hch rfl
    dsimp only [ilen] at hd hn
    simp only [prim] at hex
    split at hex
    · rename_i x r
      split at hex
      · rename_i hk
        cases hex
        refine lv_istore hx hb hd hL.has (by rw [← hL.1]; exact hk) rfl (fun ls' hl' => ?_)
        rw [← hn]
        exact kk H locs ls' iv hl (hL.set rfl hl')
      · cases hex
    · cases hex
  case astore_n k =>
    obtain ⟨hd, hn⟩ := chk_pl (code := code) (j := j) hch rfl
    dsimp only [ilen] at hd hn
    simp only [prim] at hex
    split at hex
    · rename_i x r
      split at hex
      · rename_i hk
        cases hex
        refine lv_astore_n hx hb hd rfl hL.has (by rw [← hL.1]; exact hk) rfl (fun ls' hl' => ?_)
        rw [← hn]
        exact kk H locs ls' iv hl (hL.set rfl hl')
      · cases hex
    · cases hex
  case astore k =>
    obtain ⟨hd, hn⟩ := chk_pl (code := code) (j := j) hch rfl
    dsimp only [ilen] at hd hn
    simp only [prim] at hex
    split at hex
    · rename_i x r
      split at hex
      · rename_i hk
        cases hex
        refine lv_astore hx hb hd hL.has (by rw [← hL.1]; exact hk) rfl (fun ls' hl' => ?_)
        rw [← hn]
        exact kk H locs ls' iv hl (hL.set rfl hl')
      · cases hex
    · cases hex
  case iconst n =>
    obtain ⟨hd, hn⟩ := chk_pl (code := code) (j := j) hch rfl
    dsimp only [ilen] at hd hn
    simp only [prim] at hex
    cases hex
    refine lv_iconst hx hb hd rfl ?_
    rw [← hn]
    exact kk H locs ls iv hl hL
  case bipush n =>
    obtain ⟨hd, hn⟩ := chk_pl (code := code) (j := j) hch rfl
    dsimp only [ilen] at hd hn
    simp only [prim] at hex
    cases hex
    refine lv_bipush hx hb hd rfl ?_
    rw [← hn]
    exact kk H locs ls iv hl hL
  case sipush n =>
    obtain ⟨hd, hn⟩ := chk_pl (code := code) (j := j) hch rfl
    dsimp only [ilen] at hd hn
    simp only [prim] at hex
    cases hex
    refine lv_sipush hx hb hd rfl ?_
    rw [← hn]
    exact kk H locs ls iv hl hL
  case ldc n =>
    obtain ⟨hd, hn⟩ := chk_pl (code := code) (j := j) hch rfl
    dsimp only [ilen] at hd hn
    simp only [prim] at hex
    cases hex
    refine lv_ldc hx hb hown (hts _ hlk) hd ?_
    rw [← hn]
    exact kk H locs ls iv hl hL
  case ldc_w n =>
    obtain ⟨hd, hn⟩ := chk_pl (code := code) (j := j) hch rfl
    dsimp only [ilen] at hd hn
    simp only [prim] at hex
    cases hex
    refine lv_ldcw hx hb hown (hts _ hlk) hd ?_
    rw [← hn]
    exact kk H locs ls iv hl hL
  case iinc k n =>
    obtain ⟨hd, hn⟩ := chk_pl (code := code) (j := j) hch rfl
    dsimp only [ilen] at hd hn
    simp only [prim, Option.bind_eq_some_iff] at hex
    obtain ⟨x, hx1, hex⟩ := hex
    split at hex
    · rename_i hk
      cases hex
      have hv : L[k]? = some (some (.int x)) := by
        unfold locI at hx1
        split at hx1
        · rename_i z hz
          cases hx1
          exact hz
        · cases hx1
      obtain ⟨i, hi⟩ := List.getElem?_of_mem (lvOf_mem (base := base) (sb := sb) hv)
      refine lv_iinc hx hb hd hL.has hi rfl (by rw [← hL.1]; exact hk) rfl (fun ls' hl' => ?_)
      rw [← hn]
      exact kk H locs ls' iv hl (hL.set rfl hl')
    · cases hex
  case iadd =>
    obtain ⟨hd, hn⟩ := chk_pl (code := code) (j := j) hch rfl
    dsimp only [ilen] at hd hn
    simp only [prim] at hex
    split at hex
    · cases hex
      refine lv_iadd hx hb hd ?_
      rw [← hn]
      exact kk H locs ls iv hl hL
    · cases hex
  case isub =>
    obtain ⟨hd, hn⟩ := chk_pl (code := code) (j := j) hch rfl
    dsimp only [ilen] at hd hn
    simp only [prim] at hex
    split at hex
    · cases hex
      refine lv_isub hx hb hd ?_
      rw [← hn]
      exact kk H locs ls iv hl hL
    · cases hex
  case imul =>
    obtain ⟨hd, hn⟩ := chk_pl (code := code) (j := j) hch rfl
    dsimp only [ilen] at hd hn
    simp only [prim] at hex
    split at hex
    · cases hex
      refine lv_imul hx hb hd ?_
      rw [← hn]
      exact kk H locs ls iv hl hL
    · cases hex
  case iand =>
    obtain ⟨hd, hn⟩ := chk_pl (code := code) (j := j) hch rfl
    dsimp only [ilen] at hd hn
    simp only [prim] at hex
    split at hex
    · cases hex
      refine lv_iand hx hb hd ?_
      rw [← hn]
      exact kk H locs ls iv hl hL
    · cases hex
  case ior =>
    obtain ⟨hd, hn⟩ := chk_pl (code := code) (j := j) hch rfl
    dsimp only [ilen] at hd hn
    simp only [prim] at hex
    split at hex
    · cases hex
      refine lv_ior hx hb hd ?_
      rw [← hn]
      exact kk H locs ls iv hl hL
    · cases hex
  case ixor =>
    obtain ⟨hd, hn⟩ := chk_pl (code := code) (j := j) hch rfl
    dsimp only [ilen] at hd hn
    simp only [prim] at hex
    split at hex
    · cases hex
      refine lv_ixor hx hb hd ?_
      rw [← hn]
      exact kk H locs ls iv hl hL
    · cases hex
  case ishl =>
    obtain ⟨hd, hn⟩ := chk_pl (code := code) (j := j) hch rfl
    dsimp only [ilen] at hd hn
    simp only [prim] at hex
    split at hex
    · cases hex
      refine lv_ishl hx hb hd ?_
      rw [← hn]
      exact kk H locs ls iv hl hL
    · cases hex
  case ishr =>
    obtain ⟨hd, hn⟩ := chk_pl (code := code) (j := j) hch rfl
    dsimp only [ilen] at hd hn
    simp only [prim] at hex
    split at hex
    · cases hex
      refine lv_ishr hx hb hd ?_
      rw [← hn]
      exact kk H locs ls iv hl hL
    · cases hex
  case iushr =>
    obtain ⟨hd, hn⟩ := chk_pl (code := code) (j := j) hch rfl
    dsimp only [ilen] at hd hn
    simp only [prim] at hex
    split at hex
    · cases hex
      refine lv_iushr hx hb hd rfl ?_
      rw [← hn]
      exact kk H locs ls iv hl hL
    · cases hex
  case ineg =>
    obtain ⟨hd, hn⟩ := chk_pl (code := code) (j := j) hch rfl
    dsimp only [ilen] at hd hn
    simp only [prim] at hex
    split at hex
    · cases hex
      refine lv_ineg hx hb hd ?_
      rw [← hn]
      exact kk H locs ls iv hl hL
    · cases hex
  case idiv =>
    obtain ⟨hd, hn⟩ := chk_pl (code := code) (j := j) hch rfl
    dsimp only [ilen] at hd hn
    simp only [prim] at hex
    split at hex
    · split at hex
      · cases hex
      · rename_i hne
        cases hex
        refine lv_idiv hx hb hd hne ?_
        rw [← hn]
        exact kk H locs ls iv hl hL
    · cases hex
  case irem =>
    obtain ⟨hd, hn⟩ := chk_pl (code := code) (j := j) hch rfl
    dsimp only [ilen] at hd hn
    simp only [prim] at hex
    split at hex
    · split at hex
      · cases hex
      · rename_i hne
        cases hex
        refine lv_irem hx hb hd hne ?_
        rw [← hn]
        exact kk H locs ls iv hl hL
    · cases hex
  case dup =>
    obtain ⟨hd, hn⟩ := chk_pl (code := code) (j := j) hch rfl
    dsimp only [ilen] at hd hn
    simp only [prim] at hex
    split at hex
    · cases hex
      refine lv_dup hx hb hd rfl ?_
      rw [← hn]
      exact kk H locs ls iv hl hL
    · cases hex
      refine lv_dup hx hb hd rfl ?_
      rw [← hn]
      exact kk H locs ls iv hl hL
    · cases hex
  case dup2 =>
    obtain ⟨hd, hn⟩ := chk_pl (code := code) (j := j) hch rfl
    dsimp only [ilen] at hd hn
    simp only [prim] at hex
    split at hex
    · cases hex
      refine lv_dup2_11 hx hb hd rfl rfl ?_
      rw [← hn]
      exact kk H locs ls iv hl hL
    · cases hex
  case pop =>
    obtain ⟨hd, hn⟩ := chk_pl (code := code) (j := j) hch rfl
    dsimp only [ilen] at hd hn
    simp only [prim] at hex
    split at hex
    · cases hex
      refine lv_pop hx hb hd rfl ?_
      rw [← hn]
      exact kk H locs ls iv hl hL
    · cases hex
      refine lv_pop hx hb hd rfl ?_
      rw [← hn]
      exact kk H locs ls iv hl hL
    · cases hex
  case goto off =>
    simp only [chkE, Bool.and_eq_true, decide_eq_true_eq] at hch
    obtain ⟨hd, ht⟩ := hch
    simp only [prim] at hex
    cases hex
    exact lv_goto hx hb hd ht (kk H locs ls iv hl hL)
  case ifCond cnd0 off =>
    simp only [chkE, Bool.and_eq_true, decide_eq_true_eq] at hch
    obtain ⟨⟨hd, ht⟩, hn⟩ := hch
    simp only [prim] at hex
    split at hex
    · cases hex
      cases cnd0
      case eq =>
        refine lv_if_eq hx hb hd ht (fun hc => ?_) (fun hc => ?_)
        · have k := kk H locs ls iv hl hL
          simp only [cnd, hc, decide_true, if_true, not_true_eq_false, not_false_eq_true] at k
          exact k
        · have k := kk H locs ls iv hl hL
          simp only [cnd, hc, decide_false, Bool.false_eq_true, if_false, not_true_eq_false, not_false_eq_true, hn] at k
          exact k
      case ne =>
        refine lv_if_ne hx hb hd ht (fun hc => ?_) (fun hc => ?_)
        · have k := kk H locs ls iv hl hL
          simp only [cnd, hc, decide_true, if_true, not_true_eq_false, not_false_eq_true] at k
          exact k
        · have k := kk H locs ls iv hl hL
          simp only [cnd, hc, decide_false, Bool.false_eq_true, if_false, not_true_eq_false, not_false_eq_true, hn] at k
          exact k
      case lt =>
        refine lv_if_lt hx hb hd ht (fun hc => ?_) (fun hc => ?_)
        · have k := kk H locs ls iv hl hL
          simp only [cnd, hc, decide_true, if_true, not_true_eq_false, not_false_eq_true] at k
          exact k
        · have k := kk H locs ls iv hl hL
          simp only [cnd, hc, decide_false, Bool.false_eq_true, if_false, not_true_eq_false, not_false_eq_true, hn] at k
          exact k
      case ge =>
        refine lv_if_ge hx hb hd ht (fun hc => ?_) (fun hc => ?_)
        · have k := kk H locs ls iv hl hL
          simp only [cnd, hc, decide_true, if_true, not_true_eq_false, not_false_eq_true] at k
          exact k
        · have k := kk H locs ls iv hl hL
          simp only [cnd, hc, decide_false, Bool.false_eq_true, if_false, not_true_eq_false, not_false_eq_true, hn] at k
          exact k
      case gt =>
        refine lv_if_gt hx hb hd ht (fun hc => ?_) (fun hc => ?_)
        · have k := kk H locs ls iv hl hL
          simp only [cnd, hc, decide_true, if_true, not_true_eq_false, not_false_eq_true] at k
          exact k
        · have k := kk H locs ls iv hl hL
          simp only [cnd, hc, decide_false, Bool.false_eq_true, if_false, not_true_eq_false, not_false_eq_true, hn] at k
          exact k
      case le =>
        refine lv_if_le hx hb hd ht (fun hc => ?_) (fun hc => ?_)
        · have k := kk H locs ls iv hl hL
          simp only [cnd, hc, decide_true, if_true, not_true_eq_false, not_false_eq_true] at k
          exact k
        · have k := kk H locs ls iv hl hL
          simp only [cnd, hc, decide_false, Bool.false_eq_true, if_false, not_true_eq_false, not_false_eq_true, hn] at k
          exact k
    · cases hex
  case if_icmp cnd0 off =>
    simp only [chkE, Bool.and_eq_true, decide_eq_true_eq] at hch
    obtain ⟨⟨hd, ht⟩, hn⟩ := hch
    simp only [prim] at hex
    split at hex
    · cases hex
      cases cnd0
      case eq =>
        refine lv_icmp_eq hx hb hd ht (fun hc => ?_) (fun hc => ?_)
        · have k := kk H locs ls iv hl hL
          simp only [cnd, hc, decide_true, if_true, not_true_eq_false, not_false_eq_true] at k
          exact k
        · have k := kk H locs ls iv hl hL
          simp only [cnd, hc, decide_false, Bool.false_eq_true, if_false, not_true_eq_false, not_false_eq_true, hn] at k
          exact k
      case ne =>
        refine lv_icmp_ne hx hb hd ht (fun hc => ?_) (fun hc => ?_)
        · have k := kk H locs ls iv hl hL
          simp only [cnd, hc, decide_true, if_true, not_true_eq_false, not_false_eq_true] at k
          exact k
        · have k := kk H locs ls iv hl hL
          simp only [cnd, hc, decide_false, Bool.false_eq_true, if_false, not_true_eq_false, not_false_eq_true, hn] at k
          exact k
      case lt =>
        refine lv_icmp_lt hx hb hd ht (fun hc => ?_) (fun hc => ?_)
        · have k := kk H locs ls iv hl hL
          simp only [cnd, hc, decide_true, if_true, not_true_eq_false, not_false_eq_true] at k
          exact k
        · have k := kk H locs ls iv hl hL
          simp only [cnd, hc, decide_false, Bool.false_eq_true, if_false, not_true_eq_false, not_false_eq_true, hn] at k
          exact k
      case ge =>
        refine lv_icmp_ge hx hb hd ht (fun hc => ?_) (fun hc => ?_)
        · have k := kk H locs ls iv hl hL
          simp only [cnd, hc, decide_true, if_true, not_true_eq_false, not_false_eq_true] at k
          exact k
        · have k := kk H locs ls iv hl hL
          simp only [cnd, hc, decide_false, Bool.false_eq_true, if_false, not_true_eq_false, not_false_eq_true, hn] at k
          exact k
      case gt =>
        refine lv_icmp_gt hx hb hd ht (fun hc => ?_) (fun hc => ?_)
        · have k := kk H locs ls iv hl hL
          simp only [cnd, hc, decide_true, if_true, not_true_eq_false, not_false_eq_true] at k
          exact k
        · have k := kk H locs ls iv hl hL
          simp only [cnd, hc, decide_false, Bool.false_eq_true, if_false, not_true_eq_false, not_false_eq_true, hn] at k
          exact k
      case le =>
        refine lv_icmp_le hx hb hd ht (fun hc => ?_) (fun hc => ?_)
        · have k := kk H locs ls iv hl hL
          simp only [cnd, hc, decide_true, if_true, not_true_eq_false, not_false_eq_true] at k
          exact k
        · have k := kk H locs ls iv hl hL
          simp only [cnd, hc, decide_false, Bool.false_eq_true, if_false, not_true_eq_false, not_false_eq_true, hn] at k
          exact k
    · cases hex
  case tableswitch d lo hi offs =>
    simp only [chkE, Bool.and_eq_true, decide_eq_true_eq] at hch
    obtain ⟨⟨hd0, hlo, hsz⟩, ht⟩ := hch
    have hd : ∃ len, decode bs pc = .ok (.tableswitch d lo hi offs, len) := by
      split at hd0
      · rename_i z hz
        exact ⟨z.2, by rw [hz]; rw [← of_decide_eq_true hd0]⟩
      · cases hd0
    obtain ⟨len, hd⟩ := hd
    simp only [prim] at hex
    split at hex
    · rename_i x r
      simp only [Option.bind_eq_some_iff] at hex
      obtain ⟨t, ht1, hex⟩ := hex
      cases hex
      unfold switchTo at ht1
      have hat : ∀ (k t : Nat), ts[k]? = some t → (d :: offs.toList)[k]?.map (fun o => (pc : Int) + o) = some (pcAt code t : Int) := by
        intro k t h
        have := congrArg (fun z => z[k]?) ht
        simp only [List.getElem?_map] at this
        rw [this, h]
        rfl
      split at ht1
      · rename_i hout
        have := hat _ _ ht1
        simp only [List.getElem?_cons_zero, Option.map_some, Option.some.injEq] at this
        exact lv_tableOut hx hb hd hout this (kk H locs ls iv hl hL)
      · rename_i hin
        have h2 := hat _ _ ht1
        rw [List.getElem?_cons_succ] at h2
        simp only [Option.map_eq_some_iff] at h2
        obtain ⟨off, ho, h3⟩ := h2
        exact lv_tableIn hx hb hd (fun z => hin (Or.inl z)) (fun z => hin (Or.inr z)) (by rw [← Array.getElem?_toList]; exact ho) h3 (kk H locs ls iv hl hL)
    · cases hex
  case lookupswitch d ps =>
    simp only [chkE, Bool.and_eq_true, decide_eq_true_eq] at hch
    obtain ⟨⟨hd0, hso⟩, ht⟩ := hch
    have hd : ∃ len, decode bs pc = .ok (.lookupswitch d ps, len) := by
      split at hd0
      · rename_i z hz
        exact ⟨z.2, by rw [hz]; rw [← of_decide_eq_true hd0]⟩
      · cases hd0
    obtain ⟨len, hd⟩ := hd
    simp only [prim] at hex
    split at hex
    · rename_i x r
      simp only [Option.bind_eq_some_iff] at hex
      obtain ⟨t, ht1, hex⟩ := hex
      cases hex
      exact lv_lookup hx hb hd hso rfl (lk_to ht ht1) (kk H locs ls iv hl hL)
    · cases hex
  case getfield idx =>
    obtain ⟨hd, hn⟩ := chk_pl (code := code) (j := j) hch rfl
    dsimp only [ilen] at hd hn
    simp only [prim] at hex
    split at hex
    · rename_i o r
      split at hex
      · rename_i ho
        cases hex
        show W p l e0 rm s m args below meth c H locs cs sl Q (F0 m pc ls (tr base sb (.ref o) :: r.map (tr base sb)))
        rw [tr_ref ho.2]
        refine s_get hcl fx iv ho.1 hlk hd ?_
        rw [← hn, ← tr_fval (sb := sb) iv.2.2.1]
        exact kk H locs ls iv hl hL
      · cases hex
    · cases hex
  case putfield idx =>
    obtain ⟨hd, hn⟩ := chk_pl (code := code) (j := j) hch rfl
    dsimp only [ilen] at hd hn
    simp only [prim] at hex
    split at hex
    · rename_i v o r
      split at hex
      · rename_i ho
        cases hex
        show W p l e0 rm s m args below meth c H locs cs sl Q (F0 m pc ls (.int v :: tr base sb (.ref o) :: r.map (tr base sb)))
        rw [tr_ref ho.1.2]
        refine s_put (hp' := (setR hp.1 o (upd (hp.1 o) b v), hp.2)) hcl fx iv ho.1.1 hlk.1 hlk.2 hd ?_ hl iv.2.2.1 (fun i hi => setR_ne _ _ hi) (fun _ _ => rfl) ?_ (fun H' locs' iv' hl' => ?_)
        · rcases ho.2 with h | ⟨h, rfl | rfl⟩
          · exact Or.inl ⟨h, v, rfl⟩
          · exact Or.inr (Or.inl ⟨h, Or.inl rfl⟩)
          · exact Or.inr (Or.inl ⟨h, Or.inr rfl⟩)
        · intro k
          simp only [fvl, setR_eq, updV, upd]
          by_cases hkb : k = b
          · subst hkb
            rw [if_neg (by rcases ho.2 with h | ⟨h, -⟩ <;> omega)]
            simp
          · simp [hkb]
        · rw [← hn]
          exact kk H' locs' ls iv' hl' hL
      · cases hex
    · rename_i v o r
      split at hex
      · rename_i ho
        cases hex
        show W p l e0 rm s m args below meth c H locs cs sl Q (F0 m pc ls (tr base sb (.ref v) :: tr base sb (.ref o) :: r.map (tr base sb)))
        rw [tr_ref ho.1.2, tr_ref ho.2.2]
        refine s_put (hp' := (hp.1, setR hp.2 o (va_up (hp.2 o) b (some v)))) hcl fx iv ho.1.1 hlk.1 hlk.2 hd ?_ hl (noS_setR iv.2.2.1 (noS_up iv.2.2.1 ho.2.2) _) (fun _ _ => rfl) (fun i hi => setR_ne _ _ hi) ?_ (fun H' locs' iv' hl' => ?_)
        · exact Or.inr (Or.inr ⟨ho.2.1, _, rfl⟩)
        · intro k
          simp only [fvl, setR_eq, updV, va_up]
          by_cases hkb : k = b
          · subst hkb
            simp [ho.2.1, trv, va_rf]
          · simp [hkb]
        · rw [← hn]
          exact kk H' locs' ls iv' hl' hL
      · cases hex
    · cases hex
  case new idx =>
    obtain ⟨hd, hn⟩ := chk_pl (code := code) (j := j) hch rfl
    dsimp only [ilen] at hd hn
    simp only [prim] at hex
    split at hex
    · rename_i hc
      cases hex
      refine s_new hcl fx iv hlk hc.2.2 hc.1 hc.2.1 hd (fun H' iv' => ?_)
      rw [← hn, ← tr_ref (sb := sb) (Nat.ne_of_lt hc.2.2)]
      exact kk H' locs ls iv' hl hL
    · cases hex
  case newarray aty =>
    obtain ⟨hd, hn⟩ := chk_pl (code := code) (j := j) hch rfl
    dsimp only [ilen] at hd hn
    simp only [prim] at hex
    have haty : aty = .int := hlk
    subst haty
    split at hex
    · split at hex
      · rename_i hc
        cases hex
        refine s_newa hgl fx iv hc.1 hc.2.1 hc.2.2.2.2 hc.2.2.1 hc.2.2.2.1 hd (fun H' iv' => ?_)
        rw [← hn, ← tr_ref (sb := sb) (Nat.ne_of_lt hc.2.2.2.2)]
        exact kk H' locs ls iv' hl hL
      · cases hex
    · cases hex
  case anewarray idx =>
    obtain ⟨hd, hn⟩ := chk_pl (code := code) (j := j) hch rfl
    dsimp only [ilen] at hd hn
    simp only [prim] at hex
    split at hex
    · split at hex
      · rename_i hc
        cases hex
        refine s_newr hgl fx iv hlk hc.1 hc.2.1 hc.2.2.2.2 hc.2.2.1 hc.2.2.2.1 hd (fun H' iv' => ?_)
        rw [← hn, ← tr_ref (sb := sb) (Nat.ne_of_lt hc.2.2.2.2)]
        exact kk H' locs ls iv' hl hL
      · cases hex
    · cases hex
  case iaload =>
    obtain ⟨hd, hn⟩ := chk_pl (code := code) (j := j) hch rfl
    dsimp only [ilen] at hd hn
    simp only [prim] at hex
    split at hex
    · rename_i i o r
      show W p l e0 rm s m args below meth c H locs cs sl Q (F0 m pc ls (.int i :: tr base sb (.ref o) :: r.map (tr base sb)))
      split at hex
      · rename_i hoS
        simp only [Option.bind_eq_some_iff] at hex
        obtain ⟨z, hz, hex⟩ := hex
        split at hex
        · rename_i hin
          cases hex
          obtain ⟨⟨scell, h1, h2, h3, h4, h5⟩, hsb⟩ := sx _ hz
          rw [show tr base sb (.ref o) = .ref sb from by rw [hoS]; simp [tr]]
          refine W.iald (v := .int (z.2 i.toNatClampNeg)) hx hb (by rw [iv.2.2.2.2 _ hsb]; exact h1) h2 h3 (by rw [h4]; exact hin) (h5 _ (Nat.not_le.mp fun w => hin (Or.inr w))) rfl rfl hd ?_
          have k := kk H locs ls iv hl hL
          rw [hn] at k
          exact k
        · cases hex
      · rename_i hoS
        split at hex
        · rename_i n ho
          split at hex
          · rename_i hin
            cases hex
            rw [tr_ref hoS]
            refine W.iald (v := .int (hp.1 o i.toNatClampNeg)) hx hb (cell_int (iv.2.2.2.1 o (sh_lt ho)) ho) ((fx.2.2.2.2.2.1.2 0 _ rfl).1 n _) (fun w => by cases w) (by show ¬ (i < 0 ∨ (arrV _ _ _).slots.size ≤ _); rw [arrV_size]; exact hin) (by show (arrV _ _ _).slots[_]? = _; rw [arrV_read _ _ (Nat.not_le.mp fun w => hin (Or.inr w))]) rfl rfl hd ?_
            have k := kk H locs ls iv hl hL
            rw [hn] at k
            exact k
          · cases hex
        · cases hex
    · cases hex
  case iastore =>
    obtain ⟨hd, hn⟩ := chk_pl (code := code) (j := j) hch rfl
    dsimp only [ilen] at hd hn
    simp only [prim] at hex
    split at hex
    · rename_i x i o r
      split at hex
      · cases hex
      · rename_i hoS
        split at hex
        · rename_i n ho
          split at hex
          · rename_i hin
            cases hex
            show W p l e0 rm s m args below meth c H locs cs sl Q (F0 m pc ls (.int x :: .int i :: tr base sb (.ref o) :: r.map (tr base sb)))
            rw [tr_ref hoS]
            refine s_iast fx iv ho hin hd hl (fun H' locs' iv' hl' => ?_)
            rw [← hn]
            exact kk H' locs' ls iv' hl' hL
          · cases hex
        · cases hex
    · cases hex
  case aaload =>
    obtain ⟨hd, hn⟩ := chk_pl (code := code) (j := j) hch rfl
    dsimp only [ilen] at hd hn
    simp only [prim] at hex
    split at hex
    · rename_i i o r
      split at hex
      · cases hex
      · rename_i hoS
        split at hex
        · rename_i n ho
          split at hex
          · rename_i hin
            cases hex
            show W p l e0 rm s m args below meth c H locs cs sl Q (F0 m pc ls (.int i :: tr base sb (.ref o) :: r.map (tr base sb)))
            rw [tr_ref hoS]
            refine W.aald (v := trv base (hp.2 o i.toNatClampNeg)) (ty := .object RX0) hx hb (cell_ref (iv.2.2.2.1 o (sh_lt ho)) ho) ((fx.2.2.2.2.2.1.2 1 _ rfl).1 n _) rfl (fun w => by cases w) (by show ¬ (i < 0 ∨ (arrV _ _ _).slots.size ≤ _); rw [arrV_size]; exact hin) (by show (arrV _ _ _).slots[_]? = _; rw [arrV_read _ _ (Nat.not_le.mp fun w => hin (Or.inr w))]) rfl rfl hd ?_
            have k := kk H locs ls iv hl hL
            rw [hn] at k
            rw [← tr_rv base sb _ (iv.2.2.1 _ _)]
            exact k
          · cases hex
        · cases hex
    · cases hex
  case aastore =>
    obtain ⟨hd, hn⟩ := chk_pl (code := code) (j := j) hch rfl
    dsimp only [ilen] at hd hn
    simp only [prim] at hex
    split at hex
    · rename_i v i o r
      split at hex
      · cases hex
      · rename_i hoS
        have h1 : ¬ o = SCR := fun w => hoS (Or.inl w)
        have h2 : ¬ v = SCR := fun w => hoS (Or.inr (Or.inl w))
        have h3 : sh[v]? = some (0, 0) := Decidable.byContradiction fun w => hoS (Or.inr (Or.inr w))
        split at hex
        · rename_i n ho
          split at hex
          · rename_i hin
            cases hex
            show W p l e0 rm s m args below meth c H locs cs sl Q (F0 m pc ls (tr base sb (.ref v) :: .int i :: tr base sb (.ref o) :: r.map (tr base sb)))
            rw [tr_ref h1, tr_ref h2]
            refine s_aast fx iv ho h3 h2 hin hd hl (fun H' locs' iv' hl' => ?_)
            rw [← hn]
            exact kk H' locs' ls iv' hl' hL
          · cases hex
        · cases hex
    · cases hex
  case arraylength =>
    obtain ⟨hd, hn⟩ := chk_pl (code := code) (j := j) hch rfl
    dsimp only [ilen] at hd hn
    simp only [prim] at hex
    split at hex
    · rename_i o r
      show W p l e0 rm s m args below meth c H locs cs sl Q (F0 m pc ls (tr base sb (.ref o) :: r.map (tr base sb)))
      split at hex
      · rename_i hoS
        simp only [Option.bind_eq_some_iff] at hex
        obtain ⟨z, hz, hex⟩ := hex
        cases hex
        obtain ⟨⟨scell, h1, h2, h3, h4, h5⟩, hsb⟩ := sx _ hz
        rw [show tr base sb (.ref o) = .ref sb from by rw [hoS]; simp [tr]]
        refine W.alen (n := Int32.ofNat z.1) hx hb (by rw [iv.2.2.2.2 _ hsb]; exact h1) h2 (by rw [h4] <;> rfl) rfl rfl hd ?_
        have k := kk H locs ls iv hl hL
        rw [hn] at k
        exact k
      · rename_i hoS
        rw [tr_ref hoS]
        split at hex
        · rename_i n ho
          cases hex
          refine W.alen (n := Int32.ofNat n) hx hb (cell_int (iv.2.2.2.1 o (sh_lt ho)) ho) ((fx.2.2.2.2.2.1.2 0 _ rfl).1 n _) (by rw [arrV_size] <;> rfl) rfl rfl hd ?_
          have k := kk H locs ls iv hl hL
          rw [hn] at k
          exact k
        · rename_i n ho
          cases hex
          refine W.alen (n := Int32.ofNat n) hx hb (cell_ref (iv.2.2.2.1 o (sh_lt ho)) ho) ((fx.2.2.2.2.2.1.2 1 _ rfl).1 n _) (by rw [arrV_size] <;> rfl) rfl rfl hd ?_
          have k := kk H locs ls iv hl hL
          rw [hn] at k
          exact k
        · cases hex
    · cases hex
  case invokespecial idx =>
    obtain ⟨hd, hn⟩ := chk_pl (code := code) (j := j) hch rfl
    dsimp only [ilen] at hd hn
    simp only [prim] at hex
    split at hex
    · rename_i o r
      split at hex
      · rename_i hc
        cases hex
        refine W.objInit hx hb hown (hts _ (hlk.1 hc.1)) (hts _ hgl.2.2.1) (hts _ hgl.2.2.2.1) rfl (by rw [fx.2.2.1]; exact hL.2.1) rfl hd hc.2.1 (by
          have := tr_sum base sb r
          show 2 * 0 + ((r.map (tr base sb)).map fun v => v.category).sum + 12 ≤ _
          omega) ?_
        have k := kk H locs ls iv hl hL
        rw [hn] at k
        exact k
      · cases hex
    · cases hex
  case invokestatic idx =>
    obtain ⟨hd, hn⟩ := chk_pl (code := code) (j := j) hch rfl
    dsimp only [ilen] at hd hn
    simp only [prim] at hex
    split at hex
    · rename_i hb2
      split at hex
      · rename_i n dp d sp o r
        split at hex
        · rename_i n0 n1 ho hd1
          split at hex
          · rename_i hc
            cases hex
            show W p l e0 rm s m args below meth c H locs cs sl Q (F0 m pc ls (.int n :: .int dp :: tr base sb (.ref d) :: .int sp :: tr base sb (.ref o) :: r.map (tr base sb)))
            rw [tr_ref hc.1.1, tr_ref hc.1.2]
            refine s_copy hgl fx iv (hlk.1.1 hb2) hL.2.1 ho hd1 hc.2.1 hc.2.2.1 hc.2.2.2.1 hc.2.2.2.2.1 hc.2.2.2.2.2.1 hc.2.2.2.2.2.2.1 (by rw [tr_sum]; exact hc.2.2.2.2.2.2.2) hd hl (fun H' locs' iv' hl' => ?_)
            rw [← hn]
            exact kk H' locs' ls iv' hl' hL
          · cases hex
        · cases hex
      · cases hex
    · split at hex
      · rename_i hg
        · split at hex
          · rename_i hb3
            split at hex
            · split at hex
              · rename_i hlo
                cases hex
                refine va_mabs hx hb (by rw [fx.2.2.1]; exact hL.2.1.symm) hown (hts _ (hlk.1.2.1 hb3)) (hts _ hgl.2.2.2.2.2.2.2.2.1.1) (hts _ hgl.2.2.2.2.2.2.2.1) (hts _ hgl.2.2.2.2.2.2.2.2.1.2) hg.1 (by rw [tr_sum]; exact hlo) hg.2.1 hg.2.2 hd ?_
                rw [← hn]
                exact kk H locs ls iv hl hL
              · cases hex
            · cases hex
          · split at hex
            · rename_i hb4
              split at hex
              · split at hex
                · rename_i hlo
                  cases hex
                  refine va_mmax hx hb (by rw [fx.2.2.1]; exact hL.2.1.symm) hown (hts _ (hlk.1.2.2.1 hb4)) (hts _ hgl.2.2.2.2.2.2.2.2.2.1.1) (hts _ hgl.2.2.2.2.2.2.2.1) (hts _ hgl.2.2.2.2.2.2.2.2.2.1.2) hg.1 (by rw [tr_sum]; exact hlo) hg.2.1 hg.2.2 hd ?_
                  rw [← hn]
                  exact kk H locs ls iv hl hL
                · cases hex
              · cases hex
            · split at hex
              · rename_i hb5
                split at hex
                · split at hex
                  · rename_i hlo
                    cases hex
                    refine va_mmin hx hb (by rw [fx.2.2.1]; exact hL.2.1.symm) hown (hts _ (hlk.1.2.2.2 hb5)) (hts _ hgl.2.2.2.2.2.2.2.2.2.2.1) (hts _ hgl.2.2.2.2.2.2.2.1) (hts _ hgl.2.2.2.2.2.2.2.2.2.2.2) hg.1 (by rw [tr_sum]; exact hlo) hg.2.1 hg.2.2 hd ?_
                    rw [← hn]
                    exact kk H locs ls iv hl hL
                  · cases hex
                · cases hex
              · cases hex
      · cases hex
  all_goals (simp only [prim] at hex; cases hex)
end PRIM3
