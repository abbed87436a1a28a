section RUN2
variable {p : Program} {l : Launch} {e0 : Env} {rm : Room} {s : State} {m : MethodId} {args : Array Value} {below : List Frame} {meth : Method} {c : Code} {H : Heap} {locs : List Loc} {Q : State → Prop} {cells slots mc mss : Nat}
variable {sh : SH} {hp : HP} {base sb : Nat} {Hb : Heap} {D : va_G} {cI cF : ClassId} {ms : List ME}
/-- a contract's words, out of the tables -/
theorem ws_warm (hts : ∀ w ∈ tbG, w.before args s = true) {me : ME} (hc : Cond.code (mName me) (mBytes me) (mLoc me) (mRet me) ∈ tbG) : ∀ w ∈ mWs me, ∀ (a' : Array Value) (U : State), s.WarmedH U.vm → w.before a' U = true := by
  intro w hw a' U hW
  have hw2 : w ∈ tbG := by
    rcases List.mem_cons.mp hw with h | h
    · rw [h]; exact hc
    · exact h
  exact word_at hW (good_of_word (List.mem_filter.mp hw2).2) (hts w hw2)
set_option maxHeartbeats 4000000 in
/-- a contract's proof: the body's run -/
theorem ct_of {me : ME} {as : List Value} {res : RS} (ho : MeOK ms me) (hcat : ∀ v ∈ as, v.category = 1) (hlen : as.length = mArgs me) (hle : mArgs me ≤ mLoc me)
    (body : ∀ {p : Program} {e0 : Env} {s : State} {m : MethodId} {args : Array Value} {below : List Frame} {meth : Method} {c : Code} {H : Heap} {locs : List Loc} {Q : State → Prop} {ls : Array Slot}, Fx p s m args meth c (mName me) (mBytes me) (mLoc me) D cI cF → Iv base Hb D cI cF H sh hp → (∀ z ∈ locs, base ≤ z.base) →
      LsOk base sb (mLoc me) ls (as.map some ++ List.replicate (mLoc me - mArgs me) none) →
      (∀ (e : EI) (st' : List Value) (H' : Heap) (locs' : List Loc) (ls' : Array Slot), e ∈ mCode me → decode (mBytes me) e.1 = .ok (e.2.1, 1) → retTo (mRet me) (mRoom me) e.2.1 st' res.2.1 res.2.2.1 res.2.2.2.1 res.2.2.2.2 = some res → Iv base Hb D cI cF H' res.2.2.2.1 res.2.2.2.2 → (∀ z ∈ locs', base ≤ z.base) →
        W p l e0 (mRoom me) s m args below meth c H' locs' res.2.1 res.2.2.1 Q (F0 m e.1 ls' (st'.map (tr base sb)))) →
      W p l e0 (mRoom me) s m args below meth c H locs 0 0 Q (F0 m 0 ls [])) : Ct l base sb Hb D cI cF me as sh hp res := by
  unfold Ct
  refine Met.ofW (cc := mBytes me) (maxL := mLoc me) (ret := mRet me) ho.2.2.2.1 rfl ?_
  intro p e s m args below meth c s₁ B hml hv
  obtain ⟨rfl, hI, hK, hN⟩ := hv
  have hts := atoms_spec (ws := mWs me) B.pre
  have hown : s.vm.findClass (mName me).cls = some m.cls := findClass_of_methodNamed B.named
  have hlocks := B.notSynchronized
  have hr := B.returns
  have fx : Fx p s m (as.map (tr base sb)).toArray meth c (mName me) (mBytes me) (mLoc me) D cI cF := ⟨B.exec, B.bytes, hml, hown, fun w hw => hts w (List.mem_cons_of_mem _ hw), hK, fun h => (name_of_methodNamed B.named B.method).1.trans h, hN⟩
  rw [lg_entry_eq]
  refine body fx hI (fun z hz => by cases hz) (by rw [← hlen]; exact ls_entry hcat (by omega)) ?_
  intro e st' H' locs' ls' he hde hret hI' hl'
  unfold retTo at hret
  split at hret
  · rename_i hle2
    refine W.widen (k := (mRoom me).cells) (n := (mRoom me).slots) hle2.1 hle2.2 ?_
    split at hret
    · rename_i v hi
      split at hret
      · rename_i hty
        rw [hi] at hde
        rcases hty with h | ⟨h, hv⟩
        · refine W.iret B.exec B.bytes (hr.trans h) (fun t ht hW => ?_) hl' hde
          rw [← (Option.some.inj hret)]
          exact ⟨rfl, by rw [ht, ← Option.some.inj hret]; exact hI'⟩
        · refine W.zret B.exec B.bytes (hr.trans h) (by rcases hv with rfl | rfl <;> decide) (fun t ht hW => ?_) hl' hde
          rw [← (Option.some.inj hret)]
          exact ⟨rfl, by rw [ht, ← Option.some.inj hret]; exact hI'⟩
      · cases hret
    · rename_i o hi
      split at hret
      · rename_i n hty
        rw [hi] at hde
        refine W.aret (rt := .object n) B.exec B.bytes (hr.trans hty) (Or.inl ⟨n, rfl⟩) (Or.inr ⟨_, rfl⟩) (fun t ht hW => ?_) hl' hde
        rw [← (Option.some.inj hret)]
        exact ⟨rfl, by rw [ht, ← Option.some.inj hret]; exact hI'⟩
      · cases hret
    · rename_i hi
      split at hret
      · rename_i hty
        rw [hi] at hde
        refine W.vret B.exec B.bytes (hr.trans hty) (fun t ht hW => ?_) hl' hde
        rw [← (Option.some.inj hret)]
        exact ⟨rfl, by rw [ht, ← Option.some.inj hret]; exact hI'⟩
      · cases hret
    · cases hret
  · cases hret
end RUN2
