/-! TOWN: the class reads -/
theorem ff_none {T : LV} (h : Ff T = none) : 0 < T.1 ∧ (∀ i, i < T.1 → ft T.2 i = false) ∧ (sc T.2 T.1).2 = false := by
  unfold Ff at h
  by_cases c : T.1 = 0
  · rw [if_pos c] at h
    cases h
  rw [if_neg c] at h
  cases e : fnd (fun i => ft T.2 i = true) T.1 0 with
  | some i =>
    rw [e] at h
    cases h
  | none =>
    rw [e] at h
    dsimp only at h
    refine ⟨by omega, fun i hi => ?_, ?_⟩
    · have := fnd_none e i (by omega) (by omega)
      simpa using this
    · cases z : (sc T.2 T.1).2
      · rfl
      · rw [z, if_pos rfl] at h
        cases h
theorem sc_run {f : Nat → Nat} {i : Nat} (h : (sc f i).2 = false) (j : Nat) (hj : j ≤ dg (f i)) : sc f (i + 1 + j) = (dg (f i) - j, true) := by
  induction j with
  | zero =>
    rw [show i + 1 + 0 = i + 1 by omega, sc_s, h, if_neg (by decide)]
    rfl
  | succ j ih =>
    rw [show i + 1 + (j + 1) = (i + 1 + j) + 1 by omega, sc_s, ih (by omega)]
    dsimp only
    rw [if_pos rfl, if_neg (by omega), show dg (f i) - (j + 1) = dg (f i) - j - 1 by omega]
theorem sc_end {f : Nat → Nat} {i : Nat} (h : (sc f i).2 = false) : sc f (i + 1 + dg (f i) + 1) = (0, false) := by
  rw [sc_s, sc_run h _ (Nat.le_refl _)]
  dsimp only
  rw [if_pos rfl, if_pos (by omega)]
theorem ft_dig {f : Nat → Nat} {i j : Nat} (h : (sc f i).2 = false) (hj : j < dg (f i)) : ft f (i + 1 + j) = !(decide (48 ≤ f (i + 1 + j)) && decide (f (i + 1 + j) ≤ 57)) := by
  unfold ft
  rw [sc_run h j (by omega)]
  dsimp only
  rw [if_pos rfl, if_neg (by omega)]
theorem ft_semi {f : Nat → Nat} {i : Nat} (h : (sc f i).2 = false) : ft f (i + 1 + dg (f i)) = !decide (f (i + 1 + dg (f i)) = 59) := by
  unfold ft
  rw [sc_run h _ (Nat.le_refl _)]
  dsimp only
  rw [if_pos rfl, if_pos (by omega)]
theorem ft_cmd {f : Nat → Nat} {i : Nat} (h : (sc f i).2 = false) : ft f i = decide (dg (f i) = 0) := by
  unfold ft
  rw [h, if_neg (by decide)]
theorem wf_at {T : LV} (h : Ff T = none) {i : Nat} (hi : i < T.1) (hs : (sc T.2 i).2 = false) : Wf T i := by
  obtain ⟨h0, h1, h2⟩ := ff_none h
  have k1 := h1 i hi
  rw [ft_cmd hs] at k1
  have d0 : ¬ dg (T.2 i) = 0 := by simpa using k1
  have inn : ∀ j, j ≤ dg (T.2 i) → i + 1 + j < T.1 := by
    intro j
    induction j with
    | zero =>
      intro _
      have r := sc_run hs 0 (by omega)
      rw [show i + 1 + 0 = i + 1 by omega] at r ⊢
      refine Nat.lt_of_le_of_ne hi fun q => ?_
      rw [q] at r
      rw [r] at h2
      cases h2
    | succ j ih =>
      intro hj
      have := ih (by omega)
      have r := sc_run hs (j + 1) hj
      refine Nat.lt_of_le_of_ne (show i + 1 + (j + 1) ≤ T.1 by omega) fun q => ?_
      rw [q] at r
      rw [r] at h2
      cases h2
  refine ⟨hi, d0, fun j hj => ?_⟩
  have l := inn j (by omega)
  have k := h1 _ l
  rw [ft_dig hs hj] at k
  have : 48 ≤ T.2 (i + 1 + j) ∧ T.2 (i + 1 + j) ≤ 57 := by simpa using k
  exact ⟨l, this.1, this.2⟩
theorem dg59 : dg 59 = 0 := rfl
theorem st_iff {T : LV} (h : Ff T = none) {i : Nat} (hi : i < T.1) (h1 : 0 < i) : (T.2 (i - 1) = 59) = ((sc T.2 i).2 = false) := by
  obtain ⟨h0, hf, h2⟩ := ff_none h
  have k := hf (i - 1) (by omega)
  have e := sc_s T.2 (i - 1)
  rw [show i - 1 + 1 = i by omega] at e
  rw [e, eq_iff_iff]
  cases z : (sc T.2 (i - 1)).2
  · rw [if_neg (by decide)]
    rw [ft_cmd z] at k
    have d0 : ¬ dg (T.2 (i - 1)) = 0 := by simpa using k
    exact ⟨fun q => absurd (by rw [q]; rfl) d0, fun q => by cases q⟩
  · rw [if_pos rfl]
    unfold ft at k
    rw [z, if_pos rfl] at k
    by_cases y : (sc T.2 (i - 1)).1 = 0
    · rw [if_pos y] at k ⊢
      have : T.2 (i - 1) = 59 := by simpa using k
      exact ⟨fun _ => rfl, fun _ => this⟩
    · rw [if_neg y] at k ⊢
      have : 48 ≤ T.2 (i - 1) ∧ T.2 (i - 1) ≤ 57 := by simpa using k
      exact ⟨fun q => by omega, fun q => by cases q⟩
def cn (f : Nat → Nat) : Nat → Nat
  | 0 => 0
  | i + 1 => cn f i + if (sc f i).2 = true then 0 else 1
theorem cn_s (f : Nat → Nat) (i : Nat) : cn f (i + 1) = cn f i + if (sc f i).2 = true then 0 else 1 := rfl
theorem cn_le (f : Nat → Nat) (i : Nat) : cn f i ≤ i := by
  induction i with
  | zero => exact Nat.le_refl 0
  | succ i ih =>
    rw [cn_s]
    split <;> omega
theorem cn_pos (f : Nat → Nat) (i : Nat) (h : 0 < i) : 0 < cn f i := by
  induction i with
  | zero => omega
  | succ i ih =>
    rw [cn_s]
    by_cases c : i = 0
    · subst c
      rw [show (sc f 0).2 = false from rfl]
      exact Nat.lt_succ_self 0
    · have := ih (by omega)
      omega
def xpF (f : Nat → Nat) (s : AV × PV) : Nat → (AV × PV) × Option Nat
  | 0 => (s, none)
  | i + 1 => if (xpF f s i).2 = none ∧ (sc f i).2 = false then match opS f i (xpF f s i).1 with
      | none => ((xpF f s i).1, some i)
      | some s' => (s', none)
    else xpF f s i
theorem xpF_s (f : Nat → Nat) (s : AV × PV) (i : Nat) : xpF f s (i + 1) = if (xpF f s i).2 = none ∧ (sc f i).2 = false then (match opS f i (xpF f s i).1 with
      | none => ((xpF f s i).1, some i)
      | some s' => (s', none))
    else xpF f s i := rfl
theorem xpF_stay {f : Nat → Nat} {s : AV × PV} {i e : Nat} (h : (xpF f s i).2 = some e) (d : Nat) : xpF f s (i + d) = xpF f s i := by
  induction d with
  | zero => rfl
  | succ d ih =>
    rw [show i + (d + 1) = (i + d) + 1 by omega, xpF_s, ih, if_neg (fun q => by rw [h] at q; cases q.1)]
theorem op_ok {T : LV} {i : Nat} {s s' : AV × PV} (W : Wf T i) (h : opS T.2 i s = some s') (ga : GA s.1) (gp : GP' s.2) : GA s'.1 ∧ GP' s'.2 := by
  obtain ⟨w1, w2, w3⟩ := W
  have dd : ∀ j, j < dg (T.2 i) → T.2 (i + 1 + j) ≤ 57 := fun j hj => (w3 j hj).2.2
  have hy : opV (T.2 i) (ax T.2 i) (ay T.2 i) (az T.2 i) s = some s' := h
  by_cases c2 : T.2 i = 98
  · have d3 : dg (T.2 i) = 3 := by rw [c2]; rfl
    rw [d3] at dd
    have e1 := dd 1 (by omega)
    have e2 := dd 2 (by omega)
    rw [show i + 1 + 1 = i + 2 by omega] at e1
    rw [show i + 1 + 2 = i + 3 by omega] at e2
    have hy2 : opV (T.2 i) (ax T.2 i) (ay T.2 i) 0 s = some s' := by
      rw [← hy]
      unfold opV
      rw [if_neg (show ¬ T.2 i = 97 by omega), if_pos c2, if_neg (show ¬ T.2 i = 97 by omega), if_pos c2]
    refine opV_good hy2 ga gp ?_ (fun q => by omega) (by omega)
    unfold ay
    rw [if_pos c2]
    omega
  by_cases c4 : T.2 i = 112
  · have d4 : dg (T.2 i) = 4 := by rw [c4]; rfl
    rw [d4] at dd
    have e1 := dd 1 (by omega)
    have e2 := dd 2 (by omega)
    have e3 := dd 3 (by omega)
    rw [show i + 1 + 1 = i + 2 by omega] at e1
    rw [show i + 1 + 2 = i + 3 by omega] at e2
    rw [show i + 1 + 3 = i + 4 by omega] at e3
    have ey : ay T.2 i = T.2 (i + 2) - 48 := if_neg c2
    exact opV_good hy ga gp (by omega) (fun _ => by omega) (by unfold az; omega)
  · have ey : ay T.2 i = T.2 (i + 2) - 48 := if_neg c2
    have hy2 : opV (T.2 i) (ax T.2 i) (min 9 (ay T.2 i)) 0 s = some s' ∨ dg (T.2 i) = 1 := by
      by_cases c1 : dg (T.2 i) = 1
      · exact Or.inr c1
      · refine Or.inl ?_
        have e1 := dd 1 (by omega)
        rw [show i + 1 + 1 = i + 2 by omega] at e1
        rw [show min 9 (ay T.2 i) = ay T.2 i by omega, ← hy]
        unfold opV
        rw [if_neg c2, if_neg c4, if_neg c2, if_neg c4]
    rcases hy2 with hy2 | c1
    · exact opV_good hy2 ga gp (by omega) (fun q => by omega) (by omega)
    · have hy3 : opV (T.2 i) (ax T.2 i) 0 0 s = some s' := by
        rw [← hy]
        have n1 : ¬ T.2 i = 97 := fun q => by rw [q] at c1; cases c1
        have n3 : ¬ T.2 i = 103 := fun q => by rw [q] at c1; cases c1
        have n5 : ¬ T.2 i = 119 := fun q => by rw [q] at c1; cases c1
        unfold opV
        rw [if_neg n1, if_neg c2, if_neg n3, if_neg c4, if_neg n5, if_neg n1, if_neg c2, if_neg n3, if_neg c4, if_neg n5]
      exact opV_good hy3 ga gp (by omega) (fun q => by omega) (by omega)
theorem ex_good {T : LV} {s : AV × PV} (h : Ff T = none) (ga : GA s.1) (gp : GP' s.2) (i : Nat) (hi : i ≤ T.1) : GA (xpF T.2 s i).1.1 ∧ GP' (xpF T.2 s i).1.2 := by
  induction i with
  | zero => exact ⟨ga, gp⟩
  | succ i ih =>
    obtain ⟨a, p⟩ := ih (by omega)
    rw [xpF_s]
    by_cases c : (xpF T.2 s i).2 = none ∧ (sc T.2 i).2 = false
    · rw [if_pos c]
      cases e : opS T.2 i (xpF T.2 s i).1 with
      | none => exact ⟨a, p⟩
      | some s' => exact op_ok (wf_at h (by omega) c.2) e a p
    · rw [if_neg c]
      exact ⟨a, p⟩
theorem LetX.draft {h h' : HP} {T : LV} (H : LetX h T) (S : Same (inT 13) h h') : LetX h' T := H.fr (S.2 102 (by unfold inT; omega)) (S.2 103 (by unfold inT; omega))
theorem X1_read {h : HP} {T : LV} {s : AV × PV} (R : RefOk h.2) (H : LetX h T) (G : GoodT T) (F : FolkIs h 14 s.1) (P : PlB h 21 s.2) (ga : GA s.1) (gp : GP' s.2) : wp (cv 1 102 (f_X1_read 102 13)) h fun v h' => Same (inT 13) h h' ∧ ((∃ e, Ff T = some e ∧ v = -1000 - nI e) ∨ (Ff T = none ∧ ∃ e, (xpF T.2 s T.1).2 = some e ∧ v = -2000 - nI e ∧ e < T.1) ∨ (Ff T = none ∧ (xpF T.2 s T.1).2 = none ∧ v = nI (cn T.2 T.1) ∧ FolkIs h' 14 (xpF T.2 s T.1).1.1 ∧ PlB h' 21 (xpF T.2 s T.1).1.2)) := by
  have hn := G.1
  refine wp_eq (e_cv sh102) ?_
  unfold f_X1_read
  refine wp_call (X1_fault R H G) ?_
  cases ff : Ff T with
  | some e =>
    have he : e ≤ 96 := by
      unfold Ff at ff
      by_cases c : T.1 = 0
      · rw [if_pos c] at ff
        cases ff
        omega
      · rw [if_neg c] at ff
        cases z : fnd (fun i => ft T.2 i = true) T.1 0 with
        | some i =>
          rw [z] at ff
          cases ff
          have := (fnd_some z).1
          omega
        | none =>
          rw [z] at ff
          dsimp only at ff
          split at ff
          · cases ff
            omega
          · cases ff
    dsimp only
    rw [if_neg (nI_pos (by omega))]
    exact wp_rt ⟨Same.rfl', Or.inl ⟨e, rfl, rfl⟩⟩
  | none =>
    dsimp only
    rw [if_pos (by decide)]
    refine wp_loop (fun i z h' => z = (nI (cn T.2 i), nI i) ∧ Same (inT 13) h h' ∧ (xpF T.2 s i).2 = none ∧ FolkIs h' 14 (xpF T.2 s i).1.1 ∧ PlB h' 21 (xpF T.2 s i).1.2) T.1 (nf_lt (by omega)) (fun i hi z h' q k K => ?_) (fun z h' k q => ?_) ⟨rfl, Same.rfl', rfl, F, P⟩
    · obtain ⟨rfl, S1, E1, F1, P1⟩ := q
      have R1 : RefOk h'.2 := by rw [S1.1]; exact R
      have H1 := H.draft S1
      have cl := cn_le T.2 i
      dsimp only
      refine wp_eq g102_0 ?_
      rw [H1.1, if_neg (nI_ge hi (by omega)), nI_1]
      obtain ⟨ga1, gp1⟩ := ex_good ff ga gp i (by omega)
      -- is it a start?
      have GO : ∀ b : Bool, (sc T.2 i).2 = !b → wp ((fun s7 : Int32 => jn (fun k10 => if s7 = (0 : Int32) then k10 () else bnd (cv 1 102 (f_X1_comesTrue 102 (nI i) 13)) fun t11 => if ¬ t11 = (0 : Int32) then k10 () else rt ((-2000 : Int32) - nI i)) (fun (_ : Unit) => if s7 = (0 : Int32) then k ((nI (cn T.2 i) + (0 : Int32)), nI (i + 1)) else k ((nI (cn T.2 i) + (1 : Int32)), nI (i + 1)))) (bI2 b)) h' fun v h' => Same (inT 13) h h' ∧ ((∃ e, none = some e ∧ v = -1000 - nI e) ∨ (none = (none : Option Nat) ∧ ∃ e, (xpF T.2 s T.1).2 = some e ∧ v = -2000 - nI e ∧ e < T.1) ∨ (none = (none : Option Nat) ∧ (xpF T.2 s T.1).2 = none ∧ v = nI (cn T.2 T.1) ∧ FolkIs h' 14 (xpF T.2 s T.1).1.1 ∧ PlB h' 21 (xpF T.2 s T.1).1.2)) := fun b hb => by
        unfold jn
        dsimp only
        cases b
        · have hb : (sc T.2 i).2 = true := hb
          rw [if_pos (show bI2 false = 0 from rfl), if_pos (show bI2 false = 0 from rfl)]
          have ex : xpF T.2 s (i + 1) = xpF T.2 s i := by rw [xpF_s, if_neg (fun q => by rw [hb] at q; cases q.2)]
          refine K _ _ ⟨?_, S1, by rw [ex]; exact E1, by rw [ex]; exact F1, by rw [ex]; exact P1⟩
          rw [cn_s, hb, if_pos rfl, Int32.add_zero]
          rfl
        · have hb : (sc T.2 i).2 = false := hb
          rw [if_neg (show ¬ bI2 true = 0 by decide)]
          refine wp_bnd (wp_mono (X1_comesTrue R1 H1 G (wf_at ff hi hb) F1 P1 ga1 gp1) fun v h2 q => ?_)
          obtain ⟨q, S2⟩ := q
          have S3 : Same (inT 13) h h2 := S1.trans S2 (fun _ q => q) (fun _ q => q)
          rcases q with ⟨o, rfl, -, -⟩ | ⟨s', o, rfl, F2, P2⟩
          · rw [if_neg (show ¬ ¬ (0 : Int32) = 0 from fun q => q rfl)]
            have ex : xpF T.2 s (i + 1) = ((xpF T.2 s i).1, some i) := by rw [xpF_s, if_pos ⟨E1, hb⟩, o]
            have st := xpF_stay (f := T.2) (s := s) (i := i + 1) (e := i) (by rw [ex]) (T.1 - (i + 1))
            rw [show i + 1 + (T.1 - (i + 1)) = T.1 by omega] at st
            exact wp_rt ⟨S3, Or.inr (Or.inl ⟨rfl, i, by rw [st, ex], rfl, hi⟩)⟩
          · rw [if_pos (show ¬ (1 : Int32) = 0 by decide), if_neg (show ¬ bI2 true = 0 by decide)]
            have ex : xpF T.2 s (i + 1) = (s', none) := by rw [xpF_s, if_pos ⟨E1, hb⟩, o]
            refine K _ _ ⟨?_, S3, by rw [ex], by rw [ex]; exact F2, by rw [ex]; exact P2⟩
            rw [cn_s, hb, if_neg (by decide), nI_1]
      rw [show ∀ (x : (Int32 → M Int32) → M Int32) (y : Int32 → M Int32), jn x y = x y from fun _ _ => rfl]
      by_cases c0 : i = 0
      · subst c0
        rw [if_pos (show nI 0 = 0 from rfl)]
        exact GO true rfl
      · rw [if_neg (nI_ne0 (by omega) (by omega))]
        refine wp_eq (g102_1 R1) ?_
        rw [show nI i - 1 = nI (i - 1) by rw [show (1 : Int32) = nI 1 from rfl, pk_sub (by omega)]]
        refine wp_eq (a103 (by omega)) ?_
        have g := G.2 (i - 1) (by omega)
        have si := st_iff ff hi (by omega)
        rw [H1.2 (i - 1) (by omega)]
        by_cases c59 : T.2 (i - 1) = 59
        · rw [if_neg (show ¬ ¬ nI (T.2 (i - 1)) = 59 from fun q => q (by rw [c59]; rfl))]
          exact GO true (Eq.mp si c59)
        · rw [if_pos (show ¬ nI (T.2 (i - 1)) = 59 from fun q => c59 ((nI_eq (b := 59) (by omega) (by omega)).mp q))]
          refine GO false ?_
          cases z : (sc T.2 i).2
          · exact absurd (Eq.mpr si z) c59
          · rfl
    · obtain ⟨rfl, S1, E1, F1, P1⟩ := q
      have H1 := H.draft S1
      dsimp only
      refine wp_eq g102_0 ?_
      rw [H1.1, if_pos (nI_le (Nat.le_refl _) (by omega))]
      exact wp_rt ⟨S1, Or.inr (Or.inr ⟨rfl, E1, rfl, F1, P1⟩)⟩
def twA (T : LV) (s : AV × PV) : Int32 := match Ff T with
  | some e => -1000 - nI e
  | none => match (xpF T.2 s T.1).2 with
    | some e => -2000 - nI e
    | none => nI (cn T.2 T.1)
def twO (T : LV) (s : AV × PV) : Bool := (Ff T).isNone && (xpF T.2 s T.1).2.isNone
def twS (S : St) : St := if twO S.2.2.2.1 (S.1, S.2.1) = true then pS (letS S (0, S.2.2.2.1.2)) (xpF S.2.2.2.1.2 (S.1, S.2.1) S.2.2.2.1.1).1.1 (xpF S.2.2.2.1.2 (S.1, S.2.1) S.2.2.2.1.1).1.2 else letS S (0, S.2.2.2.1.2)
theorem ff_le {T : LV} {e : Nat} (h : Ff T = some e) : e ≤ T.1 := by
  unfold Ff at h
  by_cases c : T.1 = 0
  · rw [if_pos c] at h
    cases h
    omega
  · rw [if_neg c] at h
    cases z : fnd (fun i => ft T.2 i = true) T.1 0 with
    | some i =>
      rw [z] at h
      cases h
      have := (fnd_some z).1
      omega
    | none =>
      rw [z] at h
      dsimp only at h
      split at h
      · cases h
        exact Nat.le_refl _
      · cases h
theorem neg_le {c e : Nat} (hc : c ≤ 2000) (he : e ≤ 96) : -nI c - nI e ≤ 0 := by
  rw [Int32.le_iff_toInt_le]
  have e1 : (nI c + nI e).toInt = (c + e : Int) := by
    rw [nI_add, nI_toInt (by omega)]
    omega
  have e2 : -nI c - nI e = nI 0 - nI (c + e) := by
    rw [← nI_add, show nI 0 = 0 from rfl, Int32.zero_sub, Int32.neg_add, Int32.sub_eq_add_neg]
  rw [e2, pk_sub_toInt (by omega) (by omega)]
  have : (0 : Int32).toInt = 0 := rfl
  omega
theorem X6_town : Xw (f_X6_town 0) (fun S => twA S.2.2.2.1 (S.1, S.2.1)) twS := by
  intro h S xs gs
  have R := xs.1
  have hT := gs.2.2.2.1
  unfold f_X6_town
  refine wp_eq (g0_1 R) (wp_eq (g0_0 R) (wp_bnd (wp_mono (X5_copyFrom (TB.of13 R) (TB.of1 R) xs.2.1 xs.2.2.1 (by omega)) fun _ h1 q => ?_)))
  obtain ⟨F1, P1, S1⟩ := q
  have R1 : RefOk h1.2 := by rw [S1.1]; exact R
  have H1 : LetX h1 S.2.2.2.1 := xs.2.2.2.2.1.draft S1
  refine wp_eq (g0_6 R1) (wp_eq (g0_1 R1) (wp_bnd (wp_mono (X1_read (s := (S.1, S.2.1)) R1 H1 hT F1 P1 gs.1 gs.2.1) fun v h2 q => ?_)))
  obtain ⟨S2, q⟩ := q
  have S3 : Same (inT 13) h h2 := S1.trans S2 (fun _ q => q) (fun _ q => q)
  have so : ∀ a, ¬ inT 13 a → h2.1 a = h.1 a := S3.2
  unfold inT at so
  have R2 : RefOk h2.2 := by rw [S3.1]; exact R
  have e4 : ∀ a, ¬ a = 102 → (setR h2.1 102 (upd (h2.1 102) 0 0), h2.2).1 a = h2.1 a := fun a ha => by dsimp only; rw [set_ne _ _ ha]
  have XL : XS (setR h2.1 102 (upd (h2.1 102) 0 0), h2.2) (letS S (0, S.2.2.2.1.2)) := by
    have X2 : XS (setR h2.1 102 (upd (h2.1 102) 0 0), h2.2) (letS S (0, S.2.2.2.1.2)) := by
      obtain ⟨x0, x1, x2, x3, x4, x5, x6, x7⟩ := xs
      refine ⟨R2, x1.fr fun a h1 h2 => by rw [e4 a (by omega), so a (by omega)], x2.fr (by rw [e4 10 (by omega), so 10 (by omega)]) (by rw [e4 11 (by omega), so 11 (by omega)]), x3.fr (by rw [e4 0 (by omega), so 0 (by omega)]) (by rw [e4 104 (by omega), so 104 (by omega)]), ⟨?_, fun k hk => absurd hk (Nat.not_lt_zero k)⟩, x5.fr (by rw [e4 0 (by omega), so 0 (by omega)]) (fun a h1 h2 => by rw [e4 a (by omega), so a (by omega)]), x6.fr S3.1 (fun a h1 h2 => by rw [e4 a (by omega), so a (by omega)]), fun k hk => by rw [e4 105 (by omega), so 105 (by omega)]; exact x7 k hk⟩
      dsimp only
      rw [set_eq, upd_eq]
      rfl
    exact X2
  have hi : ∀ a, 110 ≤ a → (setR h2.1 102 (upd (h2.1 102) 0 0), h2.2).1 a = h.1 a := fun a ha => by rw [e4 a (by omega), so a (by omega)]
  refine wp_eq (g0_6 R2) (wp_eq p102_0 ?_)
  rcases q with ⟨e, ff, rfl⟩ | ⟨ff, e, ex, rfl, he⟩ | ⟨ff, ex, rfl, F2, P2⟩
  · have el := ff_le ff
    rw [if_pos (show (-1000 : Int32) - nI e ≤ 0 from neg_le (c := 1000) (by omega) (by have := hT.1; omega))]
    refine wp_rt ⟨?_, ?_, hi⟩
    · unfold twA
      try dsimp only
      rw [ff]
    · unfold twS twO
      rw [ff, if_neg (by simp)]
      exact XL
  · rw [if_pos (show (-2000 : Int32) - nI e ≤ 0 from neg_le (c := 2000) (by omega) (by have := hT.1; omega))]
    refine wp_rt ⟨?_, ?_, hi⟩
    · unfold twA
      try dsimp only
      rw [ff]
      dsimp only
      rw [ex]
    · unfold twS twO
      rw [ex, if_neg (by simp)]
      exact XL
  · have cp := cn_pos S.2.2.2.1.2 S.2.2.2.1.1 (ff_none ff).1
    have cl := cn_le S.2.2.2.1.2 S.2.2.2.1.1
    have h96 := hT.1
    rw [if_neg (show ¬ nI (cn S.2.2.2.1.2 S.2.2.2.1.1) ≤ 0 from nI_ge (b := cn S.2.2.2.1.2 S.2.2.2.1.1) (a := 0) cp (by omega))]
    have F3 : FolkIs (setR h2.1 102 (upd (h2.1 102) 0 0), h2.2) 14 (xpF S.2.2.2.1.2 (S.1, S.2.1) S.2.2.2.1.1).1.1 := F2.fr fun a h1 h2 => e4 a (by omega)
    have P3 : PlB (setR h2.1 102 (upd (h2.1 102) 0 0), h2.2) 21 (xpF S.2.2.2.1.2 (S.1, S.2.1) S.2.2.2.1.1).1.2 := P2.fr (e4 22 (by omega)) (e4 23 (by omega))
    refine wp_eq (g0_0 (by exact R2)) (wp_eq (g0_1 (by exact R2)) (wp_bnd (wp_mono (X5_copyFrom (TB.of1 (by exact R2)) (TB.of13 (by exact R2)) F3 P3 (by omega)) fun _ h3 q => ?_)))
    obtain ⟨F4, P4, S4⟩ := q
    have s4 : ∀ a, ¬ inT 1 a → h3.1 a = (setR h2.1 102 (upd (h2.1 102) 0 0), h2.2).1 a := S4.2
    unfold inT at s4
    have R3 : RefOk h3.2 := by rw [S4.1]; exact R2
    have e5 : ∀ a, ¬ a = 44 → (setR h3.1 44 (upd (h3.1 44) 0 0), h3.2).1 a = h3.1 a := fun a ha => by dsimp only; rw [set_ne _ _ ha]
    refine wp_eq (g0_5 R3) (wp_eq p44_0 (wp_rt ⟨?_, ?_, fun a ha => by rw [e5 a (by omega), s4 a (by omega)]; exact hi a ha⟩))
    · unfold twA
      try dsimp only
      rw [ff]
      dsimp only
      rw [ex]
    · unfold twS twO
      rw [ff, ex, if_pos (by rfl)]
      refine XL.pl S4.1 (fun a h1 h2 h3 => by rw [e5 a h3, s4 a (by omega)]) (F4.fr fun a h1 h2 => e5 a (by omega)) (PlB.fr P4 (e5 10 (by omega)) (e5 11 (by omega))) ?_
      dsimp only
      rw [set_eq, upd_eq]
theorem twS_good (S : St) (G : GoodS S) : GoodS (twS S) := by
  have GL : GoodS (letS S (0, S.2.2.2.1.2)) := ⟨G.1, G.2.1, G.2.2.1, ⟨Nat.zero_le _, fun k hk => absurd hk (Nat.not_lt_zero k)⟩, G.2.2.2.2⟩
  unfold twS
  by_cases c : twO S.2.2.2.1 (S.1, S.2.1) = true
  · rw [if_pos c]
    unfold twO at c
    rw [Bool.and_eq_true] at c
    have ff : Ff S.2.2.2.1 = none := by
      cases z : Ff S.2.2.2.1
      · rfl
      · rw [z] at c
        cases c.1
    obtain ⟨a, p⟩ := ex_good (s := (S.1, S.2.1)) ff G.1 G.2.1 S.2.2.2.1.1 (Nat.le_refl _)
    exact pS_good GL a p
  · rw [if_neg c]
    exact GL
