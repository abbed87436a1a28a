/-! WHAT THE REFERENCE KEEPS -/
/-- n numbers of the row a are kept from c on -/
def Kp (h : HP) (a c n : Nat) : HP := (fun i => if i = 110 then upd (h.1 110) 20 (nI (c + n)) else if i = 123 then (fun j => if c ≤ j ∧ j < c + n then h.1 a (j - c) else h.1 123 j) else h.1 i, h.2)
/-- n numbers of the row a are put back from c on -/
def Rs (h : HP) (a c n : Nat) : HP := (fun i => if i = 110 then upd (h.1 110) 20 (nI (c + n)) else if i = a then (fun j => if j < n then h.1 123 (c + j) else h.1 a j) else h.1 i, h.2)
/-- a loop whose heaps are known turn by turn -/
theorem lp_seq {σ β : Type} {B : σ → (σ → M β) → M β} {z : Option (β × HP)} (s : Nat → σ) (hh : Nat → HP) (n : Nat) (hn : n < NF) {s0 : σ} {h0 : HP} (hs : s 0 = s0) (hh0 : hh 0 = h0) (step : ∀ i, i < n → ∀ k, B (s i) k (hh i) = k (s (i + 1)) (hh (i + 1))) (fin : ∀ k, B (s n) k (hh n) = z) : loopK NF B s0 h0 = z := by
  subst hs
  subst hh0
  have key : ∀ d N i, i + d = n → d < N → loopK N B (s i) (hh i) = z := by
    intro d
    induction d with
    | zero =>
      intro N i hi hN
      cases N with
      | zero => omega
      | succ N =>
        have : i = n := by omega
        subst this
        exact fin _
    | succ d ih =>
      intro N i hi hN
      cases N with
      | zero => omega
      | succ N => exact (step i (by omega) _).trans (ih N (i + 1) (by omega) (by omega))
  exact key n NF 0 (by omega) hn
theorem fun_if {α : Type} (f g : Nat → α) (i : Nat) : (fun j => if j = i then f i else f j) = f := by
  funext j
  by_cases c : j = i
  · rw [if_pos c, c]
  · rw [if_neg c]
theorem hp_ext {h1 h2 : HP} (a : ∀ q, h1.1 q = h2.1 q) (b : h1.2 = h2.2) : h1 = h2 := Prod.ext (funext a) b
theorem upd_upd (f : Nat → Int32) (k : Nat) (v w : Int32) : upd (upd f k v) k w = upd f k w := by
  funext z
  by_cases c : z = k
  · rw [c, upd_eq, upd_eq]
  · rw [upd_ne _ _ c, upd_ne _ _ c, upd_ne _ _ c]
theorem Kp_110 {h : HP} {a c n : Nat} : (Kp h a c n).1 110 = upd (h.1 110) 20 (nI (c + n)) := rfl
theorem Kp_123 {h : HP} {a c n : Nat} : (Kp h a c n).1 123 = fun j => if c ≤ j ∧ j < c + n then h.1 a (j - c) else h.1 123 j := rfl
theorem Kp_ne {h : HP} {a c n i : Nat} (h1 : ¬ i = 110) (h2 : ¬ i = 123) : (Kp h a c n).1 i = h.1 i := by
  show (if i = 110 then _ else if i = 123 then _ else h.1 i) = _
  rw [if_neg h1, if_neg h2]
theorem Rs_110 {h : HP} {a c n : Nat} : (Rs h a c n).1 110 = upd (h.1 110) 20 (nI (c + n)) := rfl
theorem Rs_a {h : HP} {a c n : Nat} (h1 : ¬ a = 110) : (Rs h a c n).1 a = fun j => if j < n then h.1 123 (c + j) else h.1 a j := by
  show (if a = 110 then _ else if a = a then _ else h.1 a) = _
  rw [if_neg h1, if_pos rfl]
theorem Rs_ne {h : HP} {a c n i : Nat} (h1 : ¬ i = 110) (h2 : ¬ i = a) : (Rs h a c n).1 i = h.1 i := by
  show (if i = 110 then _ else if i = a then _ else h.1 i) = _
  rw [if_neg h1, if_neg h2]
theorem X7_passesK {h : HP} {a c n : Nat} (R : RefOk h.2) (hs : SHF[a]? = some (1, n)) (ha : ¬ a = 110 ∧ ¬ a = 123) (h19 : h.1 110 19 = 1) (h20 : h.1 110 20 = nI c) (hc : c + n ≤ 660) : f_X7_passes 110 a h = some ((), Kp h a c n) := by
  unfold f_X7_passes
  refine lp_seq (fun i => nI i) (fun i => Kp h a c i) n (nf_lt (by omega)) rfl ?_ (fun i hi k => ?_) (fun k => ?_)
  · unfold Kp
    have e1 : upd (h.1 110) 20 (nI (c + 0)) = h.1 110 := by
      funext z
      by_cases z1 : z = 20
      · rw [z1, upd_eq, h20]; rfl
      · rw [upd_ne _ _ z1]
    have e2 : (fun j => if c ≤ j ∧ j < c + 0 then h.1 a (j - c) else h.1 123 j) = h.1 123 := by
      funext z
      rw [if_neg (by omega)]
    rw [e1, e2]
    refine Prod.ext ?_ rfl
    funext q
    show _ = h.1 q; symm; show h.1 q = if q = 110 then h.1 110 else if q = 123 then h.1 123 else h.1 q
    by_cases q1 : q = 110
    · rw [if_pos q1, q1]
    · rw [if_neg q1]
      by_cases q2 : q = 123
      · rw [if_pos q2, q2]
      · rw [if_neg q2]
  · show bnd (len a) _ _ = _
    rw [e_bnd (e_len hs), if_neg (nI_ge (by omega) (by omega))]
    have R1 : RefOk (Kp h a c i).2 := R
    have e19 : (Kp h a c i).1 110 19 = 1 := by rw [Kp_110, upd_ne _ _ (by decide)]; exact h19
    have e20 : (Kp h a c i).1 110 20 = nI (c + i) := by rw [Kp_110, upd_eq]
    rw [g110_19, e19]
    simp only [jn]
    rw [if_neg (show ¬ (1 : Int32) = 0 by decide), g110_17 R1, g110_20, e20, e_bnd (e_aI hs (by omega) (by omega)), s123 (by omega)]
    simp only [g110_20, p110_20]
    rw [nI_1]
    refine congrArg (k (nI (i + 1))) (hp_ext (fun q => ?_) rfl)
    dsimp only
    by_cases q1 : q = 110
    · subst q1
      rw [set_eq, set_ne _ _ (by decide), Kp_110, Kp_110, upd_upd, upd_eq, nI_1, Nat.add_assoc]
    · rw [set_ne _ _ q1]
      by_cases q2 : q = 123
      · subst q2
        rw [set_eq, Kp_123, Kp_123, Kp_ne ha.1 ha.2]
        funext z
        by_cases z1 : z = c + i
        · rw [z1, upd_eq, if_pos (by omega), Nat.add_sub_cancel_left]
        · rw [upd_ne _ _ z1]
          by_cases z2 : c ≤ z ∧ z < c + i
          · rw [if_pos z2, if_pos (by omega)]
          · rw [if_neg z2, if_neg (by omega)]
      · rw [set_ne _ _ q2, Kp_ne q1 q2, Kp_ne q1 q2]
  · show bnd (len a) _ _ = _
    rw [e_bnd (e_len hs), if_pos (nI_le (Nat.le_refl _) (by omega))]
    rfl
theorem X7_passesR {h : HP} {a c n : Nat} (R : RefOk h.2) (hs : SHF[a]? = some (1, n)) (ha : ¬ a = 110 ∧ ¬ a = 123) (h19 : h.1 110 19 = 0) (h20 : h.1 110 20 = nI c) (hc : c + n ≤ 660) : f_X7_passes 110 a h = some ((), Rs h a c n) := by
  unfold f_X7_passes
  refine lp_seq (fun i => nI i) (fun i => Rs h a c i) n (nf_lt (by omega)) rfl ?_ (fun i hi k => ?_) (fun k => ?_)
  · unfold Rs
    have e1 : upd (h.1 110) 20 (nI (c + 0)) = h.1 110 := by
      funext z
      by_cases z1 : z = 20
      · rw [z1, upd_eq, h20]; rfl
      · rw [upd_ne _ _ z1]
    have e2 : (fun j => if j < 0 then h.1 123 (c + j) else h.1 a j) = h.1 a := by
      funext z
      rw [if_neg (by omega)]
    rw [e1, e2]
    refine Prod.ext ?_ rfl
    funext q
    show _ = h.1 q; symm; show h.1 q = if q = 110 then h.1 110 else if q = a then h.1 a else h.1 q
    by_cases q1 : q = 110
    · rw [if_pos q1, q1]
    · rw [if_neg q1]
      by_cases q2 : q = a
      · rw [if_pos q2, q2]
      · rw [if_neg q2]
  · show bnd (len a) _ _ = _
    rw [e_bnd (e_len hs), if_neg (nI_ge (by omega) (by omega))]
    have R1 : RefOk (Rs h a c i).2 := R
    have e19 : (Rs h a c i).1 110 19 = 0 := by rw [Rs_110, upd_ne _ _ (by decide)]; exact h19
    have e20 : (Rs h a c i).1 110 20 = nI (c + i) := by rw [Rs_110, upd_eq]
    have e123 : (Rs h a c i).1 123 = h.1 123 := Rs_ne (by decide) (fun q => ha.2 q.symm)
    rw [g110_19, e19]
    simp only [jn, if_true]
    rw [g110_17 R1, g110_20, e20, a123 (by omega), e123, e_bnd (e_sI hs (by omega) (by omega))]
    simp only [g110_20, p110_20]
    rw [nI_1]
    refine congrArg (k (nI (i + 1))) (hp_ext (fun q => ?_) rfl)
    dsimp only
    by_cases q1 : q = 110
    · subst q1
      rw [set_eq, set_ne _ _ (fun z => ha.1 z.symm), Rs_110, Rs_110, upd_upd, upd_eq, nI_1, Nat.add_assoc]
    · rw [set_ne _ _ q1]
      by_cases q2 : q = a
      · subst q2
        rw [set_eq, Rs_a q1, Rs_a q1]
        funext z
        by_cases z1 : z = i
        · rw [z1, upd_eq, if_pos (by omega)]
        · rw [upd_ne _ _ z1]
          by_cases z2 : z < i
          · rw [if_pos z2, if_pos (by omega)]
          · rw [if_neg z2, if_neg (by omega)]
      · rw [set_ne _ _ q2, Rs_ne q1 q2, Rs_ne q1 q2]
  · show bnd (len a) _ _ = _
    rw [e_bnd (e_len hs), if_pos (nI_le (Nat.le_refl _) (by omega))]
    rfl
