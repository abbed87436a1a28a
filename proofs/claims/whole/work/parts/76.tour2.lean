/-! TOUR: THE TWO PROGRAMS -/
def RowS (h : HP) (a : Nat) (m : Nat → Nat) : Prop := ∀ s, s < 256 → h.1 a s = nI (m s)
theorem smv_lt {V g : Nat → Nat} {s n : Nat} {m : Nat → Nat} (hn : n ≤ 8) (hm : ∀ y, m y < 2 ^ 8) : ∀ y, smv V g s n m y < 2 ^ 8 := by
  induction n with
  | zero => exact hm
  | succ n ih =>
    intro y
    have := ih (by omega)
    rw [smv_s]
    unfold smG
    split
    · dsimp only
      split
      · exact or_lt (this y) (by omega)
      · exact this y
    · exact this y
theorem smF_lt {V g : Nat → Nat} (i : Nat) : ∀ y, smF V g i y < 2 ^ 8 := by
  induction i with
  | zero => exact fun y => Nat.two_pow_pos 8
  | succ i ih => exact smv_lt (Nat.le_refl 8) ih
theorem nxt_0 {V : Nat → Nat} {m : Nat} : nxt V 0 m = 0 := by
  induction m with
  | zero => rfl
  | succ m ih =>
    rw [nxt_s, ih]
    unfold nxtG
    rw [tb_zero]
    rfl
def G89 (a : Nat) : Prop := a = 108 ∨ a = 109
theorem X6_stepOn {h : HP} {P : (Nat → Nat) × (Nat → Nat)} {g : Nat → Nat} (R : RefOk h.2) (T : PlX h P) (GP : GoodP P) (D : RowS h 108 g) (hg : ∀ s, g s < 2 ^ 8) : wp (cv 5 0 (f_X6_stepOn 0)) h fun _ h' => RowS h' 108 (smF P.1 g 256) ∧ Same G89 h h' := by
  have hV : ∀ k, k < 8 → P.1 k < 2 ^ 8 := fun k hk => (GP k hk).1
  show wp (f_X6_stepOn 0) h _
  unfold f_X6_stepOn
  refine wp_eq (g0_13 R) (wp_call (J7_fill (a := 109) (n := 256) rfl (by decide)) ?_)
  refine wp_loop (fun i s h' => s = nI i ∧ RowS h' 109 (smF P.1 g i) ∧ Same (fun a => a = 109) h h') 256 (nf_lt (by omega)) (fun i hi s h' q k K => ?_) (fun s h' k q => ?_) ⟨rfl, fun s hs => ?_, rfl, fun a ha => ?_⟩
  · obtain ⟨rfl, D1, S⟩ := q
    have R1 := RefOk.same S R
    have D8 : RowS h' 108 g := fun s hs => by rw [S.2 108 (by omega)]; exact D s hs
    have lm := smF_lt (V := P.1) (g := g) i
    have gi := hg i
    rw [smF_s] at K
    generalize smF P.1 g i = m at D1 lm K
    rw [if_neg (show ¬ (255 : Int32) < nI i from fun q => absurd ((nI_ltI (a := 255) (by omega) (by omega)).mp q) (by omega)), nI_1]
    refine wp_eq (g0_12 R1) (wp_eq (a108 hi) ?_)
    rw [D8 i hi]
    by_cases c : g i = 0
    · rw [c, if_neg (show ¬ ¬ nI 0 = 0 from fun q => q rfl)]
      have e0 : ∀ n, smv P.1 g i n m = m := fun n => by
        induction n with
        | zero => rfl
        | succ n ih =>
          rw [smv_s, ih]
          unfold smG
          rw [c, nxt_0, tb_zero]
          rfl
      rw [e0] at K
      refine wp_eq (lp_pure (s := fun j => nI j) 8 (nf_lt (by omega)) (fun j hj k2 => ?_) (fun k2 => ?_)) (K _ _ ⟨rfl, D1, S⟩)
      · rw [ifa, if_neg (show ¬ (8 : Int32) ≤ nI j from nI_ge (b := 8) hj (by omega)), show bnd (f_X6_holds (0 : Int32) (nI j)) _ h' = _ from e_bnd (X6_holds (x := 0) (by omega) (by omega)), tb_zero, ifa, if_pos (show (if false = true then (1 : Int32) else 0) = 0 from rfl), nI_1]
      · rw [ifa, if_pos (show (8 : Int32) ≤ nI 8 by decide)]
    · rw [if_pos (nI_ne0 (by omega) (by omega))]
      refine wp_eq (x_gr1 R1) (wp_eq (g9_0 R1) (wp_eq (g0_12 R1) (wp_eq (a108 hi) ?_)))
      rw [D8 i hi]
      refine wp_call (X2_next (m := 8) rfl (by omega) (fun k hk => by rw [S.2 10 (by omega)]; exact T.1 k hk) hV (by omega)) ?_
      have ln := nxt_lt (W := P.1) (s := g i) (m := 8) (e := 8) hV
      refine wp_loop (fun j s h2 => s = nI j ∧ RowS h2 109 (smv P.1 g i j m) ∧ Same (fun a => a = 109) h h2) 8 (nf_lt (by omega)) (fun j hj s h2 q k2 K2 => ?_) (fun s h2 k2 q => ?_) ⟨rfl, D1, S⟩
      · obtain ⟨rfl, D2, S2⟩ := q
        have R2 := RefOk.same S2 R
        have l2 := smv_lt (V := P.1) (g := g) (s := i) (n := j) (by omega) lm
        rw [smv_s] at K2
        generalize smv P.1 g i j m = m2 at D2 l2 K2
        have lp := pow_lt31 hj
        have lo := or_lt (s := i) (n := 8) hi hj
        rw [if_neg (show ¬ (8 : Int32) ≤ nI j from nI_ge (b := 8) hj (by omega)), nI_1]
        refine wp_call (X6_holds (by omega) (by omega)) ?_
        rw [tb_if]
        unfold smG at K2
        by_cases d : tb (nxt P.1 (g i) 8) j = true
        · rw [if_pos d]
          rw [if_pos d] at K2
          have l3 := l2 (i ||| 2 ^ j)
          rw [nI_shl1 (by omega), nI_or (by omega) (by omega)]
          refine wp_eq (g0_13 R2) (wp_eq (a109 lo) ?_)
          rw [D2 _ lo, nI_or (by omega) (by omega)]
          refine wp_eq (s109 lo) (K2 _ _ ⟨rfl, fun s hs => ?_, S2.1, fun a ha => ?_⟩)
          · dsimp only
            rw [set_eq]
            by_cases e : s = i ||| 2 ^ j
            · rw [if_pos e, e, upd_eq]
            · rw [if_neg e, upd_ne _ _ e]
              exact D2 s hs
          · dsimp only
            rw [set_ne _ _ ha]
            exact S2.2 a ha
        · rw [if_neg d]
          rw [if_neg d] at K2
          exact K2 _ _ ⟨rfl, D2, S2⟩
      · obtain ⟨rfl, D2, S2⟩ := q
        rw [if_pos (show (8 : Int32) ≤ nI 8 by decide)]
        exact K _ _ ⟨rfl, D2, S2⟩
  · obtain ⟨rfl, D1, S⟩ := q
    have R1 := RefOk.same S R
    rw [if_pos (show (255 : Int32) < nI 256 by decide)]
    refine wp_eq (g0_13 R1) (wp_eq (g0_12 R1) (wp_eq (g0_13 R1) (wp_eq l109 ?_)))
    refine wp_call (e_cpy (o := 109) (d := 108) (n0 := 256) (n1 := 256) (sp := 0) (dp := 0) (n := 256) rfl rfl (by decide) (by decide) (by decide) (by decide)) (wp_rt ⟨fun s hs => ?_, S.1, fun a ha => ?_⟩)
    · dsimp only
      rw [set_eq]
      unfold va_cpy
      rw [if_pos (by omega), show 0 + (s - 0) = s by omega]
      exact D1 s hs
    · dsimp only
      rw [set_ne _ _ (fun q => ha (Or.inl q))]
      exact S.2 a (fun q => ha (Or.inr q))
  · dsimp only
    rw [set_eq, if_pos hs]
    rfl
  · dsimp only
    rw [set_ne _ _ ha]
theorem X6_hasSeen {h : HP} {V : Nat → Nat} {a t k : Nat} (R : RefOk h.2) (D : RowS h 108 (stK V a k)) (hg : ∀ s, stK V a k s < 2 ^ 8) (ht : t < 2 ^ 8) : cv 5 0 (f_X6_hasSeen 0 (nI t)) h = some (if se V a t k = true then 1 else 0, h) := by
  show f_X6_hasSeen 0 (nI t) h = _
  unfold f_X6_hasSeen se
  refine lp_first (fun s => seP V a t k s = true) 0 256 (by omega) (fun s _ hs c k2 => ?_) (fun s _ hs c e k2 => ?_) (fun e k2 => ?_)
  · have l := hg s
    have lw : wo t s < 2 ^ 8 := wo_lt ht
    rw [ifa, if_neg (show ¬ (255 : Int32) < nI s from fun q => absurd ((nI_ltI (a := 255) (by omega) (by omega)).mp q) (by omega)), g0_12 R, a108 (show s < 256 by omega), D s (by omega), ifa, nI_1]
    unfold seP at c
    by_cases z : stK V a k s = 0
    · rw [if_pos (by rw [z]; rfl)]
    · rw [if_neg (nI_ne0 (by omega) (by omega)), nI_wo (by omega) (by omega), ifa]
      by_cases w : wo t s = 0
      · exact absurd (by simp [z, w]) c
      · rw [if_pos (nI_ne0 (by omega) (by omega))]
  · have l := hg s
    have lw : wo t s < 2 ^ 8 := wo_lt ht
    unfold seP at c
    rw [Bool.and_eq_true, decide_eq_true_eq] at c
    have z : ¬ stK V a k s = 0 := by simpa using c.1
    rw [ifa, if_neg (show ¬ (255 : Int32) < nI s from fun q => absurd ((nI_ltI (a := 255) (by omega) (by omega)).mp q) (by omega)), g0_12 R, a108 (show s < 256 by omega), D s (by omega), ifa, if_neg (nI_ne0 (by omega) (by omega)), nI_wo (by omega) (by omega), ifa, c.2, if_neg (show ¬ ¬ nI 0 = 0 from fun q => q rfl), e]
    rfl
  · rw [Nat.zero_add, ifa, if_pos (show (255 : Int32) < nI 256 by decide), e]
    rfl
def SymP (P : (Nat → Nat) × (Nat → Nat)) : Prop := ∀ x y, x < 8 → y < 8 → tb (P.1 x) y = true → tb (P.1 y) x = true
theorem pl_ob_no {x w : Int32} : fs (pl x) (ob w 0 255) = 0 ∨ IsNo (fs (pl x) (ob w 0 255)) := fs_no pl_no ob_no
theorem QX_tour {h : HP} {P : (Nat → Nat) × (Nat → Nat)} {x w : Int32} (R : RefOk h.2) (T : PlX h P) (GP : GoodP P) : wp (f_X6_tour 0 x w) h (OutX h (fs (pl x) (ob w 0 255)) (trS P.1 (ix x) (ix w))) := by
  have hV : ∀ k, k < 8 → P.1 k < 2 ^ 8 := fun k hk => (GP k hk).1
  unfold f_X6_tour
  refine wp_call X6_noPlace (wp_call X6_outside (wp_call X6_first (gX R pl_ob_no fun e => ?_)))
  obtain ⟨a, ha, rfl⟩ := pl_ix (fs_z e).1
  obtain ⟨t, -, ht, rfl⟩ := ob_ix (lo := 0) (hi := 255) (fs_z e).2 (by omega) (by omega)
  rw [ix_nI (by omega), ix_nI (by omega), nI_shl1 (by omega)]
  have lp := pow_lt31 ha
  refine wp_eq (g0_12 R) (wp_call (J7_fill (a := 108) (n := 256) rfl (by decide)) (wp_eq (g0_12 (by exact R)) (wp_eq (s108 lp) ?_)))
  have G9 : ∀ {h1 h2 : HP}, Same G89 h1 h2 → Same GX h1 h2 := fun S => S.wide fun x q => by unfold G89 at q; unfold GX; omega
  refine wp_first (fun k => se P.1 a t k = true) 0 15 (fun k h' => RowS h' 108 (stK P.1 a k) ∧ Same G89 h h') (by omega) (fun i _ hi c h' q k K => ?_) (fun i _ hi c f h' q k => ?_) (fun f h' q k => ?_) ⟨fun s hs => ?_, rfl, fun a ha => ?_⟩
  · obtain ⟨D, S⟩ := q
    have R1 := RefOk.same S R
    have T1 := T.same (G9 S)
    have lg := stK_lt hV ha i
    rw [if_neg (show ¬ (14 : Int32) < nI i from fun q => absurd ((nI_ltI (a := 14) (by omega) (by omega)).mp q) (by omega))]
    refine wp_call (X6_hasSeen R1 D lg (by omega)) ?_
    rw [if_neg c, if_pos rfl]
    refine wp_bnd (wp_mono (X6_stepOn R1 T1 GP D lg) fun _ h2 q => ?_)
    rw [nI_1]
    exact K _ ⟨q.1, S.trans q.2 (fun _ q => q) (fun _ q => q)⟩
  · obtain ⟨D, S⟩ := q
    have R1 := RefOk.same S R
    have lg := stK_lt hV ha i
    rw [if_neg (show ¬ (14 : Int32) < nI i from fun q => absurd ((nI_ltI (a := 14) (by omega) (by omega)).mp q) (by omega))]
    refine wp_call (X6_hasSeen R1 D lg (by omega)) ?_
    rw [if_pos c, if_neg (show ¬ (1 : Int32) = 0 by decide)]
    refine wp_rt ⟨?_, G9 S⟩
    unfold trS
    rw [f]
  · obtain ⟨D, S⟩ := q
    rw [if_pos (show (14 : Int32) < nI (0 + 15) by decide)]
    refine wp_rt ⟨?_, G9 S⟩
    unfold trS
    rw [f]
  · dsimp only
    rw [set_eq, set_eq]
    show upd _ (2 ^ a) _ s = nI (if s = 2 ^ a then 2 ^ a else 0)
    by_cases c : s = 2 ^ a
    · rw [if_pos c, c, upd_eq]
    · rw [if_neg c, upd_ne _ _ c, if_pos hs]
      rfl
  · dsimp only
    rw [set_ne _ _ (fun q => ha (Or.inl q)), set_ne _ _ (fun q => ha (Or.inl q))]
/-! the reference's search -/
def RowT (h : HP) (D : Nat → Nat) : Prop := (∀ x, x < 2048 → h.1 130 x = nI (D x)) ∧ ∀ x, D x ≤ Big
def suc (x v : Nat) : Nat := 8 * (x / 8 ||| 2 ^ v) + v
theorem suc_lt {x v : Nat} (hx : x < 2048) (hv : v < 8) : suc x v < 2048 := by
  have := or_lt (s := x / 8) (n := 8) (by omega) hv
  unfold suc
  omega
theorem suc_d {x v : Nat} (hv : v < 8) : suc x v / 8 = x / 8 ||| 2 ^ v ∧ suc x v % 8 = v := by
  unfold suc
  omega
theorem X7_stepsOn {h : HP} {P : (Nat → Nat) × (Nat → Nat)} {D : Nat → Nat} {x c : Nat} (R : RefOk h.2) (T : PlY h P) (GP : GoodP P) (E : RowT h D) (hx : x < 2048) (hc : c ≤ 1000) : wp (cv 6 110 (f_X7_stepsOn 110 (nI x) (nI c))) h fun y h' => ∃ D' f, y = nI f ∧ f ≤ 1 ∧ RowT h' D' ∧ Same (fun a => a = 130) h h' ∧ (∀ z, D' z = D z ∨ (D' z = c ∧ c < D z ∧ ∃ v, v < 8 ∧ tb (P.1 (x % 8)) v = true ∧ z = suc x v)) ∧ (∀ v, v < 8 → tb (P.1 (x % 8)) v = true → D' (suc x v) ≤ c) ∧ (f = 0 → ∀ z, D' z = D z) ∧ (f = 1 → ∃ z, z < 2048 ∧ D' z = c) := by
  show wp (f_X7_stepsOn 110 (nI x) (nI c)) h _
  unfold f_X7_stepsOn
  have p8 : x % 8 < 8 := by omega
  have hV := (GP _ p8).1
  have bg : Big = 1000000000 := rfl
  refine wp_loop (fun n s h' => ∃ D' f, s = (nI f, nI n) ∧ f ≤ 1 ∧ RowT h' D' ∧ Same (fun a => a = 130) h h' ∧ (∀ z, D' z = D z ∨ (D' z = c ∧ c < D z ∧ ∃ v, v < 8 ∧ tb (P.1 (x % 8)) v = true ∧ z = suc x v)) ∧ (∀ v, v < n → tb (P.1 (x % 8)) v = true → D' (suc x v) ≤ c) ∧ (f = 0 → ∀ z, D' z = D z) ∧ (f = 1 → ∃ z, z < 2048 ∧ D' z = c)) 8 (nf_lt (by omega)) (fun n hn s h' q k K => ?_) (fun s h' k q => ?_) ⟨D, 0, rfl, by omega, E, Same.rfl', fun z => Or.inl rfl, fun v hv => by omega, fun _ _ => rfl, fun q => by omega⟩
  · obtain ⟨D', f, rfl, f1, E1, S, q1, q2, q3, q4⟩ := q
    have R1 := RefOk.same S R
    dsimp only
    rw [if_neg (show ¬ (8 : Int32) ≤ nI n from nI_ge (b := 8) hn (by omega)), nI_1]
    refine wp_eq (b_div8 (by omega)) (wp_eq (g110_6 R1) (wp_eq (b_rem8 (by omega)) (wp_eq (a117 p8) ?_)))
    rw [show h'.1 117 (x % 8) = nI (P.1 (x % 8)) by rw [S.2 117 (by omega)]; exact T.1 _ p8]
    refine wp_call (X7_has (by omega) (by omega)) ?_
    rw [tb_if]
    by_cases t : tb (P.1 (x % 8)) n = true
    · rw [if_pos t]
      have lp := pow_lt31 hn
      have lo := or_lt (s := x / 8) (n := 8) (by omega) hn
      have ls := suc_lt hx hn
      have cap := E1.2 (suc x n)
      rw [nI_shl1 (by omega), nI_or (by omega) (by omega), show (8 : Int32) = nI 8 from rfl, pk_mul, nI_add, show 8 * (x / 8 ||| 2 ^ n) + n = suc x n from rfl]
      refine wp_eq (g110_29 R1) (wp_eq (a130 ls) ?_)
      rw [E1.1 _ ls]
      by_cases y : c < D' (suc x n)
      · rw [if_pos ((nI_ltI (by omega) (by omega)).mpr y)]
        refine wp_eq (g110_29 R1) (wp_eq (s130 ls) (K _ _ ⟨fun z => if z = suc x n then c else D' z, 1, rfl, by omega, ⟨fun z hz => ?_, fun z => ?_⟩, ⟨S.1, fun a ha => ?_⟩, fun z => ?_, fun v hv tv => ?_, fun q => by omega, fun _ => ⟨suc x n, ls, if_pos rfl⟩⟩))
        · dsimp only
          rw [set_eq]
          by_cases e : z = suc x n
          · rw [if_pos e, e, upd_eq]
          · rw [if_neg e, upd_ne _ _ e]
            exact E1.1 z hz
        · dsimp only
          split
          · omega
          · exact E1.2 z
        · dsimp only
          rw [set_ne _ _ ha]
          exact S.2 a ha
        · dsimp only
          by_cases e : z = suc x n
          · rw [if_pos e]
            subst e
            refine Or.inr ⟨rfl, ?_, n, hn, t, rfl⟩
            rcases q1 (suc x n) with h | h
            · omega
            · exact h.2.1
          · rw [if_neg e]
            exact q1 z
        · dsimp only
          by_cases e : suc x v = suc x n
          · rw [if_pos e]
            exact Nat.le_refl _
          · rw [if_neg e]
            by_cases g : v = n
            · subst g
              exact absurd rfl e
            · exact q2 v (by omega) tv
      · rw [if_neg (fun q => y ((nI_ltI (by omega) (by omega)).mp q))]
        refine K _ _ ⟨D', f, rfl, f1, E1, S, q1, fun v hv tv => ?_, q3, q4⟩
        by_cases g : v = n
        · subst g
          omega
        · exact q2 v (by omega) tv
    · rw [if_neg t]
      refine K _ _ ⟨D', f, rfl, f1, E1, S, q1, fun v hv tv => ?_, q3, q4⟩
      by_cases g : v = n
      · subst g
        exact absurd tv t
      · exact q2 v (by omega) tv
  · obtain ⟨D', f, rfl, f1, E1, S, q1, q2, q3, q4⟩ := q
    dsimp only
    rw [if_pos (show (8 : Int32) ≤ nI 8 by decide)]
    refine wp_retZ ?_ ⟨D', f, rfl, f1, E1, S, q1, q2, q3, q4⟩
    rcases (show f = 0 ∨ f = 1 by omega) with rfl | rfl
    · exact Or.inl rfl
    · exact Or.inr rfl
/-- in the middle of level k: all states below X are through -/
def Lev (V : Nat → Nat) (a t k X : Nat) (D : Nat → Nat) : Prop := D (8 * 2 ^ a + a) = 0 ∧ (∀ x, x < 2048 → D x < Big → D x ≤ k + 1 ∧ Tw V a (D x) (x / 8) (x % 8)) ∧ (∀ x v, x < 2048 → v < 8 → (D x < k ∨ (D x = k ∧ x < X)) → tb (V (x % 8)) v = true → D (suc x v) ≤ D x + 1) ∧ ∀ x, x < 2048 → (D x < k ∨ (D x = k ∧ x < X)) → ¬ wo t (x / 8) = 0
theorem Tw_suc {V : Nat → Nat} {a k x v : Nat} (hv : v < 8) (h : Tw V a k (x / 8) (x % 8)) (t : tb (V (x % 8)) v = true) : Tw V a (k + 1) (suc x v / 8) (suc x v % 8) := by
  rw [(suc_d hv).1, (suc_d hv).2]
  exact Tw_s.mpr ⟨_, _, h, t, rfl⟩
/-- who is there soon is known soon -/
theorem Lev.soon {V : Nat → Nat} {a t k X : Nat} {D : Nat → Nat} (L : Lev V a t k X D) (hV : ∀ k, k < 8 → V k < 2 ^ 8) (ha : a < 8) (j : Nat) (hj : j ≤ k) : ∀ s p, Tw V a j s p → D (8 * s + p) ≤ j := by
  induction j with
  | zero =>
    rintro s p ⟨rfl, rfl⟩
    rw [L.1]
    exact Nat.le_refl 0
  | succ j ih =>
    intro s p h
    obtain ⟨s', q, h1, h2, rfl⟩ := Tw_s.mp h
    obtain ⟨l1, l2⟩ := Tw_lt hV ha h1
    have l3 := tb_bit (hV q l2) h2
    have i := ih (by omega) s' q h1
    have := L.2.2.1 (8 * s' + q) p (by omega) l3 (Or.inl (by omega)) (by rw [show (8 * s' + q) % 8 = q by omega]; exact h2)
    unfold suc at this
    rw [show (8 * s' + q) / 8 = s' by omega] at this
    omega
/-- a hit at level k is the answer -/
theorem Lev.hit {V : Nat → Nat} {a t k X x : Nat} {D : Nat → Nat} (L : Lev V a t k X D) (hV : ∀ k, k < 8 → V k < 2 ^ 8) (sy : ∀ x y, x < 8 → y < 8 → tb (V x) y = true → tb (V y) x = true) (ha : a < 8) (hx : x < 2048) (hk : D x = k) (kb : k < Big) (ht : wo t (x / 8) = 0) : trS V a t = nI k := by
  have tw := (L.2.1 x hx (by omega)).2
  rw [hk] at tw
  have no : ∀ j, j < k → ¬ se V a t j = true := fun j hj q => by
    obtain ⟨s, p, h1, h2⟩ := (se_iff hV ha t j).mp q
    obtain ⟨l1, l2⟩ := Tw_lt hV ha h1
    have := L.soon hV ha j (by omega) s p h1
    refine L.2.2.2 (8 * s + p) (by omega) (Or.inl (by omega)) ?_
    rw [show (8 * s + p) / 8 = s by omega]
    exact h2
  have k14 : k ≤ 14 := by
    obtain ⟨j, j1, j2⟩ := Tw_14 hV sy ha tw
    refine Nat.not_lt.mp fun q => no j (by omega) ((se_iff hV ha t j).mpr ⟨_, _, j2, ht⟩)
  unfold trS
  rw [fnd_at (i := k) (by omega) (by omega) ((se_iff hV ha t k).mpr ⟨_, _, tw, ht⟩) fun j _ hj => no j hj]
/-- nothing new at level k: the answer is no -/
theorem Lev.none {V : Nat → Nat} {a t k : Nat} {D : Nat → Nat} (L : Lev V a t k 0 D) (hb : ∀ x, x < 2048 → D x < Big → D x ≤ k) (hV : ∀ k, k < 8 → V k < 2 ^ 8) (ha : a < 8) (kb : k < 1000) (nw : ∀ x, x < 2048 → ¬ D x = k) : trS V a t = -9 := by
  have bg : Big = 1000000000 := rfl
  have fin : ∀ j s p, Tw V a j s p → D (8 * s + p) < k := by
    intro j
    induction j with
    | zero =>
      rintro s p ⟨rfl, rfl⟩
      have := pow_lt31 ha
      have := nw (8 * 2 ^ p + p) (by omega)
      rw [L.1] at this ⊢
      omega
    | succ j ih =>
      intro s p h
      obtain ⟨s', q, h1, h2, rfl⟩ := Tw_s.mp h
      obtain ⟨l1, l2⟩ := Tw_lt hV ha h1
      have l3 := tb_bit (hV q l2) h2
      have i := ih s' q h1
      have e := L.2.2.1 (8 * s' + q) p (by omega) l3 (Or.inl i) (by rw [show (8 * s' + q) % 8 = q by omega]; exact h2)
      have ls := suc_lt (x := 8 * s' + q) (by omega) l3
      have n2 := nw _ ls
      have b2 := hb _ ls
      have es : suc (8 * s' + q) p = 8 * (s' ||| 2 ^ p) + p := by
        unfold suc
        rw [show (8 * s' + q) / 8 = s' by omega]
      rw [es] at e n2 b2
      have := b2 (by omega)
      omega
  unfold trS
  rw [fnd_all fun j _ _ q => ?_]
  obtain ⟨s, p, h1, h2⟩ := (se_iff hV ha t j).mp q
  obtain ⟨l1, l2⟩ := Tw_lt hV ha h1
  refine L.2.2.2 (8 * s + p) (by omega) (Or.inl (fin j s p h1)) ?_
  rw [show (8 * s + p) / 8 = s by omega]
  exact h2
