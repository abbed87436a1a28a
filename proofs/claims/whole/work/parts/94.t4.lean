/-! TOWN: the reference reads -/
def dgt (T : LV) (q : Nat) : Prop := q < T.1 ∧ 48 ≤ T.2 q ∧ T.2 q ≤ 57
def TpY (h : HP) (T : LV) : Prop := h.1 110 14 = nI T.1 ∧ ∀ k, k < T.1 → h.1 119 k = nI (T.2 k)
theorem X7_next {h : HP} {T : LV} {p : Nat} (R : RefOk h.2) (H : TpY h T) (hn : T.1 ≤ 96) (e : h.1 110 15 = nI p) (hp : p ≤ T.1) : cv 6 110 (f_X7_next 110) h = some (if T.1 ≤ p then -1 else nI (T.2 p), h) := by
  show f_X7_next 110 h = _
  unfold f_X7_next
  rw [g110_15, e, g110_14, H.1, ifa]
  by_cases c : T.1 ≤ p
  · rw [if_pos (nI_le c (by omega)), if_pos c]
    rfl
  · rw [if_neg (nI_ge (show p < T.1 by omega) (by omega)), if_neg c, g110_10 R, g110_15, e, a119 (by omega), H.2 p (by omega)]
    rfl
theorem isInV {h : HP} {x lo hi : Int32} : f_X7_isIn x lo hi h = some (if x < lo then 0 else if hi < x then 0 else 1, h) := by
  unfold f_X7_isIn
  rw [ifa, ifa]
  split
  · rfl
  · split <;> rfl
def vl (f : Nat → Nat) (p : Nat) : Nat → Nat
  | 0 => 0
  | j + 1 => 10 * vl f p j + f (p + j) - 48
theorem vl_s (f : Nat → Nat) (p j : Nat) : vl f p (j + 1) = 10 * vl f p j + f (p + j) - 48 := rfl
def FrP (h h' : HP) : Prop := h'.2 = h.2 ∧ (∀ a, ¬ a = 110 → ¬ a = 122 → h'.1 a = h.1 a) ∧ ∀ k, ¬ k = 15 → h'.1 110 k = h.1 110 k
theorem FrP.rf {h : HP} : FrP h h := ⟨rfl, fun _ _ _ => rfl, fun _ _ => rfl⟩
theorem FrP.tr {h h1 h2 : HP} (a : FrP h h1) (b : FrP h1 h2) : FrP h h2 := ⟨b.1.trans a.1, fun x p q => (b.2.1 x p q).trans (a.2.1 x p q), fun k p => (b.2.2 k p).trans (a.2.2 k p)⟩
theorem FrP.tp {h h' : HP} {T : LV} (a : FrP h h') (H : TpY h T) : TpY h' T := ⟨(a.2.2 14 (by omega)).trans H.1, fun k hk => by rw [a.2.1 119 (by omega) (by omega)]; exact H.2 k hk⟩
/-- the digits from q on give out before the d-th -/
def Bad (h' : HP) (T : LV) (q d : Nat) (v : Int32) : Prop := ∃ j, j < d ∧ (∀ i, i < j → dgt T (q + i)) ∧ ¬ dgt T (q + j) ∧ v = 0 ∧ h'.1 110 15 = nI (q + j) ∧ q + j ≤ T.1
def Fine (h h' : HP) (T : LV) (q d slot : Nat) (v : Int32) : Prop := (∀ j, j < d → dgt T (q + j)) ∧ v = 1 ∧ h'.1 110 15 = nI (q + d) ∧ q + d ≤ T.1 ∧ h'.1 122 slot = nI (vl T.2 q d) ∧ ∀ m, ¬ m = slot → h'.1 122 m = h.1 122 m
theorem X7_readsDigits {h : HP} {T : LV} {p slot cnt : Nat} (R : RefOk h.2) (H : TpY h T) (G : GoodT T) (e : h.1 110 15 = nI p) (hp : p ≤ T.1) (hs : slot < 144) (hc : cnt ≤ 2) : wp (cv 6 110 (f_X7_readsDigits 110 (nI slot) (nI cnt))) h fun v h' => FrP h h' ∧ (Fine h h' T p cnt slot v ∨ (Bad h' T p cnt v ∧ h'.1 122 = h.1 122)) := by
  have hn := G.1
  show wp (f_X7_readsDigits 110 (nI slot) (nI cnt)) h _
  unfold f_X7_readsDigits
  refine wp_loop (fun j z h' => z = (nI (vl T.2 p j), nI j) ∧ (vl T.2 p j ≤ 99 ∧ (j = 0 → vl T.2 p j = 0) ∧ (j = 1 → vl T.2 p j ≤ 9)) ∧ (∀ i, i < j → dgt T (p + i)) ∧ h'.1 110 15 = nI (p + j) ∧ p + j ≤ T.1 ∧ h'.1 122 = h.1 122 ∧ FrP h h') cnt (nf_lt (by omega)) (fun j hj z h' q k K => ?_) (fun z h' k q => ?_) ⟨rfl, ⟨Nat.zero_le _, fun _ => rfl, fun q => by omega⟩, fun i hi => by omega, e, hp, rfl, FrP.rf⟩
  · obtain ⟨rfl, q1, q2, q3, q4, q5, q6⟩ := q
    have R1 : RefOk h'.2 := by rw [q6.1]; exact R
    have H1 := q6.tp H
    dsimp only
    rw [if_neg (nI_ge hj (by omega)), nI_1]
    refine wp_call (X7_next R1 H1 hn q3 q4) (wp_call isInV ?_)
    by_cases c : T.1 ≤ p + j
    · rw [if_pos c, if_neg (show ¬ ¬ (if (-1 : Int32) < 48 then (0 : Int32) else if (57 : Int32) < -1 then 0 else 1) = 0 by decide)]
      exact wp_retZ (Or.inl rfl) ⟨q6, Or.inr ⟨⟨j, hj, q2, fun q => by have := q.1; omega, rfl, q3, q4⟩, q5⟩⟩
    · have hi : p + j < T.1 := by omega
      have g := G.2 (p + j) hi
      rw [if_neg c]
      by_cases d : 48 ≤ T.2 (p + j) ∧ T.2 (p + j) ≤ 57
      · have e1 : (if nI (T.2 (p + j)) < 48 then (0 : Int32) else if (57 : Int32) < nI (T.2 (p + j)) then 0 else 1) = 1 := by
          rw [if_neg (show ¬ nI (T.2 (p + j)) < 48 from fun q => absurd ((nI_ltI (b := 48) (by omega) (by omega)).mp q) (by omega)), if_neg (show ¬ (57 : Int32) < nI (T.2 (p + j)) from fun q => absurd ((nI_ltI (a := 57) (by omega) (by omega)).mp q) (by omega))]
        rw [e1, if_pos (show ¬ (1 : Int32) = 0 by decide)]
        refine wp_call (X7_next R1 H1 hn q3 q4) ?_
        rw [if_neg c]
        refine wp_eq g110_15 ?_
        rw [q3, nI_1]
        have e4 : ∀ a, ¬ a = 110 → (setR h'.1 110 (upd (h'.1 110) 15 (nI (p + j + 1))), h'.2).1 a = h'.1 a := fun a ha => by dsimp only; rw [set_ne _ _ ha]
        have b1 : vl T.2 p j ≤ 9 := by
          rcases (show j = 0 ∨ j = 1 by omega) with z | z
          · rw [q1.2.1 z]
            omega
          · exact q1.2.2 z
        refine wp_eq p110_15 (K _ _ ⟨?_, ?_, fun i hi => ?_, ?_, by omega, by rw [e4 122 (by omega)]; exact q5, q6.tr ⟨rfl, fun a h1 h2 => e4 a h1, fun k hk => by dsimp only; rw [set_eq, upd_ne _ _ hk]⟩⟩)
        · rw [vl_s, show (10 : Int32) = nI 10 from rfl, pk_mul, nI_add, show (48 : Int32) = nI 48 from rfl, pk_sub (by omega)]
        · rw [vl_s]
          refine ⟨by omega, fun q => by omega, fun q => ?_⟩
          have := q1.2.1 (by omega)
          omega
        · by_cases z : i = j
          · subst z
            exact ⟨by omega, d.1, d.2⟩
          · exact q2 i (by omega)
        · dsimp only
          rw [set_eq, upd_eq, show p + j + 1 = p + (j + 1) by omega]
      · have e1 : (if nI (T.2 (p + j)) < 48 then (0 : Int32) else if (57 : Int32) < nI (T.2 (p + j)) then 0 else 1) = 0 := by
          by_cases w : T.2 (p + j) < 48
          · rw [if_pos (show nI (T.2 (p + j)) < 48 from (nI_ltI (b := 48) (by omega) (by omega)).mpr w)]
          · rw [if_neg (show ¬ nI (T.2 (p + j)) < 48 from fun q => w ((nI_ltI (b := 48) (by omega) (by omega)).mp q)), if_pos (show (57 : Int32) < nI (T.2 (p + j)) from (nI_ltI (a := 57) (by omega) (by omega)).mpr (by omega))]
        rw [e1, if_neg (show ¬ ¬ (0 : Int32) = 0 from fun q => q rfl)]
        exact wp_retZ (Or.inl rfl) ⟨q6, Or.inr ⟨⟨j, hj, q2, fun q => d q.2, rfl, q3, q4⟩, q5⟩⟩
  · obtain ⟨rfl, q1, q2, q3, q4, q5, q6⟩ := q
    have R1 : RefOk h'.2 := by rw [q6.1]; exact R
    dsimp only
    rw [if_pos (nI_le (Nat.le_refl _) (by omega))]
    have e4 : ∀ a, ¬ a = 122 → (setR h'.1 122 (upd (h'.1 122) slot (nI (vl T.2 p cnt))), h'.2).1 a = h'.1 a := fun a ha => by dsimp only; rw [set_ne _ _ ha]
    refine wp_eq (g110_13 R1) (wp_eq (s122 hs) (wp_retZ (Or.inr rfl) ⟨q6.tr ⟨rfl, fun a h1 h2 => e4 a h2, fun k hk => by rw [e4 110 (by omega)]⟩, Or.inl ⟨q2, rfl, by rw [e4 110 (by omega)]; exact q3, q4, ?_, fun m hm => ?_⟩⟩))
    · dsimp only
      rw [set_eq, upd_eq]
    · dsimp only
      rw [set_eq, upd_ne _ _ hm, q5]
theorem vl1 {f : Nat → Nat} {q : Nat} : vl f q 1 = f q - 48 := by
  rw [vl_s, show vl f q 0 = 0 from rfl, show q + 0 = q by omega]
  omega
theorem vl2 {f : Nat → Nat} {q : Nat} (h1 : 48 ≤ f q) (h2 : 48 ≤ f (q + 1)) : vl f q 2 = 10 * (f q - 48) + (f (q + 1) - 48) := by
  rw [vl_s, vl1]
  omega
theorem Bad.later {h' : HP} {T : LV} {q d a D : Nat} {v : Int32} (B : Bad h' T (q + a) d v) (F : ∀ j, j < a → dgt T (q + j)) (hD : a + d ≤ D) : Bad h' T q D v := by
  obtain ⟨j, j1, j2, j3, j4, j5, j6⟩ := B
  refine ⟨a + j, by omega, fun i hi => ?_, by rw [show q + (a + j) = q + a + j by omega]; exact j3, j4, by rw [show q + (a + j) = q + a + j by omega]; exact j5, by omega⟩
  by_cases c : i < a
  · exact F i c
  · have := j2 (i - a) (by omega)
    rwa [show q + a + (i - a) = q + i by omega] at this
theorem Bad.more {h' : HP} {T : LV} {q d D : Nat} {v : Int32} (B : Bad h' T q d v) (hD : d ≤ D) : Bad h' T q D v := by
  obtain ⟨j, j1, j2, j3, j4, j5, j6⟩ := B
  exact ⟨j, by omega, j2, j3, j4, j5, j6⟩
def Told (h : HP) (f : Nat → Nat) (k p : Nat) : Prop := h.1 122 (3 * k) = nI (ax f p) ∧ (¬ f p = 110 → h.1 122 (3 * k + 1) = nI (ay f p)) ∧ (f p = 112 → h.1 122 (3 * k + 2) = nI (az f p))
/-- all digits of a statement at p -/
def AllD (h h' : HP) (T : LV) (k p : Nat) (v : Int32) : Prop := (∀ j, j < dg (T.2 p) → dgt T (p + 1 + j)) ∧ v = 1 ∧ h'.1 110 15 = nI (p + 1 + dg (T.2 p)) ∧ p + 1 + dg (T.2 p) ≤ T.1 ∧ Told h' T.2 k p
theorem X7_readsAll {h : HP} {T : LV} {k p : Nat} (R : RefOk h.2) (H : TpY h T) (G : GoodT T) (e : h.1 110 15 = nI (p + 1)) (hp : p < T.1) (hk : k < 40) (hd : ¬ dg (T.2 p) = 0) : wp (cv 6 110 (f_X7_readsAll 110 (nI (T.2 p)) ((3 : Int32) * nI k))) h fun v h' => FrP h h' ∧ (∀ m, m < 3 * k ∨ 3 * k + 3 ≤ m → h'.1 122 m = h.1 122 m) ∧ (AllD h h' T k p v ∨ Bad h' T (p + 1) (dg (T.2 p)) v) := by
  have hn := G.1
  have g := G.2 p hp
  have E : ∀ k, k ≤ 255 → (nI (T.2 p) = nI k) = (T.2 p = k) := fun k hk => eq_nI (by omega) (by omega)
  rw [show (3 : Int32) * nI k = nI (3 * k) from pk_mul 3 k]
  show wp (f_X7_readsAll 110 (nI (T.2 p)) (nI (3 * k))) h _
  unfold f_X7_readsAll
  rw [nI_1, show nI (3 * k) + 2 = nI (3 * k + 2) from nI_add (3 * k) 2]
  by_cases c2 : T.2 p = 98
  · have d3 : dg (T.2 p) = 3 := by rw [c2]; rfl
    rw [if_pos (show nI (T.2 p) = 98 by rw [c2]; rfl), d3]
    refine wp_bnd (wp_mono (X7_readsDigits (cnt := 1) R H G e (by omega) (show 3 * k < 144 by omega) (by omega)) fun v h1 q => ?_)
    obtain ⟨r1, q⟩ := q
    rcases q with ⟨f1, rfl, f3, f4, f5, f6⟩ | ⟨b, bs⟩
    · rw [if_neg (show ¬ (1 : Int32) = 0 by decide)]
      refine wp_bnd (wp_mono (X7_readsDigits (cnt := 2) (by rw [r1.1]; exact R) (r1.tp H) G f3 f4 (show 3 * k + 1 < 144 by omega) (by omega)) fun v h2 q => ?_)
      obtain ⟨r2, q⟩ := q
      rcases q with ⟨z1, rfl, z3, z4, z5, z6⟩ | ⟨b, bs⟩
      · rw [if_neg (show ¬ (1 : Int32) = 0 by decide)]
        have y0 := z1 0 (by omega)
        have y1 := z1 1 (by omega)
        refine wp_retZ (Or.inr rfl) ⟨r1.tr r2, fun m hm => by rw [z6 m (by omega), f6 m (by omega)], Or.inl ⟨fun j hj => ?_, rfl, by rw [d3]; exact z3, by rw [d3]; exact z4, ?_, fun _ => ?_, fun q => by omega⟩⟩
        · rw [d3] at hj
          by_cases w : j < 1
          · exact f1 j w
          · have := z1 (j - 1) (by omega)
            rwa [show p + 1 + 1 + (j - 1) = p + 1 + j by omega] at this
        · rw [z6 _ (by omega), f5, vl1]
          rfl
        · rw [z5, vl2 (by have := y0.2.1; rwa [show p + 1 + 1 + 0 = p + 1 + 1 by omega] at this) y1.2.1]
          unfold ay
          rw [if_pos c2]
      · obtain ⟨j, j1, j2, j3, rfl, j5, j6⟩ := id b
        rw [if_pos rfl]
        exact wp_retZ (Or.inl rfl) ⟨r1.tr r2, fun m hm => by rw [bs, f6 m (by omega)], Or.inr (b.later f1 (by omega))⟩
    · obtain ⟨j, j1, j2, j3, rfl, j5, j6⟩ := id b
      rw [if_pos rfl]
      exact wp_retZ (Or.inl rfl) ⟨r1, fun m hm => by rw [bs], Or.inr (b.more (by omega))⟩
  rw [if_neg (show ¬ nI (T.2 p) = 98 from fun q => c2 (Eq.mp (E 98 (by omega)) q))]
  have ey : ay T.2 p = T.2 (p + 2) - 48 := if_neg c2
  by_cases c1 : T.2 p = 110
  · have d1 : dg (T.2 p) = 1 := by rw [c1]; rfl
    rw [if_pos (show nI (T.2 p) = 110 by rw [c1]; rfl), d1]
    refine wp_bnd (wp_mono (X7_readsDigits (cnt := 1) R H G e (by omega) (show 3 * k < 144 by omega) (by omega)) fun v h1 q => ?_)
    obtain ⟨r1, q⟩ := q
    rcases q with ⟨f1, rfl, f3, f4, f5, f6⟩ | ⟨b, bs⟩
    · refine wp_retZ (Or.inr rfl) ⟨r1, fun m hm => f6 m (by omega), Or.inl ⟨fun j hj => f1 j (by omega), rfl, by rw [d1]; exact f3, by rw [d1]; exact f4, ?_, fun q => absurd c1 q, fun q => by omega⟩⟩
      rw [f5, vl1]
      rfl
    · obtain ⟨j, j1, j2, j3, rfl, j5, j6⟩ := id b
      exact wp_retZ (Or.inl rfl) ⟨r1, fun m hm => by rw [bs], Or.inr b⟩
  rw [if_neg (show ¬ nI (T.2 p) = 110 from fun q => c1 (Eq.mp (E 110 (by omega)) q))]
  by_cases c4 : T.2 p = 112
  · have d4 : dg (T.2 p) = 4 := by rw [c4]; rfl
    rw [if_pos (show nI (T.2 p) = 112 by rw [c4]; rfl), d4]
    refine wp_bnd (wp_mono (X7_readsDigits (cnt := 1) R H G e (by omega) (show 3 * k < 144 by omega) (by omega)) fun v h1 q => ?_)
    obtain ⟨r1, q⟩ := q
    rcases q with ⟨f1, rfl, f3, f4, f5, f6⟩ | ⟨b, bs⟩
    · rw [if_neg (show ¬ (1 : Int32) = 0 by decide)]
      refine wp_bnd (wp_mono (X7_readsDigits (cnt := 1) (by rw [r1.1]; exact R) (r1.tp H) G f3 f4 (show 3 * k + 1 < 144 by omega) (by omega)) fun v h2 q => ?_)
      obtain ⟨r2, q⟩ := q
      have H2 := (r1.tr r2).tp H
      rcases q with ⟨z1, rfl, z3, z4, z5, z6⟩ | ⟨b, bs⟩
      · rw [if_neg (show ¬ (1 : Int32) = 0 by decide)]
        refine wp_bnd (wp_mono (X7_readsDigits (cnt := 2) (by rw [(r1.tr r2).1]; exact R) H2 G z3 z4 (show 3 * k + 2 < 144 by omega) (by omega)) fun v h3 q => ?_)
        obtain ⟨r3, q⟩ := q
        have F2 : ∀ j, j < 2 → dgt T (p + 1 + j) := fun j hj => by
          by_cases w : j < 1
          · exact f1 j w
          · have := z1 (j - 1) (by omega)
            rwa [show p + 1 + 1 + (j - 1) = p + 1 + j by omega] at this
        rcases q with ⟨y1, rfl, y3, y4, y5, y6⟩ | ⟨b, bs⟩
        · rw [if_neg (show ¬ (1 : Int32) = 0 by decide)]
          have x0 := y1 0 (by omega)
          have x1 := y1 1 (by omega)
          refine wp_retZ (Or.inr rfl) ⟨(r1.tr r2).tr r3, fun m hm => by rw [y6 m (by omega), z6 m (by omega), f6 m (by omega)], Or.inl ⟨fun j hj => ?_, rfl, by rw [d4]; exact y3, by rw [d4]; exact y4, ?_, fun _ => ?_, fun _ => ?_⟩⟩
          · rw [d4] at hj
            by_cases w : j < 2
            · exact F2 j w
            · have := y1 (j - 2) (by omega)
              rwa [show p + 1 + 1 + 1 + (j - 2) = p + 1 + j by omega] at this
          · rw [y6 _ (by omega), z6 _ (by omega), f5, vl1]
            rfl
          · rw [y6 _ (by omega), z5, vl1, ey]
          · rw [y5, vl2 (by have := x0.2.1; rwa [show p + 1 + 1 + 1 + 0 = p + 1 + 1 + 1 by omega] at this) x1.2.1]
            rfl
        · obtain ⟨j, j1, j2, j3, rfl, j5, j6⟩ := id b
          rw [if_pos rfl]
          exact wp_retZ (Or.inl rfl) ⟨(r1.tr r2).tr r3, fun m hm => by rw [bs, z6 m (by omega), f6 m (by omega)], Or.inr (Bad.later (a := 2) b F2 (by omega))⟩
      · obtain ⟨j, j1, j2, j3, rfl, j5, j6⟩ := id b
        rw [if_pos rfl]
        exact wp_retZ (Or.inl rfl) ⟨r1.tr r2, fun m hm => by rw [bs, f6 m (by omega)], Or.inr (b.later f1 (by omega))⟩
    · obtain ⟨j, j1, j2, j3, rfl, j5, j6⟩ := id b
      rw [if_pos rfl]
      exact wp_retZ (Or.inl rfl) ⟨r1, fun m hm => by rw [bs], Or.inr (b.more (by omega))⟩
  rw [if_neg (show ¬ nI (T.2 p) = 112 from fun q => c4 (Eq.mp (E 112 (by omega)) q))]
  have d2 : dg (T.2 p) = 2 := by
    unfold dg at hd ⊢
    by_cases w1 : T.2 p = 97
    · rw [if_pos w1]
    rw [if_neg w1, if_neg c2] at hd ⊢
    by_cases w3 : T.2 p = 103
    · rw [if_pos w3]
    rw [if_neg w3, if_neg c1, if_neg c4] at hd ⊢
    by_cases w5 : T.2 p = 119
    · rw [if_pos w5]
    rw [if_neg w5] at hd
    exact absurd rfl hd
  rw [d2]
  refine wp_bnd (wp_mono (X7_readsDigits (cnt := 1) R H G e (by omega) (show 3 * k < 144 by omega) (by omega)) fun v h1 q => ?_)
  obtain ⟨r1, q⟩ := q
  rcases q with ⟨f1, rfl, f3, f4, f5, f6⟩ | ⟨b, bs⟩
  · rw [if_neg (show ¬ (1 : Int32) = 0 by decide)]
    refine wp_bnd (wp_mono (X7_readsDigits (cnt := 1) (by rw [r1.1]; exact R) (r1.tp H) G f3 f4 (show 3 * k + 1 < 144 by omega) (by omega)) fun v h2 q => ?_)
    obtain ⟨r2, q⟩ := q
    rcases q with ⟨z1, rfl, z3, z4, z5, z6⟩ | ⟨b, bs⟩
    · rw [if_neg (show ¬ (1 : Int32) = 0 by decide)]
      refine wp_retZ (Or.inr rfl) ⟨r1.tr r2, fun m hm => by rw [z6 m (by omega), f6 m (by omega)], Or.inl ⟨fun j hj => ?_, rfl, by rw [d2]; exact z3, by rw [d2]; exact z4, ?_, fun _ => ?_, fun q => absurd q c4⟩⟩
      · rw [d2] at hj
        by_cases w : j < 1
        · exact f1 j w
        · have := z1 (j - 1) (by omega)
          rwa [show p + 1 + 1 + (j - 1) = p + 1 + j by omega] at this
      · rw [z6 _ (by omega), f5, vl1]
        rfl
      · rw [z5, vl1, ey]
    · obtain ⟨j, j1, j2, j3, rfl, j5, j6⟩ := id b
      rw [if_pos rfl]
      exact wp_retZ (Or.inl rfl) ⟨r1.tr r2, fun m hm => by rw [bs, f6 m (by omega)], Or.inr (b.later f1 (by omega))⟩
  · obtain ⟨j, j1, j2, j3, rfl, j5, j6⟩ := id b
    rw [if_pos rfl]
    exact wp_retZ (Or.inl rfl) ⟨r1, fun m hm => by rw [bs], Or.inr (b.more (by omega))⟩
