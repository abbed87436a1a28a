/-! THE TWO PROGRAMS' CHEAPEST WAYS -/
def RowD (h : HP) (a : Nat) (d : Nat → Nat) : Prop := ∀ v, v < 8 → h.1 a v = nI (d v)
def rxU (V c : Nat → Nat) (u n : Nat) (d : Nat → Nat) : Nat → Nat := fold (fun v => rx V c (8 * u + v)) n d
theorem rxU_s (V c : Nat → Nat) (u n : Nat) (d : Nat → Nat) : rxU V c u (n + 1) d = rx V c (8 * u + n) (rxU V c u n d) := rfl
theorem rx64 (V c : Nat → Nat) (d : Nat → Nat) : fold (rx V c) 64 d = fold (fun u d => rxU V c u 8 d) 8 d := by
  have := fold_flat (g := fun u v => rx V c (8 * u + v)) (w := 8) (i := 8) (a := d) (by omega)
  refine Eq.trans (fold_congr fun i hi a => ?_) this
  rw [show 8 * (i / 8) + i % 8 = i by omega]
theorem rx_inf {V c : Nat → Nat} {u v B : Nat} {d : Nat → Nat} (hv : v < 8) (hu : d u = B) (hd : ∀ x, d x ≤ B) : rx V c (8 * u + v) d = d := by
  unfold rx
  split
  · funext x
    rw [show (8 * u + v) / 8 = u by omega]
    split
    · have := hd x
      rw [hu]
      exact Nat.min_eq_left (by omega)
    · rfl
  · rfl
theorem rxU_inf {V c : Nat → Nat} {u B : Nat} {d : Nat → Nat} (hu : d u = B) (hd : ∀ x, d x ≤ B) (n : Nat) (hn : n ≤ 8) : rxU V c u n d = d := by
  induction n with
  | zero => rfl
  | succ n ih => rw [rxU_s, ih (by omega), rx_inf (by omega) hu hd]
theorem rxU_cap {V c : Nat → Nat} {u B : Nat} {d : Nat → Nat} (hd : ∀ x, d x ≤ B) (n : Nat) : ∀ x, rxU V c u n d x ≤ B := by
  induction n with
  | zero => exact hd
  | succ n ih => exact fun x => Nat.le_trans (rx_le V c _ _ x) (ih x)
theorem rx_at {V c : Nat → Nat} {u v : Nat} {d : Nat → Nat} (hv : v < 8) (h : tb (V u) v = true) (x : Nat) : rx V c (8 * u + v) d x = if x = v then min (d v) (d u + c v) else d x := by
  unfold rx
  rw [show (8 * u + v) / 8 = u by omega, show (8 * u + v) % 8 = v by omega, if_pos h]
  try dsimp only
  by_cases q : x = v
  · rw [if_pos q, if_pos q, q]
  · rw [if_neg q, if_neg q]
theorem rx_not {V c : Nat → Nat} {u v : Nat} {d : Nat → Nat} (hv : v < 8) (h : ¬ tb (V u) v = true) : rx V c (8 * u + v) d = d := by
  unfold rx
  rw [show (8 * u + v) / 8 = u by omega, show (8 * u + v) % 8 = v by omega, if_neg h]
def c16 (P : (Nat → Nat) × (Nat → Nat)) (v : Nat) : Nat := 16 * gl (P.2 v) + 1
theorem X4_goOnFrom {h : HP} {P : (Nat → Nat) × (Nat → Nat)} {u : Nat} {d : Nat → Nat} (R : RefOk h.2) (T : PlX h P) (GP : GoodP P) (D : RowD h 12 d) (hd : ∀ x, d x ≤ 1000000) (hu : u < 8) : wp (cv 3 9 (f_X4_goOnFrom 9 (nI u))) h fun _ h' => RowD h' 12 (rxU P.1 (c16 P) u 8 d) ∧ Same (fun a => a = 12) h h' := by
  refine wp_eq (e_cv sh9) ?_
  unfold f_X4_goOnFrom
  refine wp_eq (g9_2 R) (wp_eq (a12 hu) ?_)
  rw [D u hu]
  have du := hd u
  by_cases c : d u = 1000000
  · rw [if_neg (show ¬ ¬ nI (d u) = 1000000 from fun q => q (by rw [c]; rfl)), rxU_inf c hd 8 (Nat.le_refl _)]
    exact wp_rt ⟨D, Same.rfl'⟩
  · rw [if_pos (show ¬ nI (d u) = 1000000 from fun q => c ((nI_eq (b := 1000000) (by omega) (by omega)).mp q))]
    refine wp_loop (fun j s h' => s = nI j ∧ RowD h' 12 (rxU P.1 (c16 P) u j d) ∧ Same (fun a => a = 12) h h') 8 (nf_lt (by omega)) (fun j hj s h' q k K => ?_) (fun s h' k q => ?_) ⟨rfl, D, Same.rfl'⟩
    · obtain ⟨rfl, D1, S⟩ := q
      have R1 := RefOk.same S R
      have T1 : ∀ k, k < 8 → h'.1 10 k = nI (P.1 k) := fun k hk => by rw [S.2 10 (by omega)]; exact T.1 k hk
      have T2 : ∀ k, k < 8 → h'.1 11 k = nI (P.2 k) := fun k hk => by rw [S.2 11 (by omega)]; exact T.2 k hk
      have cap := rxU_cap (V := P.1) (c := c16 P) (u := u) hd j
      rw [rxU_s] at K
      generalize rxU P.1 (c16 P) u j d = e at D1 cap K
      have gu := (GP u hu).1
      have gj := gl_le (GP j hj).2
      rw [if_neg (show ¬ (8 : Int32) ≤ nI j from nI_ge (b := 8) hj (by omega))]
      refine wp_eq (g9_0 R1) (wp_eq (a10 hu) ?_)
      rw [T1 u hu]
      refine wp_call (X6_holds (by omega) (by omega)) ?_
      rw [tb_if, nI_1]
      by_cases t : tb (P.1 u) j = true
      · rw [if_pos t]
        refine wp_eq (g9_2 R1) (wp_eq (a12 hu) (wp_call (X4_glancesAt R1 T2 (fun k hk => (GP k hk).2) hj) (wp_eq (g9_2 R1) (wp_eq (g9_2 R1) (wp_eq (a12 hj) (wp_eq (s12 hj) ?_))))))
        have e1 := cap u
        have e2 := cap j
        refine K _ _ ⟨rfl, fun x hx => ?_, S.1, fun a ha => ?_⟩
        · dsimp only
          rw [set_eq, rx_at hj t]
          by_cases q : x = j
          · subst q
            rw [upd_eq, if_pos rfl, D1 u hu, D1 x hx, show (16 : Int32) = nI 16 from rfl, pk_mul, nI_add, nI_1, mmin_nI (by omega) (by omega)]
            rfl
          · rw [upd_ne _ _ q, if_neg q]
            exact D1 x hx
        · dsimp only
          rw [set_ne _ _ ha]
          exact S.2 a ha
      · rw [if_neg t]
        rw [rx_not hj t] at K
        exact K _ _ ⟨rfl, D1, S⟩
    · obtain ⟨rfl, D1, S⟩ := q
      rw [if_pos (show (8 : Int32) ≤ nI 8 by decide)]
      exact wp_rt ⟨D1, S⟩
def x16 (P : (Nat → Nat) × (Nat → Nat)) (a b : Nat) : Nat := bD P.1 (c16 P) (16 * gl (P.2 a)) 1000000 a 7 b
theorem X4_route {h : HP} {P : (Nat → Nat) × (Nat → Nat)} {a b : Nat} (R : RefOk h.2) (T : PlX h P) (GP : GoodP P) (ha : a < 8) (hb : b < 8) : wp (cv 3 9 (f_X4_route 9 (nI a) (nI b))) h fun v h' => v = nI (x16 P a b) ∧ Same (fun a => a = 12) h h' := by
  have ga := gl_le (GP a ha).2
  have hc : ∀ v, 0 < c16 P v := fun v => by unfold c16; omega
  refine wp_eq (e_cv sh9) ?_
  unfold f_X4_route
  refine wp_eq (g9_2 R) (wp_call (J7_fill (a := 12) (n := 8) rfl (by decide)) ?_)
  have S0 : Same (fun a => a = 12) h (setR h.1 12 (fun k => if k < 8 then (1000000 : Int32) else h.1 12 k), h.2) := ⟨rfl, fun q hq => by dsimp only; rw [set_ne _ _ hq]⟩
  refine wp_eq (g9_2 (by exact R)) (wp_call (X4_glancesAt (by exact R) (fun k hk => by dsimp only; rw [set_ne _ _ (by decide)]; exact T.2 k hk) (fun k hk => (GP k hk).2) ha) (wp_eq (s12 ha) ?_))
  rw [show (16 : Int32) = nI 16 from rfl, pk_mul]
  refine wp_loop (fun i s h' => s = nI (1 + i) ∧ RowD h' 12 (bF P.1 (c16 P) (16 * gl (P.2 a)) 1000000 a i) ∧ Same (fun a => a = 12) h h') 7 (nf_lt (by omega)) (fun i hi s h' q k K => ?_) (fun s h' k q => ?_) ⟨rfl, fun v hv => ?_, rfl, fun q hq => ?_⟩
  · obtain ⟨rfl, D1, S⟩ := q
    have cap := bF_cap (V := P.1) (c := c16 P) (s := 16 * gl (P.2 a)) (B := 1000000) (a := a) (by omega) i
    rw [bF_s, rx64] at K
    generalize bF P.1 (c16 P) (16 * gl (P.2 a)) 1000000 a i = d at D1 cap K
    rw [if_neg (show ¬ (8 : Int32) ≤ nI (1 + i) from nI_ge (b := 8) (by omega) (by omega))]
    have capF : ∀ u x, fold (fun u d => rxU P.1 (c16 P) u 8 d) u d x ≤ 1000000 := by
      intro u
      induction u with
      | zero => exact cap
      | succ u ih => exact rxU_cap ih 8
    refine wp_loop (fun u s h' => s = nI u ∧ RowD h' 12 (fold (fun u d => rxU P.1 (c16 P) u 8 d) u d) ∧ Same (fun a => a = 12) h h') 8 (nf_lt (by omega)) (fun u hu s h2 q k2 K2 => ?_) (fun s h2 k2 q => ?_) ⟨rfl, D1, S⟩
    · obtain ⟨rfl, D2, S2⟩ := q
      have T' : PlX h2 P := ⟨fun k hk => by rw [S2.2 10 (by omega)]; exact T.1 k hk, fun k hk => by rw [S2.2 11 (by omega)]; exact T.2 k hk⟩
      rw [if_neg (show ¬ (8 : Int32) ≤ nI u from nI_ge (b := 8) hu (by omega))]
      refine wp_bnd (wp_mono (X4_goOnFrom (RefOk.same S2 R) T' GP D2 (capF u) hu) fun _ h3 q => ?_)
      rw [nI_1]
      exact K2 _ _ ⟨rfl, q.1, S2.trans q.2 (fun _ q => q) (fun _ q => q)⟩
    · obtain ⟨rfl, D2, S2⟩ := q
      rw [if_pos (show (8 : Int32) ≤ nI 8 by decide), nI_1]
      exact K _ _ ⟨by rw [show 1 + i + 1 = 1 + (i + 1) by omega], D2, S2⟩
  · obtain ⟨rfl, D1, S⟩ := q
    have R1 := RefOk.same S R
    rw [if_pos (show (8 : Int32) ≤ nI (1 + 7) by decide)]
    refine wp_eq (g9_2 R1) (wp_eq (a12 hb) (wp_rt ⟨?_, S⟩))
    rw [D1 b hb, bF_7 hc hb]
    rfl
  · dsimp only
    rw [set_eq, set_eq]
    show upd _ a _ v = nI (if v = a then 16 * gl (P.2 a) else 1000000)
    by_cases c : v = a
    · subst c
      rw [upd_eq, if_pos rfl]
    · rw [upd_ne _ _ c, if_pos hv, if_neg c]
      rfl
  · dsimp only
    rw [set_ne _ _ hq, set_ne _ _ hq]
def cY (P : (Nat → Nat) × (Nat → Nat)) (f : Nat) (v : Nat) : Nat := (if f = 0 then 1000 * gl (P.2 v) else 0) + 1
def sY (P : (Nat → Nat) × (Nat → Nat)) (f a : Nat) : Nat := if f = 0 then 1000 * gl (P.2 a) else 0
theorem X7_findWays {h : HP} {P : (Nat → Nat) × (Nat → Nat)} {a f : Nat} (R : RefOk h.2) (T : PlY h P) (GP : GoodP P) (ha : a < 8) (hf : f ≤ 1) : wp (cv 6 110 (f_X7_findWays 110 (nI a) (nI f))) h fun _ h' => RowD h' 129 (bD P.1 (cY P f) (sY P f a) 1000000000 a 7) ∧ Same (fun a => a = 129) h h' := by
  have ga := gl_le (GP a ha).2
  have hc : ∀ v, 0 < cY P f v := fun v => by unfold cY; omega
  have lc : ∀ v, v < 8 → cY P f v ≤ 7001 := fun v hv => by
    have := gl_le (GP v hv).2
    unfold cY
    split <;> omega
  have ls : sY P f a ≤ 7000 := by
    unfold sY
    split <;> omega
  show wp (f_X7_findWays 110 (nI a) (nI f)) h _
  unfold f_X7_findWays
  refine wp_loop (fun i s h' => s = nI i ∧ (∀ v, v < i → h'.1 129 v = nI (if v = a then sY P f a else 1000000000)) ∧ Same (fun a => a = 129) h h') 8 (nf_lt (by omega)) (fun i hi s h' q k K => ?_) (fun s h' k q => ?_) ⟨rfl, fun v hv => by omega, Same.rfl'⟩
  · obtain ⟨rfl, D1, S⟩ := q
    have R1 := RefOk.same S R
    rw [if_neg (show ¬ (8 : Int32) ≤ nI i from nI_ge (b := 8) hi (by omega)), nI_1]
    refine wp_eq (g110_28 R1) ?_
    have PUT : ∀ y : Int32, y = nI (if i = a then sY P f a else 1000000000) → wp (k (nI (i + 1))) (setR h'.1 129 (upd (h'.1 129) i y), h'.2) fun _ h' => RowD h' 129 (bD P.1 (cY P f) (sY P f a) 1000000000 a 7) ∧ Same (fun a => a = 129) h h' := fun y hy => K _ _ ⟨rfl, fun v hv => by
      dsimp only
      rw [set_eq]
      by_cases c : v = i
      · subst c
        rw [upd_eq, hy]
      · rw [upd_ne _ _ c]
        exact D1 v (by omega), S.1, fun q hq => by
          dsimp only
          rw [set_ne _ _ hq]
          exact S.2 q hq⟩
    by_cases c : i = a
    · rw [if_neg (fun q => q (by rw [c]))]
      by_cases z : f = 0
      · subst z
        rw [if_pos (show nI 0 = 0 from rfl)]
        refine wp_eq (g110_7 R1) (wp_eq (a118 hi) ?_)
        rw [show h'.1 118 i = nI (P.2 i) by rw [S.2 118 (by omega)]; exact T.2 i hi]
        refine wp_call (X7_glanceOf (GP i hi).2) (wp_eq (s129 hi) (PUT _ ?_))
        rw [if_pos c, show (1000 : Int32) = nI 1000 from rfl, pk_mul, c]
        rfl
      · have : f = 1 := by omega
        subst this
        rw [if_neg (show ¬ nI 1 = 0 by decide)]
        refine wp_eq (s129 hi) (PUT _ ?_)
        rw [if_pos c]
        rfl
    · rw [if_pos (fun q => c ((nI_eq (by omega) (by omega)).mp q))]
      refine wp_eq (s129 hi) (PUT _ ?_)
      rw [if_neg c]
      rfl
  · obtain ⟨rfl, D0, S0⟩ := q
    rw [if_pos (show (8 : Int32) ≤ nI 8 by decide)]
    refine wp_loop (fun i s h' => s = nI i ∧ RowD h' 129 (bF P.1 (cY P f) (sY P f a) 1000000000 a i) ∧ Same (fun a => a = 129) h h') 8 (nf_lt (by omega)) (fun i hi s h' q k K => ?_) (fun s h' k q => ?_) ⟨rfl, D0, S0⟩
    · obtain ⟨rfl, D1, S⟩ := q
      have cap := bF_cap (V := P.1) (c := cY P f) (s := sY P f a) (B := 1000000000) (a := a) (by omega) i
      rw [bF_s] at K
      generalize bF P.1 (cY P f) (sY P f a) 1000000000 a i = d at D1 cap K
      rw [if_neg (show ¬ (8 : Int32) ≤ nI i from nI_ge (b := 8) hi (by omega)), nI_1]
      refine wp_loop (fun j s h' => s = nI j ∧ RowD h' 129 (fold (rx P.1 (cY P f)) j d) ∧ Same (fun a => a = 129) h h') 64 (nf_lt (by omega)) (fun j hj s h2 q k2 K2 => ?_) (fun s h2 k2 q => ?_) ⟨rfl, D1, S⟩
      · obtain ⟨rfl, D2, S2⟩ := q
        have R2 := RefOk.same S2 R
        have cap2 := rxF_cap (V := P.1) (c := cY P f) j cap
        have d8 : j / 8 < 8 := by omega
        have m8 : j % 8 < 8 := by omega
        have es : fold (rx P.1 (cY P f)) (j + 1) d = rx P.1 (cY P f) (8 * (j / 8) + j % 8) (fold (rx P.1 (cY P f)) j d) := by
          rw [show 8 * (j / 8) + j % 8 = j by omega]
          rfl
        rw [es] at K2
        generalize fold (rx P.1 (cY P f)) j d = e at D2 cap2 K2
        have g1 := (GP _ d8).1
        have g2 := gl_le (GP _ m8).2
        have c1 := cap2 (j / 8)
        have c2 := cap2 (j % 8)
        have l1 := lc _ m8
        rw [if_neg (show ¬ (64 : Int32) ≤ nI j from nI_ge (b := 64) hj (by omega)), nI_1]
        refine wp_eq (b_div8 (by omega)) (wp_eq (b_rem8 (by omega)) (wp_eq (g110_28 R2) (wp_eq (a129 d8) ?_)))
        rw [D2 _ d8]
        have GO : ∀ s18 : Int32, s18 + 1 = nI (cY P f (j % 8)) → s18 = nI (cY P f (j % 8) - 1) → wp (bnd (gR 6 6 110) fun r20 => bnd (aI r20 (nI (j / 8))) fun t21 => bnd (f_X7_has t21 (nI (j % 8))) fun t22 => if t22 = (0 : Int32) then k2 (nI (j + 1)) else bnd (gR 6 28 110) fun r24 => bnd (aI r24 (nI (j / 8))) fun t25 => if (1000000000 : Int32) ≤ t25 then k2 (nI (j + 1)) else bnd (gR 6 28 110) fun r26 => bnd (aI r26 (nI (j % 8))) fun t27 => if t27 ≤ ((nI (e (j / 8)) + (1 : Int32)) + s18) then k2 (nI (j + 1)) else bnd (gR 6 28 110) fun r28 => bnd (sI r28 (nI (j % 8)) ((nI (e (j / 8)) + (1 : Int32)) + s18)) fun _ => k2 (nI (j + 1))) h2 fun _ h' => RowD h' 129 (bD P.1 (cY P f) (sY P f a) 1000000000 a 7) ∧ Same (fun a => a = 129) h h' := fun s18 _ hs => by
          subst hs
          refine wp_eq (g110_6 R2) (wp_eq (a117 d8) ?_)
          rw [show h2.1 117 (j / 8) = nI (P.1 (j / 8)) by rw [S2.2 117 (by omega)]; exact T.1 _ d8]
          refine wp_call (X7_has (by omega) (by omega)) ?_
          rw [tb_if]
          by_cases t : tb (P.1 (j / 8)) (j % 8) = true
          · rw [if_pos t]
            refine wp_eq (g110_28 R2) (wp_eq (a129 d8) ?_)
            rw [D2 _ d8]
            by_cases z : e (j / 8) = 1000000000
            · rw [if_pos (show (1000000000 : Int32) ≤ nI (e (j / 8)) by rw [z]; decide)]
              rw [rx_inf m8 z cap2] at K2
              exact K2 _ _ ⟨rfl, D2, S2⟩
            · rw [if_neg (show ¬ (1000000000 : Int32) ≤ nI (e (j / 8)) from nI_ge (b := 1000000000) (by omega) (by omega))]
              refine wp_eq (g110_28 R2) (wp_eq (a129 m8) ?_)
              rw [D2 _ m8, nI_1, nI_add, show e (j / 8) + 1 + (cY P f (j % 8) - 1) = e (j / 8) + cY P f (j % 8) by have := hc (j % 8); omega]
              by_cases y : e (j % 8) ≤ e (j / 8) + cY P f (j % 8)
              · rw [if_pos ((nI_leI (by omega) (by omega)).mpr y)]
                refine K2 _ _ ⟨rfl, fun v hv => ?_, S2⟩
                rw [rx_at m8 t]
                by_cases q : v = j % 8
                · rw [if_pos q, Nat.min_eq_left y, q]
                  exact D2 _ m8
                · rw [if_neg q]
                  exact D2 v hv
              · rw [if_neg (fun q => y ((nI_leI (by omega) (by omega)).mp q))]
                refine wp_eq (g110_28 R2) (wp_eq (s129 m8) (K2 _ _ ⟨rfl, fun v hv => ?_, S2.1, fun q hq => ?_⟩))
                · dsimp only
                  rw [set_eq, rx_at m8 t]
                  by_cases q : v = j % 8
                  · rw [if_pos q, Nat.min_eq_right (by omega), q, upd_eq]
                  · rw [if_neg q, upd_ne _ _ q]
                    exact D2 v hv
                · dsimp only
                  rw [set_ne _ _ hq]
                  exact S2.2 q hq
          · rw [if_neg t]
            rw [rx_not m8 t] at K2
            exact K2 _ _ ⟨rfl, D2, S2⟩
        unfold jn
        dsimp only
        by_cases z : f = 0
        · subst z
          rw [if_pos (show nI 0 = 0 from rfl)]
          refine wp_eq (g110_7 R2) (wp_eq (a118 m8) ?_)
          rw [show h2.1 118 (j % 8) = nI (P.2 (j % 8)) by rw [S2.2 118 (by omega)]; exact T.2 _ m8]
          refine wp_call (X7_glanceOf (GP _ m8).2) ?_
          rw [show (1000 : Int32) = nI 1000 from rfl, pk_mul]
          exact GO _ (nI_1 _) rfl
        · have : f = 1 := by omega
          subst this
          rw [if_neg (show ¬ nI 1 = 0 by decide)]
          exact GO _ rfl rfl
      · obtain ⟨rfl, D2, S2⟩ := q
        rw [if_pos (show (64 : Int32) ≤ nI 64 by decide)]
        exact K _ _ ⟨rfl, D2, S2⟩
    · obtain ⟨rfl, D1, S⟩ := q
      rw [if_pos (show (8 : Int32) ≤ nI 8 by decide)]
      refine wp_rt ⟨fun v hv => ?_, S⟩
      rw [D1 v hv, bF_8 hc hv]
