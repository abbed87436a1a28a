/-! THE REFERENCE'S WEEKS IN MIND -/
/-- what of the reference's object lives on stays -/
def LvY (h h' : HP) : Prop := h'.2 = h.2 ∧ (∀ a, a < 110 → h'.1 a = h.1 a) ∧ (h'.1 111 = h.1 111 ∧ h'.1 119 = h.1 119 ∧ h'.1 126 = h.1 126) ∧ (∀ a, 112 ≤ a → a ≤ 116 → ∀ k, k < 7 → h'.1 a k = h.1 a k) ∧ (∀ a, 117 ≤ a → a ≤ 118 → ∀ k, k < 8 → h'.1 a k = h.1 a k) ∧ (h'.1 110 8 = h.1 110 8 ∧ h'.1 110 9 = h.1 110 9 ∧ h'.1 110 14 = h.1 110 14 ∧ h'.1 110 18 = h.1 110 18 ∧ h'.1 110 21 = h.1 110 21 ∧ h'.1 110 25 = h.1 110 25) ∧ ∀ j, j < 55 ∨ 165 ≤ j → h'.1 123 j = h.1 123 j
theorem LvY.rf {h : HP} : LvY h h := ⟨rfl, fun _ _ => rfl, ⟨rfl, rfl, rfl⟩, fun _ _ _ _ _ => rfl, fun _ _ _ _ _ => rfl, ⟨rfl, rfl, rfl, rfl, rfl, rfl⟩, fun _ _ => rfl⟩
theorem LvY.tr {h h1 h2 : HP} (a : LvY h h1) (b : LvY h1 h2) : LvY h h2 := by
  obtain ⟨a1, a2, ⟨a3, a4, a5⟩, a6, a7, ⟨a8, a9, a10, a11, a12, a13⟩, a14⟩ := a
  obtain ⟨b1, b2, ⟨b3, b4, b5⟩, b6, b7, ⟨b8, b9, b10, b11, b12, b13⟩, b14⟩ := b
  exact ⟨b1.trans a1, fun x hx => (b2 x hx).trans (a2 x hx), ⟨b3.trans a3, b4.trans a4, b5.trans a5⟩, fun x h1 h2 k hk => (b6 x h1 h2 k hk).trans (a6 x h1 h2 k hk), fun x h1 h2 k hk => (b7 x h1 h2 k hk).trans (a7 x h1 h2 k hk), ⟨b8.trans a8, b9.trans a9, b10.trans a10, b11.trans a11, b12.trans a12, b13.trans a13⟩, fun j hj => (b14 j hj).trans (a14 j hj)⟩
theorem LvY.mod {h h' : HP} {A : AV} (a : LvY h h') (F : ModIs h A) : ModIs h' A := F.same a.2.2.2.2.2.1.1 a.2.2.2.2.2.1.2.1 (fun j h1 h2 k hk => a.2.2.2.1 j h1 h2 k hk)
theorem LvY.ref {h h' : HP} (a : LvY h h') (R : RefOk h.2) : RefOk h'.2 := by rw [a.1]; exact R
/-- from rows that are no matter -/
theorem LvY.of {h h' : HP} (S : Same (fun a => a = 124 ∨ a = 125 ∨ 127 ≤ a) h h') : LvY h h' := by
  have e : ∀ a, a ≤ 123 ∨ a = 126 → h'.1 a = h.1 a := fun a ha => S.2 a (by omega)
  exact ⟨S.1, fun a ha => e a (by omega), ⟨e _ (by omega), e _ (by omega), e _ (by omega)⟩, fun a h1 h2 k _ => by rw [e a (by omega)], fun a h1 h2 k _ => by rw [e a (by omega)], by rw [e 110 (by omega)]; exact ⟨rfl, rfl, rfl, rfl, rfl, rfl⟩, fun j _ => by rw [e 123 (by omega)]⟩
/-- the beliefs behind 0 .. n weeks, week by week -/
def TrailIs (h : HP) (A : AV) (n : Nat) : Prop := ∀ k, k ≤ n → ∀ p, p < A.2.1 → h.1 125 (7 * k + p) = nI ((wks A k).1 3 p)
set_option maxHeartbeats 1000000 in
theorem X7_findWeeksF {h : HP} {n : Nat} {A : AV} (R : RefOk h.2) (F : ModIs h A) (G : GoodA A) (hn : n ≤ 120) (hw : A.2.2 ≤ 90000) : wp (f_X7_findWeeks 110 (nI n)) h fun _ h' => TrailIs h' A n ∧ LvY h h' ∧ (∀ j, j < 110 → h'.1 123 j = h.1 123 j) ∧ ∀ a, 127 ≤ a → h'.1 a = h.1 a := by
  have hp := G.1.1
  unfold f_X7_findWeeks wp
  rw [c110]
  refine wp_bnd ?_
  unfold f_X7_thinks wp
  rw [c110]
  refine wp_bnd (wp_mono (X7_passesAllK (w := 2) R (by omega)) fun _ h1 q => ?_)
  obtain ⟨K1, O1, S1, Q1⟩ := q
  refine wp_rt ?_
  have R1 : RefOk h1.2 := by rw [S1.1]; exact R
  have F1 : ModIs h1 A := F.same (Q1 8 (by decide) (by decide)) (Q1 9 (by decide) (by decide)) (fun j h1 h2 k hk => by rw [S1.2 j (by omega)])
  refine wp_loop (fun i s h2 => s = nI i ∧ ModIs h2 (wks A i) ∧ Same (fun a => a = 110 ∨ a = 115 ∨ a = 124 ∨ a = 125) h1 h2 ∧ (∀ k, ¬ k = 9 → h2.1 110 k = h1.1 110 k) ∧ ∀ k, k < i → ∀ p, p < A.2.1 → h2.1 125 (7 * k + p) = nI ((wks A k).1 3 p)) (n + 1) (nf_lt (by omega)) (fun i hi s h2 hI k K => ?_) (fun s h2 k hI => ?_) ⟨rfl, F1, Same.rfl', fun _ _ => rfl, fun k hk => absurd hk (Nat.not_lt_zero k)⟩
  · obtain ⟨rfl, F2, S2, Q2, T2⟩ := hI
    rw [if_neg (nI_nlt (by omega) (by omega))]
    have wn := wks_n A i
    refine wp_loop (fun j s h3 => s = nI j ∧ Same (fun a => a = 125) h2 h3 ∧ (∀ k, k < i → ∀ p, p < A.2.1 → h3.1 125 (7 * k + p) = nI ((wks A k).1 3 p)) ∧ ∀ p, p < j → h3.1 125 (7 * i + p) = nI ((wks A i).1 3 p)) A.2.1 (nf_lt (by omega)) (fun j hj s h3 hJ k2 K2 => ?_) (fun s h3 k2 hJ => ?_) ⟨rfl, Same.rfl', T2, fun p hp => absurd hp (Nat.not_lt_zero p)⟩
    · obtain ⟨rfl, S3, T3, U3⟩ := hJ
      have R3 : RefOk h3.2 := by rw [S3.1, S2.1]; exact R1
      have e8 : h3.1 110 8 = nI A.2.1 := by rw [S3.2 110 (by omega), F2.1.1, wn]
      have e4 : h3.1 115 j = nI ((wks A i).1 3 j) := by rw [S3.2 115 (by omega)]; exact F2.2.2.2.2.1 j (by omega)
      unfold wp
      rw [g110_8, e8, if_neg (nI_ge hj (by omega)), g110_23 R3, g110_4 R3, a115 (by omega), e4, n7, pk_mul, nI_add, s125 (by omega)]
      refine K2 _ _ ⟨nI_1 j, ⟨S3.1, fun a ha => ?_⟩, fun k hk p hp => ?_, fun p hp => ?_⟩
      · dsimp only
        rw [set_ne _ _ ha]
        exact S3.2 a ha
      · dsimp only
        rw [set_eq, upd_ne _ _ (by omega)]
        exact T3 k hk p hp
      · dsimp only
        rw [set_eq]
        by_cases c : p = j
        · rw [c, upd_eq]
        · rw [upd_ne _ _ (by omega)]
          exact U3 p (by omega)
    · obtain ⟨rfl, S3, T3, U3⟩ := hJ
      have R3 : RefOk h3.2 := by rw [S3.1, S2.1]; exact R1
      have e8 : h3.1 110 8 = nI A.2.1 := by rw [S3.2 110 (by omega), F2.1.1, wn]
      have F3 : ModIs h3 (wks A i) := F2.same (by rw [S3.2 110 (by omega)]) (by rw [S3.2 110 (by omega)]) (fun j h1 h2 k hk => by rw [S3.2 j (by omega)])
      unfold wp
      rw [g110_8, e8, if_pos (nI_le (Nat.le_refl _) (by omega)), c110]
      refine wp_bnd (wp_mono (X7_goesWeek R3 F3 (wks_good G i (by omega))) fun _ h4 q => ?_)
      obtain ⟨-, F4, S4, Q4⟩ := q
      refine K _ _ ⟨nI_1 i, F4, ⟨by rw [S4.1, S3.1, S2.1], fun a ha => ?_⟩, fun k hk => ?_, fun k hk p hp => ?_⟩
      · rw [S4.2 a (by omega), S3.2 a (by omega), S2.2 a ha]
      · rw [Q4 k hk, S3.2 110 (by omega)]
        exact Q2 k hk
      · rw [S4.2 125 (by omega)]
        by_cases c : k = i
        · rw [c]
          exact U3 p hp
        · exact T3 k (by omega) p hp
  · obtain ⟨rfl, F2, S2, Q2, T2⟩ := hI
    have R2 : RefOk h2.2 := by rw [S2.1]; exact R1
    rw [if_pos (nI_lt (by omega) (by omega))]
    unfold wp
    rw [c110]
    refine wp_bnd ?_
    unfold f_X7_forgets wp
    rw [c110]
    refine wp_bnd (wp_mono (X7_passesAllR (w := 2) R2 (by omega)) fun _ h3 q => ?_)
    obtain ⟨K3, O3, S3, Q3⟩ := q
    refine wp_rt (wp_rt ⟨fun k hk p hp => ?_, ?_, ?_⟩)
    · rw [S3.2 125 (by omega)]
      exact T2 k (by omega) p hp
    · have e123 : h2.1 123 = h1.1 123 := S2.2 123 (by omega)
      rw [e123] at K3
      obtain ⟨a0, a1, a2, a3, a4, a5, a6, a7, a8⟩ := K1
      obtain ⟨b0, b1, b2, b3, b4, b5, b6, b7, b8⟩ := K3
      have q110 : ∀ k, ¬ k = 8 → ¬ k = 9 → ¬ k = 19 → ¬ k = 20 → h3.1 110 k = h.1 110 k := fun k k1 k2 k3 k4 => by rw [Q3 k k1 k2 k3 k4, Q2 k k2, Q1 k k3 k4]
      have row : ∀ a, ¬ a = 110 → ¬ (112 ≤ a ∧ a ≤ 118) → ¬ a = 123 → ¬ a = 124 → ¬ a = 125 → h3.1 a = h.1 a := fun a h1 h2 h3 h4 h5 => by rw [S3.2 a (by omega), S2.2 a (by omega), S1.2 a (by omega)]
      refine ⟨by rw [S3.1, S2.1, S1.1], fun a ha => row a (by omega) (by omega) (by omega) (by omega) (by omega), ⟨row _ (by omega) (by omega) (by omega) (by omega) (by omega), row _ (by omega) (by omega) (by omega) (by omega) (by omega), row _ (by omega) (by omega) (by omega) (by omega) (by omega)⟩, fun a h1 h2 k hk => ?_, fun a h1 h2 k hk => ?_, ⟨b7.symm.trans a7, b8.symm.trans a8, q110 _ (by decide) (by decide) (by decide) (by decide), q110 _ (by decide) (by decide) (by decide) (by decide), q110 _ (by decide) (by decide) (by decide) (by decide), q110 _ (by decide) (by decide) (by decide) (by decide)⟩, fun j hj => ?_⟩
      · rcases (show a = 112 ∨ a = 113 ∨ a = 114 ∨ a = 115 ∨ a = 116 by omega) with rfl | rfl | rfl | rfl | rfl
        · exact (b0 k hk).symm.trans (a0 k hk)
        · exact (b1 k hk).symm.trans (a1 k hk)
        · exact (b2 k hk).symm.trans (a2 k hk)
        · exact (b3 k hk).symm.trans (a3 k hk)
        · exact (b4 k hk).symm.trans (a4 k hk)
      · rcases (show a = 117 ∨ a = 118 by omega) with rfl | rfl
        · exact (b5 k hk).symm.trans (a5 k hk)
        · exact (b6 k hk).symm.trans (a6 k hk)
      · rw [O3, e123]
        exact O1 j (by omega)
    · refine ⟨fun j hj => ?_, fun a ha => ?_⟩
      · rw [O3, S2.2 123 (by omega)]
        exact O1 j (by omega)
      · rw [S3.2 a (by omega), S2.2 a (by omega), S1.2 a (by omega)]
theorem X7_findWeeks {h : HP} {n : Nat} {A : AV} (R : RefOk h.2) (F : ModIs h A) (G : GoodA A) (hn : n ≤ 120) (hw : A.2.2 ≤ 90000) : wp (f_X7_findWeeks 110 (nI n)) h fun _ h' => TrailIs h' A n ∧ LvY h h' :=
  wp_mono (X7_findWeeksF R F G hn hw) fun _ h' q => ⟨q.1, q.2.1⟩
