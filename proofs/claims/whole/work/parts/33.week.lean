/-! A WEEK -/
def ds (x y : Nat) : Nat := (x - y) + (y - x)
theorem mabs_sub {x y : Nat} (hx : x < 2 ^ 30) (hy : y < 2 ^ 30) : mabs (nI x - nI y) = nI (ds x y) := by
  unfold mabs ds
  by_cases c : y ≤ x
  · rw [pk_sub c, if_pos (nI_pos' (by omega))]
    congr 1
    omega
  · have c2 : x ≤ y := by omega
    rw [if_neg (fun q => absurd (pk_sneg hy (by omega)) (Int32.not_lt.mpr q))]
    have e : (0 : Int32) - (nI x - nI y) = nI y - nI x := by
      first | rw [Int32.zero_sub, Int32.neg_sub] | (apply Int32.toBitVec_inj.mp; simp [BitVec.sub_eq_add_neg, BitVec.neg_add, BitVec.add_comm])
    rw [e, pk_sub c2]
    congr 1
    omega
theorem mmax_nI {x y : Nat} (hx : x < 2 ^ 31) (hy : y < 2 ^ 31) : mmax (nI x) (nI y) = nI (max x y) := by
  unfold mmax
  by_cases c : x < y
  · rw [if_pos (nI_lt c hy)]
    congr 1
    omega
  · rw [if_neg (nI_nlt (by omega) hx)]
    congr 1
    omega
theorem mmin_nI {x y : Nat} (hx : x < 2 ^ 31) (hy : y < 2 ^ 31) : mmin (nI x) (nI y) = nI (min x y) := by
  unfold mmin
  by_cases c : y < x
  · rw [if_pos (nI_lt c hx)]
    congr 1
    omega
  · rw [if_neg (nI_nlt (by omega) hy)]
    congr 1
    omega
theorem X7_far {h : HP} {x y : Nat} (hx : x < 2 ^ 30) (hy : y < 2 ^ 30) : f_X7_far (nI x) (nI y) h = some (nI (ds x y), h) := by
  unfold f_X7_far ds
  simp only [ifa, rt]
  by_cases c : y ≤ x
  · rw [if_pos (nI_le c (by omega)), pk_sub c]
    congr 3
    omega
  · rw [if_neg (nI_ge (by omega) (by omega)), pk_sub (by omega)]
    congr 3
    omega
/-- all but these rows stay -/
def Same (G : Nat → Prop) (h h' : HP) : Prop := h'.2 = h.2 ∧ ∀ a, ¬ G a → h'.1 a = h.1 a
theorem Same.rfl' {G : Nat → Prop} {h : HP} : Same G h h := ⟨rfl, fun _ _ => rfl⟩
theorem Same.trans {G G' G2 : Nat → Prop} {h h1 h2 : HP} (a : Same G h h1) (b : Same G' h1 h2) (w1 : ∀ x, G x → G2 x) (w2 : ∀ x, G' x → G2 x) : Same G2 h h2 := ⟨b.1.trans a.1, fun x hx => (b.2 x (fun q => hx (w2 x q))).trans (a.2 x (fun q => hx (w1 x q)))⟩
theorem Same.wide {G G2 : Nat → Prop} {h h1 : HP} (a : Same G h h1) (w : ∀ x, G x → G2 x) : Same G2 h h1 := ⟨a.1, fun x hx => a.2 x (fun q => hx (w x q))⟩
/-- what one believes behind the next week -/
def nb (A : AV) (p : Nat) : Nat := bw A p (A.1 4 p)
theorem bw_le {A : AV} (G : GoodA A) {p set : Nat} (hp : p < 7) (hs : set < 2 ^ A.2.1) : bw A p set ≤ 99 := by
  obtain ⟨g0, g1, g2, g3, g4⟩ := G.2 p hp
  unfold bw
  split
  · exact g3
  · rename_i c
    unfold mn
    have h1 := pop_pos hs c
    have : ∀ q, sm A set (A.1 2 p) q ≤ 99 * pop set q ∨ 7 < q := by
      intro q
      induction q with
      | zero => left; exact Nat.le_refl 0
      | succ q ih =>
        by_cases hq : q + 1 ≤ 7
        · left
          show sm A set (A.1 2 p) q + (if tb set q then wd A q (A.1 2 p) else 0) ≤ 99 * (pop set q + if tb set q then 1 else 0)
          have := wd_le G (p := q) (by omega) g2
          split <;> omega
        · right; omega
    rcases this A.2.1 with h2 | h2
    · exact Nat.div_le_of_le_mul (by omega)
    · have := G.1.1
      omega
theorem nb_le {A : AV} (G : GoodA A) {p : Nat} (hp : p < 7) : nb A p ≤ 99 := bw_le G hp (G.2 p hp).2.2.2.2
/-- a week -/
def wk (A : AV) : AV := (fun r k => if r = 3 ∧ k < A.2.1 then nb A k else A.1 r k, A.2.1, A.2.2 + 1)
def dc (A : AV) : Nat → Nat
  | 0 => 0
  | i + 1 => dc A i + if nb A i = A.1 3 i then 0 else 1
def wc (A : AV) : Nat → Nat
  | 0 => 0
  | i + 1 => max (wc A i) (ds (nb A i) (A.1 3 i))
theorem dc_le (A : AV) (i : Nat) : dc A i ≤ i := by
  induction i with
  | zero => exact Nat.le_refl 0
  | succ i ih => unfold dc; split <;> omega
theorem wc_le {A : AV} (G : GoodA A) {i : Nat} (hi : i ≤ 7) : wc A i ≤ 99 := by
  induction i with
  | zero => exact Nat.zero_le _
  | succ i ih =>
    have := ih (by omega)
    have := nb_le G (p := i) (by omega)
    obtain ⟨-, -, -, g3, -⟩ := G.2 i (by omega)
    unfold wc ds
    omega
theorem wk_good {A : AV} (G : GoodA A) (hw : A.2.2 < 100000) : GoodA (wk A) := by
  refine ⟨⟨G.1.1, hw⟩, fun k hk => ?_⟩
  obtain ⟨g0, g1, g2, g3, g4⟩ := G.2 k hk
  refine ⟨?_, ?_, ?_, ?_, ?_⟩
  · show (if 0 = 3 ∧ k < A.2.1 then nb A k else A.1 0 k) ≤ 5
    rw [if_neg (by omega)]; exact g0
  · show (if 1 = 3 ∧ k < A.2.1 then nb A k else A.1 1 k) ≤ 9
    rw [if_neg (by omega)]; exact g1
  · show (if 2 = 3 ∧ k < A.2.1 then nb A k else A.1 2 k) ≤ 99
    rw [if_neg (by omega)]; exact g2
  · show (if 3 = 3 ∧ k < A.2.1 then nb A k else A.1 3 k) ≤ 99
    split
    · exact nb_le G hk
    · exact g3
  · show (if 4 = 3 ∧ k < A.2.1 then nb A k else A.1 4 k) < 2 ^ A.2.1
    rw [if_neg (by omega)]; exact g4
/-- the same people, but for rows that are no matter -/
theorem FolkIs.same {h h' : HP} {b : Nat} {A : AV} (F : FolkIs h b A) (h0 : h'.1 b 0 = h.1 b 0) (h1 : h'.1 b 1 = h.1 b 1) (hr : ∀ j, 1 ≤ j → j ≤ 5 → ∀ k, k < 7 → h'.1 (b + j) k = h.1 (b + j) k) : FolkIs h' b A := by
  obtain ⟨f, f0, f1, f2, f3, f4⟩ := F
  exact ⟨⟨h0.trans f.1, h1.trans f.2⟩, fun k hk => (hr 1 (by omega) (by omega) k hk).trans (f0 k hk), fun k hk => (hr 2 (by omega) (by omega) k hk).trans (f1 k hk), fun k hk => (hr 3 (by omega) (by omega) k hk).trans (f2 k hk), fun k hk => (hr 4 (by omega) (by omega) k hk).trans (f3 k hk), fun k hk => (hr 5 (by omega) (by omega) k hk).trans (f4 k hk)⟩
theorem X0_passWeek {h : HP} {b : Nat} {A : AV} (H : FB h.2 b) (F : FolkIs h b A) (G : GoodA A) : wp (f_X0_passWeek b) h fun v h' => v = nI (dc A A.2.1) ∧ FolkIs h' b (wk A) ∧ h'.1 b 2 = nI (wc A A.2.1) ∧ Same (fun a => a = b ∨ a = b + 4 ∨ a = b + 6) h h' := by
  have hn := G.1.1
  unfold f_X0_passWeek
  refine wp_loop (fun i s h' => s = nI i ∧ Same (fun a => a = b + 6) h h' ∧ ∀ j, j < i → h'.1 (b + 6) j = nI (nb A j)) A.2.1 (nf_lt (by omega)) (fun i hi s h1 hI k K => ?_) (fun s h1 k hI => ?_) ⟨rfl, Same.rfl', fun j hj => absurd hj (Nat.not_lt_zero j)⟩
  · obtain ⟨rfl, hS, hr⟩ := hI
    have H1 : FB h1.2 b := by rw [hS.1]; exact H
    have F1 : FolkIs h1 b A := F.same (by rw [hS.2 b (by omega)]) (by rw [hS.2 b (by omega)]) (fun j j1 j2 k _ => by rw [hS.2 (b + j) (by omega)])
    have hi7 : i < 7 := by omega
    obtain ⟨g0, g1, g2, g3, g4⟩ := G.2 i hi7
    have hs2 : A.1 4 i < 2 ^ 7 := Nat.lt_of_lt_of_le g4 (Nat.pow_le_pow_right (by decide) hn)
    have hcont : ∀ hp1 : HP, hp1 = (setR h1.1 (b + 6) (upd (h1.1 (b + 6)) i (nI (nb A i))), h1.2) → wp (k (nI i + 1)) hp1 fun v h' => v = nI (dc A A.2.1) ∧ FolkIs h' b (wk A) ∧ h'.1 b 2 = nI (wc A A.2.1) ∧ Same (fun a => a = b ∨ a = b + 4 ∨ a = b + 6) h h' := by
      rintro hp1 rfl
      refine K _ _ ⟨nI_1 i, ⟨hS.1, fun a ha => ?_⟩, fun j hj => ?_⟩
      · show setR _ _ _ a = _
        rw [set_ne _ _ ha]
        exact hS.2 a ha
      · show setR _ _ _ (b + 6) j = _
        rw [set_eq]
        by_cases c : j = i
        · rw [c, upd_eq]
        · rw [upd_ne _ _ c]
          exact hr j (by omega)
    unfold wp
    simp only [bR3 H1, bR4 H1, bR5 H1, bR6 H1, bR7 H1, bR8 H1, bI H1, bC H1, bA1 H1 hi7, bA2 H1 hi7, bA3 H1 hi7, bA4 H1 hi7, bA5 H1 hi7, bA6 H1 hi7, F1.1.1, F1.2.2.2.1 i hi7, F1.2.2.2.2.1 i hi7, F1.2.2.2.2.2 i hi7]
    rw [if_neg (nI_ge hi (by omega))]
    simp only [bR3 H1, bR4 H1, bR5 H1, bR6 H1, bR7 H1, bR8 H1, bI H1, bC H1, bA1 H1 hi7, bA2 H1 hi7, bA3 H1 hi7, bA4 H1 hi7, bA5 H1 hi7, bA6 H1 hi7, F1.1.1, F1.2.2.2.1 i hi7, F1.2.2.2.2.1 i hi7, F1.2.2.2.2.2 i hi7]
    have hnb : nb A i = if A.1 4 i = 0 then A.1 3 i else mn A (A.1 4 i) (A.1 2 i) := rfl
    by_cases c : A.1 4 i = 0
    · rw [if_neg (by rw [c]; decide)]
      simp only [bR3 H1, bR4 H1, bR5 H1, bR6 H1, bR7 H1, bR8 H1, bI H1, bC H1, bA1 H1 hi7, bA2 H1 hi7, bA3 H1 hi7, bA4 H1 hi7, bA5 H1 hi7, bA6 H1 hi7, bS1 H1 hi7, bS2 H1 hi7, bS3 H1 hi7, bS4 H1 hi7, bS5 H1 hi7, bS6 H1 hi7, F1.2.2.2.2.1 i hi7]
      rw [if_pos c] at hnb
      rw [← hnb]
      exact hcont _ rfl
    · rw [if_pos (nI_ne0 (by omega) (by omega))]
      simp only [bR3 H1, bR4 H1, bR5 H1, bR6 H1, bR7 H1, bR8 H1, bI H1, bC H1, bA1 H1 hi7, bA2 H1 hi7, bA3 H1 hi7, bA4 H1 hi7, bA5 H1 hi7, bA6 H1 hi7, bS1 H1 hi7, bS2 H1 hi7, bS3 H1 hi7, bS4 H1 hi7, bS5 H1 hi7, bS6 H1 hi7, F1.2.2.2.1 i hi7, F1.2.2.2.2.1 i hi7, F1.2.2.2.2.2 i hi7]
      rw [e_bnd (X0_mean H1 F1 G (by omega) g2), if_neg (pop_pos g4 c)]
      simp only [bS1 H1 hi7, bS2 H1 hi7, bS3 H1 hi7, bS4 H1 hi7, bS5 H1 hi7, bS6 H1 hi7]
      rw [if_neg c] at hnb
      rw [← hnb]
      exact hcont _ rfl
  · obtain ⟨rfl, hS, hr⟩ := hI
    have H1 : FB h1.2 b := by rw [hS.1]; exact H
    have F1 : FolkIs h1 b A := F.same (by rw [hS.2 b (by omega)]) (by rw [hS.2 b (by omega)]) (fun j j1 j2 k _ => by rw [hS.2 (b + j) (by omega)])
    unfold wp
    simp only [bI H1, F1.1.1]
    rw [if_pos (nI_le (Nat.le_refl _) (by omega))]
    simp only [bP H1]
    refine wp_loop (fun i s h' => s = (nI (dc A i), nI i) ∧ Same (fun a => a = b ∨ a = b + 4 ∨ a = b + 6) h h' ∧ (h'.1 b 0 = h.1 b 0 ∧ h'.1 b 1 = h.1 b 1) ∧ h'.1 b 2 = nI (wc A i) ∧ (∀ j, j < A.2.1 → h'.1 (b + 6) j = nI (nb A j)) ∧ ∀ j, j < 7 → h'.1 (b + 4) j = nI (if j < i then nb A j else A.1 3 j)) A.2.1 (nf_lt (by omega)) (fun i hi s h2 hI k K => ?_) (fun s h2 k hI => ?_) ?_
    · obtain ⟨rfl, hS2, hb, hw, hnx, hbl⟩ := hI
      have H2 : FB h2.2 b := by rw [hS2.1]; exact H
      have hi7 : i < 7 := by omega
      have hnb := nb_le G hi7
      obtain ⟨g0, g1, g2, g3, g4⟩ := G.2 i hi7
      have e0 : h2.1 b 0 = nI A.2.1 := hb.1.trans F.1.1
      have e4 : h2.1 (b + 4) i = nI (A.1 3 i) := by rw [hbl i hi7, if_neg (Nat.lt_irrefl i)]
      have e6 := hnx i hi
      have hwc := wc_le G (i := i) (by omega)
      have hds : ds (nb A i) (A.1 3 i) ≤ 99 := by unfold ds; omega
      unfold wp
      simp only [bR3 H2, bR4 H2, bR5 H2, bR6 H2, bR7 H2, bR8 H2, bI H2, bC H2, bA1 H2 hi7, bA2 H2 hi7, bA3 H2 hi7, bA4 H2 hi7, bA5 H2 hi7, bA6 H2 hi7, e0, e4, e6]
      rw [if_neg (nI_ge hi (by omega))]
      simp only [bR3 H2, bR4 H2, bR5 H2, bR6 H2, bR7 H2, bR8 H2, bI H2, bC H2, bA1 H2 hi7, bA2 H2 hi7, bA3 H2 hi7, bA4 H2 hi7, bA5 H2 hi7, bA6 H2 hi7, e0, e4, e6, hw, bP H2, mabs_sub (show nb A i < 2 ^ 30 by omega) (show A.1 3 i < 2 ^ 30 by omega), mmax_nI (show wc A i < 2 ^ 31 by omega) (show ds (nb A i) (A.1 3 i) < 2 ^ 31 by omega), jn]
      have H3 : FB ((setR h2.1 b (upd (h2.1 b) 2 (nI (max (wc A i) (ds (nb A i) (A.1 3 i))))), h2.2) : HP).2 b := H2
      have key : ∀ d : Nat, d = (if nb A i = A.1 3 i then 0 else 1) → wp (k (nI (dc A i) + nI d, nI i + 1)) (setR (setR h2.1 b (upd (h2.1 b) 2 (nI (max (wc A i) (ds (nb A i) (A.1 3 i)))))) (b + 4) (upd (h2.1 (b + 4)) i (nI (nb A i))), h2.2) fun v h' => v = nI (dc A A.2.1) ∧ FolkIs h' b (wk A) ∧ h'.1 b 2 = nI (wc A A.2.1) ∧ Same (fun a => a = b ∨ a = b + 4 ∨ a = b + 6) h h' := by
        intro d hd
        refine K _ _ ⟨by rw [nI_add, nI_1, hd]; rfl, ⟨hS2.1, fun a ha => ?_⟩, ⟨?_, ?_⟩, ?_, fun j hj => ?_, fun j hj => ?_⟩
        · show setR (setR _ _ _) _ _ a = _
          rw [set_ne _ _ (by omega), set_ne _ _ (by omega)]
          exact hS2.2 a ha
        · show setR (setR _ _ _) _ _ b 0 = _
          rw [set_ne _ _ (by omega), set_eq, upd_ne _ _ (by decide)]
          exact hb.1
        · show setR (setR _ _ _) _ _ b 1 = _
          rw [set_ne _ _ (by omega), set_eq, upd_ne _ _ (by decide)]
          exact hb.2
        · show setR (setR _ _ _) _ _ b 2 = _
          rw [set_ne _ _ (by omega), set_eq, upd_eq]
          rfl
        · show setR (setR _ _ _) _ _ (b + 6) j = _
          rw [set_ne _ _ (by omega), set_ne _ _ (by omega)]
          exact hnx j hj
        · show setR (setR _ _ _) _ _ (b + 4) j = _
          rw [set_eq]
          by_cases c : j = i
          · rw [c, upd_eq, if_pos (Nat.lt_succ_self i)]
          · rw [upd_ne _ _ c, hbl j hj]
            congr 1
            by_cases c2 : j < i
            · rw [if_pos c2, if_pos (by omega)]
            · rw [if_neg c2, if_neg (by omega)]
      by_cases c : nb A i = A.1 3 i
      · have c0 : ds (nb A i) (A.1 3 i) = 0 := by unfold ds; omega
        rw [if_neg (by rw [c0]; decide)]
        simp only [bR3 H3, bR4 H3, bR5 H3, bR6 H3, bR7 H3, bR8 H3, bI H3, bC H3, bA1 H3 hi7, bA2 H3 hi7, bA3 H3 hi7, bA4 H3 hi7, bA5 H3 hi7, bA6 H3 hi7, bS1 H3 hi7, bS2 H3 hi7, bS3 H3 hi7, bS4 H3 hi7, bS5 H3 hi7, bS6 H3 hi7]
        rw [set_ne _ _ (show b + 6 ≠ b by omega), set_ne _ _ (show b + 4 ≠ b by omega), e6]
        exact key 0 (by rw [if_pos c])
      · have c0 : ¬ ds (nb A i) (A.1 3 i) = 0 := by unfold ds; omega
        rw [if_pos (nI_ne0 (by omega) (by omega))]
        simp only [bR3 H3, bR4 H3, bR5 H3, bR6 H3, bR7 H3, bR8 H3, bI H3, bC H3, bA1 H3 hi7, bA2 H3 hi7, bA3 H3 hi7, bA4 H3 hi7, bA5 H3 hi7, bA6 H3 hi7, bS1 H3 hi7, bS2 H3 hi7, bS3 H3 hi7, bS4 H3 hi7, bS5 H3 hi7, bS6 H3 hi7]
        rw [set_ne _ _ (show b + 6 ≠ b by omega), set_ne _ _ (show b + 4 ≠ b by omega), e6]
        exact key 1 (by rw [if_neg c])
    · obtain ⟨rfl, hS2, hb, hw, hnx, hbl⟩ := hI
      have H2 : FB h2.2 b := by rw [hS2.1]; exact H
      have e0 : h2.1 b 0 = nI A.2.1 := hb.1.trans F.1.1
      have e1 : h2.1 b 1 = nI A.2.2 := hb.2.trans F.1.2
      unfold wp
      simp only [bI H2, e0]
      rw [if_pos (nI_le (Nat.le_refl _) (by omega))]
      simp only [bI H2, e1, bP H2]
      refine ⟨_, _, rfl, rfl, ⟨⟨?_, ?_⟩, fun k hk => ?_, fun k hk => ?_, fun k hk => ?_, fun k hk => ?_, fun k hk => ?_⟩, ?_, ⟨hS2.1, fun a ha => ?_⟩⟩
      · show setR _ _ _ b 0 = _
        rw [set_eq, upd_ne _ _ (by decide)]
        exact e0
      · show setR _ _ _ b 1 = _
        rw [set_eq, upd_eq]
        exact nI_1 _
      · show setR _ _ _ (b + 1) k = nI (if 0 = 3 ∧ k < A.2.1 then nb A k else A.1 0 k)
        rw [set_ne _ _ (by omega), hS2.2 _ (by omega), if_neg (by omega)]
        exact F.2.1 k hk
      · show setR _ _ _ (b + 2) k = nI (if 1 = 3 ∧ k < A.2.1 then nb A k else A.1 1 k)
        rw [set_ne _ _ (by omega), hS2.2 _ (by omega), if_neg (by omega)]
        exact F.2.2.1 k hk
      · show setR _ _ _ (b + 3) k = nI (if 2 = 3 ∧ k < A.2.1 then nb A k else A.1 2 k)
        rw [set_ne _ _ (by omega), hS2.2 _ (by omega), if_neg (by omega)]
        exact F.2.2.2.1 k hk
      · show setR _ _ _ (b + 4) k = nI (if 3 = 3 ∧ k < A.2.1 then nb A k else A.1 3 k)
        rw [set_ne _ _ (by omega), hbl k hk]
        simp
      · show setR _ _ _ (b + 5) k = nI (if 4 = 3 ∧ k < A.2.1 then nb A k else A.1 4 k)
        rw [set_ne _ _ (by omega), hS2.2 _ (by omega), if_neg (by omega)]
        exact F.2.2.2.2.2 k hk
      · show setR _ _ _ b 2 = _
        rw [set_eq, upd_ne _ _ (by decide)]
        exact hw
      · show setR _ _ _ a = _
        rw [set_ne _ _ (by omega)]
        exact hS2.2 a ha
    · refine ⟨rfl, ⟨hS.1, fun a ha => ?_⟩, ⟨?_, ?_⟩, ?_, fun j hj => ?_, fun j hj => ?_⟩
      · show setR _ _ _ a = _
        rw [set_ne _ _ (by omega)]
        exact hS.2 a (by omega)
      · show setR _ _ _ b 0 = _
        rw [set_eq, upd_ne _ _ (by decide), hS.2 b (by omega)]
      · show setR _ _ _ b 1 = _
        rw [set_eq, upd_ne _ _ (by decide), hS.2 b (by omega)]
      · show setR _ _ _ b 2 = _
        rw [set_eq, upd_eq]
        rfl
      · show setR _ _ _ (b + 6) j = _
        rw [set_ne _ _ (by omega)]
        exact hr j hj
      · show setR _ _ _ (b + 4) j = _
        rw [set_ne _ _ (by omega)]
        exact F1.2.2.2.2.1 j hj
theorem ModIs.same {h h' : HP} {A : AV} (F : ModIs h A) (h0 : h'.1 110 8 = h.1 110 8) (h1 : h'.1 110 9 = h.1 110 9) (hr : ∀ j, 112 ≤ j → j ≤ 116 → ∀ k, k < 7 → h'.1 j k = h.1 j k) : ModIs h' A := by
  obtain ⟨f, f0, f1, f2, f3, f4⟩ := F
  exact ⟨⟨h0.trans f.1, h1.trans f.2⟩, fun k hk => (hr 112 (by omega) (by omega) k hk).trans (f0 k hk), fun k hk => (hr 113 (by omega) (by omega) k hk).trans (f1 k hk), fun k hk => (hr 114 (by omega) (by omega) k hk).trans (f2 k hk), fun k hk => (hr 115 (by omega) (by omega) k hk).trans (f3 k hk), fun k hk => (hr 116 (by omega) (by omega) k hk).trans (f4 k hk)⟩
theorem X7_goesWeek {h : HP} {A : AV} (R : RefOk h.2) (F : ModIs h A) (G : GoodA A) : wp (f_X7_goesWeek 110) h fun v h' => v = nI (dc A A.2.1) ∧ ModIs h' (wk A) ∧ Same (fun a => a = 110 ∨ a = 115 ∨ a = 124) h h' ∧ ∀ k, ¬ k = 9 → h'.1 110 k = h.1 110 k := by
  have hn := G.1.1
  unfold f_X7_goesWeek
  refine wp_loop (fun i s h' => s = nI i ∧ Same (fun a => a = 124) h h' ∧ ∀ j, j < i → h'.1 124 j = nI (nb A j)) A.2.1 (nf_lt (by omega)) (fun i hi s h1 hI k K => ?_) (fun s h1 k hI => ?_) ⟨rfl, Same.rfl', fun j hj => absurd hj (Nat.not_lt_zero j)⟩
  · obtain ⟨rfl, hS, hr⟩ := hI
    have R1 : RefOk h1.2 := by rw [hS.1]; exact R
    have F1 : ModIs h1 A := F.same (by rw [hS.2 110 (by omega)]) (by rw [hS.2 110 (by omega)]) (fun j j1 j2 k _ => by rw [hS.2 j (by omega)])
    have hi7 : i < 7 := by omega
    obtain ⟨g0, g1, g2, g3, g4⟩ := G.2 i hi7
    unfold wp
    simp only [g110_8, F1.1.1]
    rw [if_neg (nI_ge hi (by omega))]
    simp only [g110_22 R1, g110_5 R1, a116 hi7, F1.2.2.2.2.2 i hi7, c110]
    rw [e_bnd (X7_mean R1 F1 G hi7 g4)]
    simp only [s124 hi7]
    refine K _ _ ⟨nI_1 i, ⟨hS.1, fun a ha => ?_⟩, fun j hj => ?_⟩
    · dsimp only
      rw [set_ne _ _ ha]
      exact hS.2 a ha
    · dsimp only
      rw [set_eq]
      by_cases c : j = i
      · rw [c, upd_eq]
        rfl
      · rw [upd_ne _ _ c]
        exact hr j (by omega)
  · obtain ⟨rfl, hS, hr⟩ := hI
    have F1 : ModIs h1 A := F.same (by rw [hS.2 110 (by omega)]) (by rw [hS.2 110 (by omega)]) (fun j j1 j2 k _ => by rw [hS.2 j (by omega)])
    unfold wp
    simp only [g110_8, F1.1.1]
    rw [if_pos (nI_le (Nat.le_refl _) (by omega))]
    refine wp_loop (fun i s h' => s = (nI (dc A i), nI i) ∧ Same (fun a => a = 115 ∨ a = 124) h h' ∧ (∀ j, j < A.2.1 → h'.1 124 j = nI (nb A j)) ∧ ∀ j, j < 7 → h'.1 115 j = nI (if j < i then nb A j else A.1 3 j)) A.2.1 (nf_lt (by omega)) (fun i hi s h2 hI k K => ?_) (fun s h2 k hI => ?_) ?_
    · obtain ⟨rfl, hS2, hnx, hbl⟩ := hI
      have R2 : RefOk h2.2 := by rw [hS2.1]; exact R
      have hi7 : i < 7 := by omega
      have hnb := nb_le G hi7
      obtain ⟨g0, g1, g2, g3, g4⟩ := G.2 i hi7
      have e0 : h2.1 110 8 = nI A.2.1 := by rw [hS2.2 110 (by omega)]; exact F.1.1
      have e4 : h2.1 115 i = nI (A.1 3 i) := by rw [hbl i hi7, if_neg (Nat.lt_irrefl i)]
      have e6 := hnx i hi
      unfold wp
      simp only [g110_8, e0]
      rw [if_neg (nI_ge hi (by omega))]
      simp only [g110_22 R2, g110_4 R2, a124 hi7, a115 hi7, e4, e6, jn]
      have key : ∀ d : Nat, d = (if nb A i = A.1 3 i then 0 else 1) → wp (k (nI (dc A i) + nI d, nI i + 1)) (setR h2.1 115 (upd (h2.1 115) i (nI (nb A i))), h2.2) fun v h' => v = nI (dc A A.2.1) ∧ ModIs h' (wk A) ∧ Same (fun a => a = 110 ∨ a = 115 ∨ a = 124) h h' ∧ ∀ k, ¬ k = 9 → h'.1 110 k = h.1 110 k := by
        intro d hd
        refine K _ _ ⟨by rw [nI_add, nI_1, hd]; rfl, ⟨hS2.1, fun a ha => ?_⟩, fun j hj => ?_, fun j hj => ?_⟩
        · dsimp only
          rw [set_ne _ _ (by omega)]
          exact hS2.2 a ha
        · dsimp only
          rw [set_ne _ _ (by omega)]
          exact hnx j hj
        · dsimp only
          rw [set_eq]
          by_cases c : j = i
          · rw [c, upd_eq, if_pos (Nat.lt_succ_self i)]
          · rw [upd_ne _ _ c, hbl j hj]
            congr 1
            by_cases c2 : j < i
            · rw [if_pos c2, if_pos (by omega)]
            · rw [if_neg c2, if_neg (by omega)]
      by_cases c : nb A i = A.1 3 i
      · rw [if_neg (by rw [c]; exact fun q => q rfl)]
        simp only [g110_22 R2, g110_4 R2, a124 hi7, e6, s115 hi7]
        exact key 0 (by rw [if_pos c])
      · rw [if_pos (fun q => c ((nI_eq (by omega) (by omega)).mp q))]
        simp only [g110_22 R2, g110_4 R2, a124 hi7, e6, s115 hi7]
        exact key 1 (by rw [if_neg c])
    · obtain ⟨rfl, hS2, hnx, hbl⟩ := hI
      have e0 : h2.1 110 8 = nI A.2.1 := by rw [hS2.2 110 (by omega)]; exact F.1.1
      have e1 : h2.1 110 9 = nI A.2.2 := by rw [hS2.2 110 (by omega)]; exact F.1.2
      unfold wp
      simp only [g110_8, e0]
      rw [if_pos (nI_le (Nat.le_refl _) (by omega))]
      simp only [g110_9, e1, p110_9]
      refine ⟨_, _, rfl, rfl, ⟨⟨?_, ?_⟩, fun k hk => ?_, fun k hk => ?_, fun k hk => ?_, fun k hk => ?_, fun k hk => ?_⟩, ⟨hS2.1, fun a ha => ?_⟩, fun k hk => ?_⟩
      · dsimp only
        rw [set_eq, upd_ne _ _ (by decide)]
        exact e0
      · dsimp only
        rw [set_eq, upd_eq]
        exact nI_1 _
      · show _ = nI (if 0 = 3 ∧ k < A.2.1 then nb A k else A.1 0 k)
        dsimp only
        rw [set_ne _ _ (by omega), hS2.2 _ (by omega), if_neg (by omega)]
        exact F.2.1 k hk
      · show _ = nI (if 1 = 3 ∧ k < A.2.1 then nb A k else A.1 1 k)
        dsimp only
        rw [set_ne _ _ (by omega), hS2.2 _ (by omega), if_neg (by omega)]
        exact F.2.2.1 k hk
      · show _ = nI (if 2 = 3 ∧ k < A.2.1 then nb A k else A.1 2 k)
        dsimp only
        rw [set_ne _ _ (by omega), hS2.2 _ (by omega), if_neg (by omega)]
        exact F.2.2.2.1 k hk
      · show _ = nI (if 3 = 3 ∧ k < A.2.1 then nb A k else A.1 3 k)
        dsimp only
        rw [set_ne _ _ (by omega), hbl k hk]
        simp
      · show _ = nI (if 4 = 3 ∧ k < A.2.1 then nb A k else A.1 4 k)
        dsimp only
        rw [set_ne _ _ (by omega), hS2.2 _ (by omega), if_neg (by omega)]
        exact F.2.2.2.2.2 k hk
      · dsimp only
        rw [set_ne _ _ (by omega)]
        exact hS2.2 a (by omega)
      · dsimp only
        rw [set_eq, upd_ne _ _ hk, hS2.2 110 (by omega)]
    · refine ⟨rfl, hS.wide (fun a ha => Or.inr ha), hr, fun j hj => ?_⟩
      exact F1.2.2.2.2.1 j hj
