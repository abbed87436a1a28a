/-! COMES, COUNT -/
def adA (A : AV) (k f l : Nat) : AV := (fun r j => if j = A.2.1 then (if r = 0 then k else if r = 1 then f else if r = 2 then l else if r = 3 then l else if r = 4 then 0 else A.1 r j) else A.1 r j, A.2.1 + 1, A.2.2)
theorem adA_good {A : AV} {k f l : Nat} (G : GA A) (hn : A.2.1 < 7) (hk : k ≤ 5) (hf : f ≤ 9) (hl : l ≤ 99) : GA (adA A k f l) := by
  refine ⟨⟨⟨by show A.2.1 + 1 ≤ 7; omega, G.1.1.2⟩, fun j hj => ?_⟩, G.2⟩
  obtain ⟨g0, g1, g2, g3, g4⟩ := G.1.2 j hj
  have h2 : 2 ^ (A.2.1 + 1) = 2 ^ A.2.1 * 2 := Nat.pow_succ ..
  unfold adA
  dsimp only
  by_cases c : j = A.2.1
  · simp only [c, if_true]
    exact ⟨hk, hf, hl, hl, Nat.two_pow_pos _⟩
  · simp only [c, if_false]
    exact ⟨g0, g1, g2, g3, by omega⟩
theorem ad_row {A : AV} {k f l r v : Nat} {g : Nat → Int32} (hr : ∀ j, j < 7 → g j = nI (A.1 r j)) (hn : A.2.1 < 7) (hv : (adA A k f l).1 r A.2.1 = v) : ∀ j, j < 7 → upd g A.2.1 (nI v) j = nI ((adA A k f l).1 r j) := by
  intro j hj
  by_cases c : j = A.2.1
  · rw [c, upd_eq, hv]
  · rw [upd_ne _ _ c, hr j hj]
    unfold adA
    dsimp only
    rw [if_neg c]
theorem ad_v (A : AV) (k f l r : Nat) : (adA A k f l).1 r A.2.1 = (if r = 0 then k else if r = 1 then f else if r = 2 then l else if r = 3 then l else if r = 4 then 0 else A.1 r A.2.1) := if_pos rfl
set_option maxHeartbeats 1000000 in
theorem X0_add {h : HP} {b k f l : Nat} {A : AV} (B : FB h.2 b) (F : FolkIs h b A) (hn : A.2.1 < 7) : wp (cv 0 b (f_X0_add b (nI k) (nI f) (nI l))) h fun v h' => v = nI A.2.1 ∧ FolkIs h' b (adA A k f l) ∧ Same (inF b) h h' := by
  obtain ⟨⟨f0, f1⟩, r1, r2, r3, r4, r5⟩ := F
  refine wp_eq (e_cv B.1.1) ?_
  unfold f_X0_add
  refine wp_eq (bI B) ?_
  rw [f0, if_pos (show nI A.2.1 < (7 : Int32) from (nI_ltI (b := 7) (by omega) (by omega)).mpr hn)]
  refine wp_eq (bR3 B) (wp_eq (bI B) ?_)
  rw [f0]
  refine wp_eq (bS1 B hn) ?_
  generalize e1 : (setR h.1 (b + 1) (upd (h.1 (b + 1)) A.2.1 (nI k)), h.2) = h1
  have n1 : ∀ a, ¬ a = b + 1 → h1.1 a = h.1 a := fun a ha => by rw [← e1]; dsimp only; rw [set_ne _ _ ha]
  have q1 : h1.2 = h.2 := by rw [← e1]
  have w1 : h1.1 (b + 1) = upd (h.1 (b + 1)) A.2.1 (nI k) := by rw [← e1]; dsimp only; rw [set_eq]
  have B1 : FB h1.2 b := by rw [q1]; exact B
  refine wp_eq (bR4 B1) (wp_eq (bI B1) ?_)
  rw [n1 b (by omega), f0]
  refine wp_eq (bS2 B1 hn) ?_
  generalize e2 : (setR h1.1 (b + 2) (upd (h1.1 (b + 2)) A.2.1 (nI f)), h1.2) = h2
  have n2 : ∀ a, ¬ a = b + 2 → h2.1 a = h1.1 a := fun a ha => by rw [← e2]; dsimp only; rw [set_ne _ _ ha]
  have q2 : h2.2 = h1.2 := by rw [← e2]
  have w2 : h2.1 (b + 2) = upd (h1.1 (b + 2)) A.2.1 (nI f) := by rw [← e2]; dsimp only; rw [set_eq]
  have B2 : FB h2.2 b := by rw [q2]; exact B1
  refine wp_eq (bR5 B2) (wp_eq (bI B2) ?_)
  rw [n2 b (by omega), n1 b (by omega), f0]
  refine wp_eq (bS3 B2 hn) ?_
  generalize e3 : (setR h2.1 (b + 3) (upd (h2.1 (b + 3)) A.2.1 (nI l)), h2.2) = h3
  have n3 : ∀ a, ¬ a = b + 3 → h3.1 a = h2.1 a := fun a ha => by rw [← e3]; dsimp only; rw [set_ne _ _ ha]
  have q3 : h3.2 = h2.2 := by rw [← e3]
  have w3 : h3.1 (b + 3) = upd (h2.1 (b + 3)) A.2.1 (nI l) := by rw [← e3]; dsimp only; rw [set_eq]
  have B3 : FB h3.2 b := by rw [q3]; exact B2
  refine wp_eq (bR6 B3) (wp_eq (bI B3) ?_)
  rw [n3 b (by omega), n2 b (by omega), n1 b (by omega), f0]
  refine wp_eq (bS4 B3 hn) ?_
  generalize e4 : (setR h3.1 (b + 4) (upd (h3.1 (b + 4)) A.2.1 (nI l)), h3.2) = h4
  have n4 : ∀ a, ¬ a = b + 4 → h4.1 a = h3.1 a := fun a ha => by rw [← e4]; dsimp only; rw [set_ne _ _ ha]
  have q4 : h4.2 = h3.2 := by rw [← e4]
  have w4 : h4.1 (b + 4) = upd (h3.1 (b + 4)) A.2.1 (nI l) := by rw [← e4]; dsimp only; rw [set_eq]
  have B4 : FB h4.2 b := by rw [q4]; exact B3
  refine wp_eq (bR7 B4) (wp_eq (bI B4) ?_)
  rw [n4 b (by omega), n3 b (by omega), n2 b (by omega), n1 b (by omega), f0]
  refine wp_eq (bS5 B4 hn) ?_
  generalize e5 : (setR h4.1 (b + 5) (upd (h4.1 (b + 5)) A.2.1 0), h4.2) = h5
  have n5 : ∀ a, ¬ a = b + 5 → h5.1 a = h4.1 a := fun a ha => by rw [← e5]; dsimp only; rw [set_ne _ _ ha]
  have q5 : h5.2 = h4.2 := by rw [← e5]
  have w5 : h5.1 (b + 5) = upd (h4.1 (b + 5)) A.2.1 0 := by rw [← e5]; dsimp only; rw [set_eq]
  have B5 : FB h5.2 b := by rw [q5]; exact B4
  have z0 : ∀ a, ¬ (b + 1 ≤ a ∧ a ≤ b + 5) → h5.1 a = h.1 a := fun a ha => by rw [n5 a (by omega), n4 a (by omega), n3 a (by omega), n2 a (by omega), n1 a (by omega)]
  refine wp_eq (bI B5) ?_
  rw [z0 b (by omega), f0, nI_1]
  refine wp_eq (bP B5) ?_
  generalize e6 : (setR h5.1 b (upd (h5.1 b) 0 (nI (A.2.1 + 1))), h5.2) = h6
  have n6 : ∀ a, ¬ a = b → h6.1 a = h5.1 a := fun a ha => by rw [← e6]; dsimp only; rw [set_ne _ _ ha]
  have q6 : h6.2 = h5.2 := by rw [← e6]
  have w6 : h6.1 b = upd (h5.1 b) 0 (nI (A.2.1 + 1)) := by rw [← e6]; dsimp only; rw [set_eq]
  have B6 : FB h6.2 b := by rw [q6]; exact B5
  refine wp_eq (bI B6) (wp_rt ⟨?_, ⟨⟨?_, ?_⟩, ?_, ?_, ?_, ?_, ?_⟩, by rw [q6, q5, q4, q3, q2, q1], fun a ha => ?_⟩)
  · rw [w6, upd_eq, show (1 : Int32) = nI 1 from rfl, pk_sub (by omega)]
    rfl
  · rw [w6, upd_eq]
    rfl
  · rw [w6, upd_ne _ _ (by decide), z0 b (by omega)]
    exact f1
  · rw [n6 _ (by omega), n5 _ (by omega), n4 _ (by omega), n3 _ (by omega), n2 _ (by omega), w1]
    exact ad_row r1 hn (ad_v A k f l 0)
  · rw [n6 _ (by omega), n5 _ (by omega), n4 _ (by omega), n3 _ (by omega), w2, n1 _ (by omega)]
    exact ad_row r2 hn (ad_v A k f l 1)
  · rw [n6 _ (by omega), n5 _ (by omega), n4 _ (by omega), w3, n2 _ (by omega), n1 _ (by omega)]
    exact ad_row r3 hn (ad_v A k f l 2)
  · rw [n6 _ (by omega), n5 _ (by omega), w4, n3 _ (by omega), n2 _ (by omega), n1 _ (by omega)]
    exact ad_row r4 hn (ad_v A k f l 3)
  · rw [n6 _ (by omega), w5, n4 _ (by omega), n3 _ (by omega), n2 _ (by omega), n1 _ (by omega)]
    exact ad_row (v := 0) r5 hn (ad_v A k f l 4)
  · unfold inF at ha
    rw [n6 a (by omega), z0 a (by omega)]
set_option maxHeartbeats 1000000 in
theorem X7_adds {h : HP} {k f l : Nat} {A : AV} (R : RefOk h.2) (F : ModIs h A) (hn : A.2.1 < 7) : wp (cv 6 110 (f_X7_adds 110 (nI k) (nI f) (nI l))) h fun _ h' => ModIs h' (adA A k f l) ∧ Same (fun a => a = 110 ∨ (112 ≤ a ∧ a ≤ 116)) h h' ∧ ∀ j, ¬ j = 8 → h'.1 110 j = h.1 110 j := by
  obtain ⟨⟨f0, f1⟩, r1, r2, r3, r4, r5⟩ := F
  show wp (f_X7_adds 110 (nI k) (nI f) (nI l)) h _
  unfold f_X7_adds
  refine wp_eq (g110_1 R) (wp_eq g110_8 ?_)
  rw [f0]
  refine wp_eq (s112 hn) ?_
  generalize e1 : (setR h.1 112 (upd (h.1 112) A.2.1 (nI k)), h.2) = h1
  have n1 : ∀ a, ¬ a = 112 → h1.1 a = h.1 a := fun a ha => by rw [← e1]; dsimp only; rw [set_ne _ _ ha]
  have q1 : h1.2 = h.2 := by rw [← e1]
  have w1 : h1.1 112 = upd (h.1 112) A.2.1 (nI k) := by rw [← e1]; dsimp only; rw [set_eq]
  have B1 : RefOk h1.2 := by rw [q1]; exact R
  refine wp_eq (g110_2 B1) (wp_eq g110_8 ?_)
  rw [n1 110 (by omega), f0]
  refine wp_eq (s113 hn) ?_
  generalize e2 : (setR h1.1 113 (upd (h1.1 113) A.2.1 (nI f)), h1.2) = h2
  have n2 : ∀ a, ¬ a = 113 → h2.1 a = h1.1 a := fun a ha => by rw [← e2]; dsimp only; rw [set_ne _ _ ha]
  have q2 : h2.2 = h1.2 := by rw [← e2]
  have w2 : h2.1 113 = upd (h1.1 113) A.2.1 (nI f) := by rw [← e2]; dsimp only; rw [set_eq]
  have B2 : RefOk h2.2 := by rw [q2]; exact B1
  refine wp_eq (g110_3 B2) (wp_eq g110_8 ?_)
  rw [n2 110 (by omega), n1 110 (by omega), f0]
  refine wp_eq (s114 hn) ?_
  generalize e3 : (setR h2.1 114 (upd (h2.1 114) A.2.1 (nI l)), h2.2) = h3
  have n3 : ∀ a, ¬ a = 114 → h3.1 a = h2.1 a := fun a ha => by rw [← e3]; dsimp only; rw [set_ne _ _ ha]
  have q3 : h3.2 = h2.2 := by rw [← e3]
  have w3 : h3.1 114 = upd (h2.1 114) A.2.1 (nI l) := by rw [← e3]; dsimp only; rw [set_eq]
  have B3 : RefOk h3.2 := by rw [q3]; exact B2
  refine wp_eq (g110_4 B3) (wp_eq g110_8 ?_)
  rw [n3 110 (by omega), n2 110 (by omega), n1 110 (by omega), f0]
  refine wp_eq (s115 hn) ?_
  generalize e4 : (setR h3.1 115 (upd (h3.1 115) A.2.1 (nI l)), h3.2) = h4
  have n4 : ∀ a, ¬ a = 115 → h4.1 a = h3.1 a := fun a ha => by rw [← e4]; dsimp only; rw [set_ne _ _ ha]
  have q4 : h4.2 = h3.2 := by rw [← e4]
  have w4 : h4.1 115 = upd (h3.1 115) A.2.1 (nI l) := by rw [← e4]; dsimp only; rw [set_eq]
  have B4 : RefOk h4.2 := by rw [q4]; exact B3
  refine wp_eq (g110_5 B4) (wp_eq g110_8 ?_)
  rw [n4 110 (by omega), n3 110 (by omega), n2 110 (by omega), n1 110 (by omega), f0]
  refine wp_eq (s116 hn) ?_
  generalize e5 : (setR h4.1 116 (upd (h4.1 116) A.2.1 0), h4.2) = h5
  have n5 : ∀ a, ¬ a = 116 → h5.1 a = h4.1 a := fun a ha => by rw [← e5]; dsimp only; rw [set_ne _ _ ha]
  have q5 : h5.2 = h4.2 := by rw [← e5]
  have w5 : h5.1 116 = upd (h4.1 116) A.2.1 0 := by rw [← e5]; dsimp only; rw [set_eq]
  have z0 : ∀ a, ¬ (112 ≤ a ∧ a ≤ 116) → h5.1 a = h.1 a := fun a ha => by rw [n5 a (by omega), n4 a (by omega), n3 a (by omega), n2 a (by omega), n1 a (by omega)]
  refine wp_eq g110_8 ?_
  rw [z0 110 (by omega), f0, nI_1]
  refine wp_eq p110_8 ?_
  generalize e6 : (setR h5.1 110 (upd (h5.1 110) 8 (nI (A.2.1 + 1))), h5.2) = h6
  have n6 : ∀ a, ¬ a = 110 → h6.1 a = h5.1 a := fun a ha => by rw [← e6]; dsimp only; rw [set_ne _ _ ha]
  have q6 : h6.2 = h5.2 := by rw [← e6]
  have w6 : h6.1 110 = upd (h5.1 110) 8 (nI (A.2.1 + 1)) := by rw [← e6]; dsimp only; rw [set_eq]
  refine wp_rt ⟨⟨⟨?_, ?_⟩, ?_, ?_, ?_, ?_, ?_⟩, ⟨by rw [q6, q5, q4, q3, q2, q1], fun a ha => ?_⟩, fun j hj => ?_⟩
  · rw [w6, upd_eq]
    rfl
  · rw [w6, upd_ne _ _ (by decide), z0 110 (by omega)]
    exact f1
  · rw [n6 _ (by omega), n5 _ (by omega), n4 _ (by omega), n3 _ (by omega), n2 _ (by omega), w1]
    exact ad_row r1 hn (ad_v A k f l 0)
  · rw [n6 _ (by omega), n5 _ (by omega), n4 _ (by omega), n3 _ (by omega), w2, n1 _ (by omega)]
    exact ad_row r2 hn (ad_v A k f l 1)
  · rw [n6 _ (by omega), n5 _ (by omega), n4 _ (by omega), w3, n2 _ (by omega), n1 _ (by omega)]
    exact ad_row r3 hn (ad_v A k f l 2)
  · rw [n6 _ (by omega), n5 _ (by omega), w4, n3 _ (by omega), n2 _ (by omega), n1 _ (by omega)]
    exact ad_row r4 hn (ad_v A k f l 3)
  · rw [n6 _ (by omega), w5, n4 _ (by omega), n3 _ (by omega), n2 _ (by omega), n1 _ (by omega)]
    exact ad_row (v := 0) r5 hn (ad_v A k f l 4)
  · rw [n6 a (by omega), z0 a (by omega)]
  · rw [w6, upd_ne _ _ hj, z0 110 (by omega)]
def coN (k f l : Int32) (S : St) : Int32 := fs (fs (nc 6 k) (ob2 f 9 l 0 99)) (if S.1.2.1 < 7 then 0 else -6)
theorem ok_comes (k f l : Int32) : Ok (f_X6_comes 0 k f l) (f_X7_comes_ 110 k f l) := by
  refine Ok.c (coN k f l) (fun S => nI S.1.2.1) (fun S => pS S (adA S.1 (ix k) (ix f) (ix l)) S.2.1) (fun h S xs gs => ?_) (fun h S R ys gs => ?_) fun S G e => ?_
  · have R := xs.1
    have hn := gs.1.1.1.1
    unfold f_X6_comes
    refine wp_call (X6_noChoice (m := 6)) (wp_call X6_outside2 (wp_call X6_first ?_))
    have B := FB.of R (b := 2) (by decide)
    have H2 : ∀ (Q : Int32 → HP → Prop) (K : Int32 → M Int32), wp (K (coN k f l S)) h Q → wp (jn (fun k8 => if ¬ fs (nc 6 k) (ob2 f 9 l 0 99) = (0 : Int32) then k8 (fs (nc 6 k) (ob2 f 9 l 0 99)) else bnd (gR 5 0 0) fun r16 => bnd (gR 4 0 r16) fun r17 => bnd (gI 0 0 r17) fun t18 => if t18 < (7 : Int32) then k8 (fs (nc 6 k) (ob2 f 9 l 0 99)) else k8 (-6 : Int32)) K) h Q := fun Q K H => by
      unfold jn
      dsimp only
      by_cases c : fs (nc 6 k) (ob2 f 9 l 0 99) = 0
      · rw [if_neg (fun q => q c), c]
        refine wp_eq (x_gr0 R) (wp_eq (bI B) ?_)
        rw [xs.2.1.1.1]
        have e : coN k f l S = (if S.1.2.1 < 7 then 0 else -6) := by
          unfold coN
          rw [c]
          rfl
        rw [e] at H
        by_cases d : S.1.2.1 < 7
        · rw [if_pos (show nI S.1.2.1 < (7 : Int32) from (nI_ltI (b := 7) (by omega) (by omega)).mpr d)]
          rw [if_pos d] at H
          exact H
        · rw [if_neg (show ¬ nI S.1.2.1 < (7 : Int32) from fun q => d ((nI_ltI (b := 7) (by omega) (by omega)).mp q))]
          rw [if_neg d] at H
          exact H
      · rw [if_pos c]
        have e : coN k f l S = fs (nc 6 k) (ob2 f 9 l 0 99) := if_neg c
        rw [e] at H
        exact H
    refine H2 _ _ (cXg xs rfl (fs_no (fs_no nc_no ob2_no) six_no) fun e => ?_)
    have d := six_z (fs_z e).2
    obtain ⟨a, ha, rfl⟩ := nc_ix (fs_z (fs_z e).1).1 (by omega)
    obtain ⟨⟨b, hb, rfl⟩, c, -, hc, rfl⟩ := ob2_ix (xm := 9) (yl := 0) (ym := 99) (fs_z (fs_z e).1).2 (by omega) (by omega) (by omega)
    rw [ix_nI (by omega), ix_nI (by omega), ix_nI (by omega)]
    have F0 : FolkIs (setR h.1 44 (upd (h.1 44) 0 0), h.2) 2 S.1 := xs.2.1.fr fun q h1 h2 => by dsimp only; rw [set_ne _ _ (by omega)]
    refine wp_eq (g0_5 R) (wp_eq p44_0 (wp_eq (x_gr0 (by exact R)) (wp_bnd (wp_mono (X0_add (by exact B) F0 d) fun v h1 q => ?_))))
    obtain ⟨rfl, F1, S1⟩ := q
    have so : ∀ q, ¬ (2 ≤ q ∧ q ≤ 8) → ¬ q = 44 → h1.1 q = h.1 q := fun q h1 h2 => by rw [S1.2 q h1]; dsimp only; rw [set_ne _ _ h2]
    refine wp_rt ⟨rfl, xs.pl S1.1 (fun q h1 h2 h3 => so q (by omega) h3) F1 (xs.2.2.1.fr (so 10 (by omega) (by omega)) (so 11 (by omega) (by omega))) ?_, fun q hq => so q (by omega) (by omega)⟩
    rw [S1.2 44 (by unfold inF; omega)]
    dsimp only
    rw [set_eq, upd_eq]
  · have hn := gs.1.1.1.1
    unfold f_X7_comes_
    refine wp_call (X7_isIn (m := 5) (by decide)) ?_
    have H2 : ∀ (Q : Int32 → HP → Prop) (K : Int32 → M Int32), wp (K (coN k f l S)) h Q → wp (jn (fun k4 => if ¬ (if pn (5 + 1) k = true then (1 : Int32) else 0) = (0 : Int32) then if f < (0 : Int32) then k4 (-4 : Int32) else if (0 : Int32) ≤ l then if (9 : Int32) < f then k4 (-6 : Int32) else if (99 : Int32) < l then k4 (-6 : Int32) else bnd (gI 6 8 110) fun t10 => if ¬ t10 = (7 : Int32) then k4 (0 : Int32) else k4 (-6 : Int32) else k4 (-4 : Int32) else k4 (-2 : Int32)) K) h Q := fun Q K H => by
      unfold jn
      dsimp only
      rw [tb_ifn]
      unfold coN fs nc ob2 at H
      cases z : pn 6 k
      · simp only [z, Bool.false_eq_true, if_false, show ¬ (-2 : Int32) = 0 by decide] at H ⊢
        exact H
      · simp only [z, if_true] at H ⊢
        by_cases c1 : f < 0
        · simp only [c1, if_true, show ¬ (-4 : Int32) = 0 by decide, if_false] at H ⊢
          exact H
        · simp only [c1, if_false] at H ⊢
          by_cases c2 : (0 : Int32) ≤ l
          · simp only [c2, if_true] at H ⊢
            by_cases c3 : (9 : Int32) < f
            · simp only [c3, if_true, show ¬ (-6 : Int32) = 0 by decide, if_false] at H ⊢
              exact H
            · simp only [c3, if_false] at H ⊢
              by_cases c4 : l ≤ (99 : Int32)
              · rw [if_neg (Int32.not_lt.mpr c4)]
                simp only [c4, if_true] at H
                refine wp_eq g110_8 ?_
                rw [ys.1.1.1]
                by_cases d : S.1.2.1 < 7
                · rw [if_pos (show ¬ nI S.1.2.1 = (7 : Int32) from fun q => by have := (nI_eq (b := 7) (by omega) (by omega)).mp q; omega)]
                  rw [if_pos d] at H
                  exact H
                · rw [if_neg (show ¬ ¬ nI S.1.2.1 = (7 : Int32) from fun q => q (by rw [show S.1.2.1 = 7 by omega]; rfl))]
                  rw [if_neg d] at H
                  exact H
              · rw [if_pos (Int32.not_le.mp c4)]
                simp only [c4, if_false, show ¬ (-6 : Int32) = 0 by decide] at H
                exact H
          · simp only [c2, if_false, show ¬ (-4 : Int32) = 0 by decide] at H ⊢
            exact H
    refine H2 _ _ (cYg R ys rfl (fs_no (fs_no nc_no ob2_no) six_no) fun e => ?_)
    have d := six_z (fs_z e).2
    obtain ⟨a, ha, rfl⟩ := nc_ix (fs_z (fs_z e).1).1 (by omega)
    obtain ⟨⟨b, hb, rfl⟩, c, -, hc, rfl⟩ := ob2_ix (xm := 9) (yl := 0) (ym := 99) (fs_z (fs_z e).1).2 (by omega) (by omega) (by omega)
    rw [ix_nI (by omega), ix_nI (by omega), ix_nI (by omega)]
    have F0 : ModIs (setR h.1 110 (upd (h.1 110) 21 0), h.2) S.1 := ys.1.fr (by dsimp only; rw [set_eq, upd_ne _ _ (by decide)]) (by dsimp only; rw [set_eq, upd_ne _ _ (by decide)]) fun q h1 h2 => by dsimp only; rw [set_ne _ _ (by omega)]
    refine wp_eq p110_21 (wp_bnd (wp_mono (X7_adds (by exact R) F0 d) fun _ h1 q => ?_))
    obtain ⟨F1, S1, k1⟩ := q
    have so : ∀ q, ¬ q = 110 → ¬ (112 ≤ q ∧ q ≤ 116) → h1.1 q = h.1 q := fun q h1 h2 => by rw [S1.2 q (by omega)]; dsimp only; rw [set_ne _ _ h1]
    have e4 : ∀ k, ¬ k = 8 → ¬ k = 21 → h1.1 110 k = h.1 110 k := fun k hk h2 => by rw [k1 k hk]; dsimp only; rw [set_eq, upd_ne _ _ h2]
    refine wp_eq g110_8 (wp_rt ⟨?_, ?_, fun q hq => so q (by omega) (by omega), S1.1⟩)
    · rw [F1.1.1]
      show nI (S.1.2.1 + 1) - 1 = _
      rw [show (1 : Int32) = nI 1 from rfl, pk_sub (by omega)]
      rfl
    · refine ys.pl (e4 _ (by omega) (by omega)) (e4 _ (by omega) (by omega)) (e4 _ (by omega) (by omega)) ?_ (so 111 (by omega) (by omega)) (so 119 (by omega) (by omega)) (so 126 (by omega) (by omega)) (fun j hj => by rw [so 123 (by omega) (by omega)]) F1 (ys.2.1.fr (so 117 (by omega) (by omega)) (so 118 (by omega) (by omega)))
      rw [k1 21 (by omega)]
      dsimp only
      rw [set_eq, upd_eq]
  · have d := six_z (fs_z e).2
    obtain ⟨a, ha, rfl⟩ := nc_ix (fs_z (fs_z e).1).1 (by omega)
    obtain ⟨⟨b, hb, rfl⟩, c, -, hc, rfl⟩ := ob2_ix (xm := 9) (yl := 0) (ym := 99) (fs_z (fs_z e).1).2 (by omega) (by omega) (by omega)
    rw [ix_nI (by omega), ix_nI (by omega), ix_nI (by omega)]
    exact pS_good G (adA_good G.1 d (by omega) hb hc) G.2.1
