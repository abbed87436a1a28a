/-! HANGS, WAY, COMES -/
def hgP (P : PV) (a w : Nat) : PV := (P.1, fun k => if k = a then w else P.2 k)
theorem hgP_good {P : PV} {a w : Nat} (G : GP' P) (hw : w ≤ 3) : GP' (hgP P a w) := ⟨fun k hk => ⟨(G.1 k hk).1, by
  show (if k = a then w else P.2 k) ≤ 3
  split
  · exact hw
  · exact (G.1 k hk).2⟩, G.2⟩
def hgN (x w : Int32) (_ : St) : Int32 := fs (pl x) (nc 4 w)
theorem gu_pl3 {β : Type} {h : HP} {x w : Int32} {Q : β → HP → Prop} {K : Int32 → M β} (H : wp (K (fs (pl x) (nc 4 w))) h Q) : wp (bnd (f_X7_isPlace x) fun t1 => jn (fun k4 => if ¬ t1 = (0 : Int32) then bnd (f_X7_isIn w (0 : Int32) (3 : Int32)) fun t17 => if ¬ t17 = (0 : Int32) then k4 (0 : Int32) else k4 (-2 : Int32) else k4 (-1 : Int32)) K) h Q := by
  refine wp_call X7_isPlace ?_
  unfold jn
  dsimp only
  rw [tb_ifn]
  by_cases c : pl x = 0
  · rw [pl_z c, if_pos rfl]
    rw [c, show ∀ y, fs 0 y = y from fun y => rfl] at H
    refine wp_call (X7_isIn (m := 3) (by decide)) ?_
    rw [tb_ifn]
    unfold nc at H
    cases z : pn 4 w
    · simp only [z, Bool.false_eq_true, if_false] at H ⊢
      exact H
    · simp only [z, if_true] at H ⊢
      exact H
  · rw [(pl_c c).2, show fs (-1) (nc 4 w) = -1 from rfl] at H
    rw [(pl_c c).1, if_neg (by decide)]
    exact H
theorem ok_hangs (x w : Int32) : Ok (f_X6_hangs 0 x w) (f_X7_hangs 110 x w) := by
  refine Ok.c (hgN x w) (fun S => nI (S.2.1.2 (ix x))) (fun S => pS S S.1 (hgP S.2.1 (ix x) (ix w))) (fun h S xs gs => ?_) (fun h S R ys gs => ?_) fun S G e => ?_
  · have R := xs.1
    unfold f_X6_hangs
    refine wp_call X6_noPlace (wp_call (X6_noChoice (m := 4)) (wp_call X6_first (cXg xs rfl (fs_no pl_no nc_no) fun e => ?_)))
    obtain ⟨a, ha, rfl⟩ := pl_ix (fs_z e).1
    obtain ⟨v, hv, rfl⟩ := nc_ix (fs_z e).2 (by omega)
    rw [ix_nI (by omega), ix_nI (by omega)]
    refine wp_eq (g0_5 R) (wp_eq p44_0 (wp_eq (x_gr1 (by exact R)) (wp_eq (g9_1 (by exact R)) (wp_eq (a11 ha) (wp_eq (x_gr1 (by exact R)) (wp_eq (g9_1 (by exact R)) (wp_eq (s11 ha) (wp_rt ⟨?_, ?_, fun q hq => ?_⟩))))))))
    · dsimp only
      rw [set_ne _ _ (by decide)]
      exact xs.2.2.1.2 a ha
    · refine xs.pl rfl (fun q h1 h2 h3 => by dsimp only; rw [set_ne _ _ (by omega), set_ne _ _ h3]) (xs.2.1.fr fun q h1 h2 => by dsimp only; rw [set_ne _ _ (by omega), set_ne _ _ (by omega)]) ⟨fun k hk => ?_, fun k hk => ?_⟩ ?_
      · dsimp only [hgP]
        rw [set_ne _ _ (by decide), set_ne _ _ (by decide)]
        exact xs.2.2.1.1 k hk
      · dsimp only [hgP]
        rw [set_eq, set_ne _ _ (by decide)]
        by_cases c : k = a
        · rw [if_pos c, c, upd_eq]
        · rw [if_neg c, upd_ne _ _ c]
          exact xs.2.2.1.2 k hk
      · dsimp only
        rw [set_ne _ _ (by decide), set_eq, upd_eq]
    · dsimp only
      rw [set_ne _ _ (by omega), set_ne _ _ (by omega)]
  · unfold f_X7_hangs
    refine gu_pl3 (cYg R ys rfl (fs_no pl_no nc_no) fun e => ?_)
    obtain ⟨a, ha, rfl⟩ := pl_ix (fs_z e).1
    obtain ⟨v, hv, rfl⟩ := nc_ix (fs_z e).2 (by omega)
    rw [ix_nI (by omega), ix_nI (by omega)]
    refine wp_eq p110_21 (wp_eq (g110_7 (by exact R)) (wp_eq (a118 ha) (wp_eq (g110_7 (by exact R)) (wp_eq (s118 ha) (wp_rt ⟨?_, ?_, fun q hq => ?_, rfl⟩)))))
    · dsimp only
      rw [set_ne _ _ (by decide)]
      exact ys.2.1.2 a ha
    · have e3 : ∀ q, ¬ q = 110 → ¬ q = 118 → (setR (setR h.1 110 (upd (h.1 110) 21 0)) 118 (upd (setR h.1 110 (upd (h.1 110) 21 0) 118) a (nI v)), h.2).1 q = h.1 q := fun q h1 h2 => by dsimp only; rw [set_ne _ _ h2, set_ne _ _ h1]
      have e4 : ∀ k, ¬ k = 21 → (setR (setR h.1 110 (upd (h.1 110) 21 0)) 118 (upd (setR h.1 110 (upd (h.1 110) 21 0) 118) a (nI v)), h.2).1 110 k = h.1 110 k := fun k hk => by dsimp only; rw [set_ne _ _ (by decide), set_eq, upd_ne _ _ hk]
      refine ys.pl (e4 _ (by omega)) (e4 _ (by omega)) (e4 _ (by omega)) ?_ (e3 111 (by omega) (by omega)) (e3 119 (by omega) (by omega)) (e3 126 (by omega) (by omega)) (fun j hj => by rw [e3 123 (by omega) (by omega)]) (ys.1.fr (e4 _ (by omega)) (e4 _ (by omega)) fun q h1 h2 => e3 q (by omega) (by omega)) ⟨fun k hk => ?_, fun k hk => ?_⟩
      · dsimp only
        rw [set_ne _ _ (by decide), set_eq, upd_eq]
      · rw [e3 117 (by omega) (by omega)]
        exact ys.2.1.1 k hk
      · dsimp only [hgP]
        rw [set_eq, set_ne _ _ (by decide)]
        by_cases c : k = a
        · rw [if_pos c, c, upd_eq]
        · rw [if_neg c, upd_ne _ _ c]
          exact ys.2.1.2 k hk
    · dsimp only
      rw [set_ne _ _ (by omega), set_ne _ _ (by omega)]
  · obtain ⟨v, hv, rfl⟩ := nc_ix (fs_z e).2 (by omega)
    refine pS_good G G.1 (hgP_good G.2.1 ?_)
    rw [ix_nI (by omega)]
    omega
/-! a way turned -/
def jnP (P : PV) (a b : Nat) : PV := (fun k => if k = a then P.1 a ^^^ 2 ^ b else if k = b then P.1 b ^^^ 2 ^ a else P.1 k, P.2)
theorem jnP_good {P : PV} {a b : Nat} (G : GP' P) (ha : a < 8) (hb : b < 8) (hab : ¬ a = b) : GP' (jnP P a b) := by
  have la := pow_lt31 ha
  have lb := pow_lt31 hb
  refine ⟨fun k hk => ⟨?_, (G.1 k hk).2⟩, fun x y hx hy h => ?_⟩
  · show (if k = a then P.1 a ^^^ 2 ^ b else if k = b then P.1 b ^^^ 2 ^ a else P.1 k) < 2 ^ 8
    split
    · exact Nat.xor_lt_two_pow (G.1 a ha).1 lb
    · split
      · exact Nat.xor_lt_two_pow (G.1 b hb).1 la
      · exact (G.1 k hk).1
  · have key : ∀ x y, x < 8 → y < 8 → tb ((jnP P a b).1 x) y = (tb (P.1 x) y ^^ (decide (x = a ∧ y = b) || decide (x = b ∧ y = a))) := fun x y hx hy => by
      show tb (if x = a then P.1 a ^^^ 2 ^ b else if x = b then P.1 b ^^^ 2 ^ a else P.1 x) y = _
      by_cases c : x = a
      · subst c
        rw [if_pos rfl, tb_xor, tb_pow]
        by_cases d : b = y
        · subst d
          simp
        · simp [d, hab, show ¬ y = b from fun q => d q.symm]
      · rw [if_neg c]
        by_cases d : x = b
        · subst d
          rw [if_pos rfl, tb_xor, tb_pow]
          by_cases e : a = y
          · subst e
            simp
          · simp [c, e, show ¬ y = a from fun q => e q.symm]
        · rw [if_neg d]
          simp [c, d]
    have sy : tb (P.1 x) y = tb (P.1 y) x := by
      cases z : tb (P.1 x) y
      · cases w : tb (P.1 y) x
        · rfl
        · rw [G.2 y x hy hx w] at z
          cases z
      · rw [G.2 x y hx hy z]
    rw [key x y hx hy] at h
    rw [key y x hy hx, ← sy, ← h]
    congr 1
    rw [Bool.or_comm]
    congr 1
    · exact decide_eq_decide.mpr ⟨fun q => ⟨q.2, q.1⟩, fun q => ⟨q.2, q.1⟩⟩
    · exact decide_eq_decide.mpr ⟨fun q => ⟨q.2, q.1⟩, fun q => ⟨q.2, q.1⟩⟩
theorem bit_at {x b : Nat} (hx : x < 2 ^ 31) (hb : b < 31) : (nI x >>> (nI b &&& (31 : Int32))) &&& (1 : Int32) = nI (x / 2 ^ b % 2) := by
  rw [shr_nI hx (by omega), and1]
  exact Nat.lt_of_le_of_lt (Nat.div_le_self _ _) hx
def PB (r : Nat → Nat → Option Nat) (b : Nat) : Prop := SHF[b]? = some (0, 3) ∧ SHF[b + 1]? = some (1, 8) ∧ SHF[b + 2]? = some (1, 8) ∧ r b 0 = some (b + 1) ∧ r b 1 = some (b + 2)
theorem PB.of9 {r : Nat → Nat → Option Nat} (R : RefOk r) : PB r 9 := ⟨rfl, rfl, rfl, R 9 0 (by decide) (by decide) (by decide), R 9 1 (by decide) (by decide) (by decide)⟩
theorem PB.of21 {r : Nat → Nat → Option Nat} (R : RefOk r) : PB r 21 := ⟨rfl, rfl, rfl, R 21 0 (by decide) (by decide) (by decide), R 21 1 (by decide) (by decide) (by decide)⟩
theorem nI_xorb {x b : Nat} (hx : x < 2 ^ 31) (hb : b < 31) : nI x ^^^ ((1 : Int32) <<< (nI b &&& (31 : Int32))) = nI (x ^^^ 2 ^ b) := by
  rw [nI_shl1 hb, nI_xor hx (pow_lt31 hb)]
theorem X4_join {h : HP} {b x y : Nat} {P : PV} (B : PB h.2 b) (T : PlB h b P) (G : GoodP P) (hx : x < 8) (hy : y < 8) (hxy : ¬ x = y) : wp (cv 3 b (f_X4_join b (nI x) (nI y))) h fun v h' => v = nI ((P.1 x ^^^ 2 ^ y) / 2 ^ y % 2) ∧ PlB h' b (jnP P x y) ∧ Same (fun a => a = b + 1) h h' := by
  obtain ⟨s0, s1, s2, r0, r1⟩ := B
  have gx := (G x hx).1
  have gy := (G y hy).1
  have lx := pow_lt31 hx
  have ly := pow_lt31 hy
  have l1 : P.1 x ^^^ 2 ^ y < 2 ^ 8 := Nat.xor_lt_two_pow gx ly
  refine wp_eq (e_cv s0) ?_
  unfold f_X4_join
  refine wp_eq (e_bnd (e_gR s0 r0)) (wp_eq (e_bnd (e_aI s1 hx (by omega))) ?_)
  rw [T.1 x hx, nI_xorb (by omega) (by omega)]
  refine wp_eq (e_bnd (e_sI s1 hx (by omega))) (wp_eq (e_bnd (e_gR s0 r0)) (wp_eq (e_bnd (e_aI s1 hy (by omega))) ?_))
  rw [show (setR h.1 (b + 1) (upd (h.1 (b + 1)) x (nI (P.1 x ^^^ 2 ^ y))), h.2).1 (b + 1) y = nI (P.1 y) by dsimp only; rw [set_eq, upd_ne _ _ (fun q => hxy q.symm)]; exact T.1 y hy, nI_xorb (by omega) (by omega)]
  refine wp_eq (e_bnd (e_sI s1 hy (by omega))) (wp_eq (e_bnd (e_gR s0 r0)) (wp_eq (e_bnd (e_aI s1 hx (by omega))) ?_))
  refine wp_rt ⟨?_, ⟨fun k hk => ?_, fun k hk => ?_⟩, rfl, fun a ha => ?_⟩
  · dsimp only
    rw [set_eq, upd_ne _ _ hxy, set_eq, upd_eq, bit_at (by omega) (by omega)]
  · dsimp only [jnP]
    rw [set_eq, set_eq]
    by_cases c : k = x
    · rw [if_pos c, c, upd_ne _ _ hxy, upd_eq]
    · rw [if_neg c]
      by_cases d : k = y
      · rw [if_pos d, d, upd_eq]
      · rw [if_neg d, upd_ne _ _ d, upd_ne _ _ c]
        exact T.1 k hk
  · dsimp only [jnP]
    rw [set_ne _ _ (by omega), set_ne _ _ (by omega)]
    exact T.2 k hk
  · dsimp only
    rw [set_ne _ _ ha, set_ne _ _ ha]
theorem X7_turnsWay {h : HP} {x y : Nat} {P : PV} (R : RefOk h.2) (T : PlY h P) (G : GoodP P) (hx : x < 8) (hy : y < 8) (hxy : ¬ x = y) : wp (cv 6 110 (f_X7_turnsWay 110 (nI x) (nI y))) h fun _ h' => PlY h' (jnP P x y) ∧ Same (fun a => a = 117) h h' := by
  have gx := (G x hx).1
  have gy := (G y hy).1
  have lx := pow_lt31 hx
  have ly := pow_lt31 hy
  show wp (f_X7_turnsWay 110 (nI x) (nI y)) h _
  unfold f_X7_turnsWay
  refine wp_eq (g110_6 R) (wp_eq (a117 hx) ?_)
  rw [T.1 x hx, nI_xorb (by omega) (by omega)]
  refine wp_eq (s117 hx) (wp_eq (g110_6 (by exact R)) (wp_eq (a117 hy) ?_))
  rw [show (setR h.1 117 (upd (h.1 117) x (nI (P.1 x ^^^ 2 ^ y))), h.2).1 117 y = nI (P.1 y) by dsimp only; rw [set_eq, upd_ne _ _ (fun q => hxy q.symm)]; exact T.1 y hy, nI_xorb (by omega) (by omega)]
  refine wp_eq (s117 hy) (wp_rt ⟨⟨fun k hk => ?_, fun k hk => ?_⟩, rfl, fun a ha => ?_⟩)
  · dsimp only [jnP]
    rw [set_eq, set_eq]
    by_cases c : k = x
    · rw [if_pos c, c, upd_ne _ _ hxy, upd_eq]
    · rw [if_neg c]
      by_cases d : k = y
      · rw [if_pos d, d, upd_eq]
      · rw [if_neg d, upd_ne _ _ d, upd_ne _ _ c]
        exact T.1 k hk
  · dsimp only [jnP]
    rw [set_ne _ _ (by omega), set_ne _ _ (by omega)]
    exact T.2 k hk
  · dsimp only
    rw [set_ne _ _ ha, set_ne _ _ ha]
theorem ok_way (x y : Int32) : Ok (f_X6_way 0 x y) (f_X7_way 110 x y) := by
  refine Ok.c (fun _ => n2p 8 x y) (fun S => nI ((S.2.1.1 (ix x) ^^^ 2 ^ ix y) / 2 ^ ix y % 2)) (fun S => pS S S.1 (jnP S.2.1 (ix x) (ix y))) (fun h S xs gs => ?_) (fun h S R ys gs => ?_) fun S G e => ?_
  · have R := xs.1
    unfold f_X6_way
    have H2 : ∀ (Q : Int32 → HP → Prop) (K : Int32 → M Int32), wp (K (n2p 8 x y)) h Q → wp (jn (fun k2 => if ¬ x = y then bnd (f_X6_noPlaces x y) fun t10 => k2 t10 else k2 (-1 : Int32)) K) h Q := fun Q K H => by
      unfold jn
      dsimp only
      by_cases c : x = y
      · rw [if_neg (fun q => q c)]
        have e : n2p 8 x y = -1 := by
          unfold n2p
          simp [c]
        rw [e] at H
        exact H
      · rw [if_pos c]
        have e : n2p 8 x y = (if pn 8 x && pn 8 y then 0 else -1) := by
          unfold n2p
          simp [c]
        rw [e] at H
        exact wp_call X6_noPlaces H
    refine H2 _ _ (cXg xs rfl n2p_no fun e => ?_)
    obtain ⟨a, b, ha, hb, rfl, rfl, hab⟩ := n2p_ix e (by omega)
    rw [ix_nI (by omega), ix_nI (by omega)]
    have T0 : PlB (setR h.1 44 (upd (h.1 44) 0 0), h.2) 9 S.2.1 := PlB.fr (b := 9) (h := h) xs.2.2.1 (by dsimp only; rw [set_ne _ _ (by decide)]) (by dsimp only; rw [set_ne _ _ (by decide)])
    refine wp_eq (g0_5 R) (wp_eq p44_0 (wp_eq (x_gr1 (by exact R)) (wp_bnd (wp_mono (X4_join (PB.of9 (by exact R)) T0 gs.2.1.1 ha hb hab) fun v h1 q => ?_))))
    obtain ⟨rfl, T1, S1⟩ := q
    have so : ∀ q, ¬ q = 10 → ¬ q = 44 → h1.1 q = h.1 q := fun q h1 h2 => by rw [S1.2 q h1]; dsimp only; rw [set_ne _ _ h2]
    refine wp_rt ⟨rfl, xs.pl S1.1 (fun q h1 h2 h3 => so q (by omega) h3) (xs.2.1.fr fun q h1 h2 => so q (by omega) (by omega)) T1 ?_, fun q hq => so q (by omega) (by omega)⟩
    rw [S1.2 44 (by decide)]
    dsimp only
    rw [set_eq, upd_eq]
  · unfold f_X7_way
    refine wp_call X7_isPlace ?_
    unfold jn
    dsimp only
    rw [tb_if]
    by_cases c : n2p 8 x y = 0
    · obtain ⟨a, b, ha, hb, rfl, rfl, hab⟩ := n2p_ix c (by omega)
      refine cYz c ?_
      rw [ix_nI (by omega), ix_nI (by omega), pn_nI ha (by omega), if_pos rfl]
      refine wp_call X7_isPlace ?_
      rw [tb_if, pn_nI hb (by omega), if_pos rfl, if_pos (fun q => hab ((nI_eq (by omega) (by omega)).mp q))]
      have T0 : PlY (setR h.1 110 (upd (h.1 110) 21 0), h.2) S.2.1 := ys.2.1.fr (by dsimp only; rw [set_ne _ _ (by decide)]) (by dsimp only; rw [set_ne _ _ (by decide)])
      refine wp_eq p110_21 (wp_bnd (wp_mono (X7_turnsWay (by exact R) T0 gs.2.1.1 ha hb hab) fun _ h1 q => ?_))
      obtain ⟨T1, S1⟩ := q
      have R1 : RefOk h1.2 := by rw [S1.1]; exact R
      have so : ∀ q, ¬ q = 117 → ¬ q = 110 → h1.1 q = h.1 q := fun q h1 h2 => by rw [S1.2 q h1]; dsimp only; rw [set_ne _ _ h2]
      have e4 : ∀ k, ¬ k = 21 → h1.1 110 k = h.1 110 k := fun k hk => by rw [S1.2 110 (by decide)]; dsimp only; rw [set_eq, upd_ne _ _ hk]
      have gx := (gs.2.1.1 a ha).1
      have l1 : S.2.1.1 a ^^^ 2 ^ b < 2 ^ 8 := Nat.xor_lt_two_pow gx (pow_lt31 hb)
      refine wp_eq (g110_6 R1) (wp_eq (a117 ha) (wp_rt ⟨?_, ?_, fun q hq => so q (by omega) (by omega), S1.1⟩))
      · rw [T1.1 a ha, show (jnP S.2.1 a b).1 a = S.2.1.1 a ^^^ 2 ^ b from if_pos rfl, bit_at (by omega) (by omega)]
      · refine ys.pl (e4 _ (by omega)) (e4 _ (by omega)) (e4 _ (by omega)) ?_ (so 111 (by omega) (by omega)) (so 119 (by omega) (by omega)) (so 126 (by omega) (by omega)) (fun j hj => by rw [so 123 (by omega) (by omega)]) (ys.1.fr (e4 _ (by omega)) (e4 _ (by omega)) fun q h1 h2 => so q (by omega) (by omega)) T1
        rw [S1.2 110 (by decide)]
        dsimp only
        rw [set_eq, upd_eq]
    · obtain ⟨z, e⟩ := n2p_c c
      have RF : wp (bnd (cv 6 110 (f_X7_no 110 (-1 : Int32))) fun t5 => rt t5) h (YP h (anQ (fun _ => n2p 8 x y) (fun S => nI ((S.2.1.1 (ix x) ^^^ 2 ^ ix y) / 2 ^ ix y % 2)) S) (nwC (fun _ => n2p 8 x y) (fun S => pS S S.1 (jnP S.2.1 (ix x) (ix y))) S)) := cYr R ys e.symm (Or.inl rfl)
      cases z1 : pn 8 x
      · rw [if_neg (by decide)]
        exact RF
      · rw [if_pos rfl]
        refine wp_call X7_isPlace ?_
        rw [tb_if]
        cases z2 : pn 8 y
        · rw [if_neg (by decide)]
          exact RF
        · rw [if_pos rfl]
          rw [z1, z2] at z
          rw [if_neg (fun q => by simp [q] at z)]
          exact RF
  · obtain ⟨a, b, ha, hb, rfl, rfl, hab⟩ := n2p_ix e (by omega)
    rw [ix_nI (by omega), ix_nI (by omega)]
    exact pS_good G G.1 (jnP_good G.2.1 ha hb hab)
