/-! ASKS, BELIEVES, KIND, WEEK, BACK -/
theorem GA.up {A : AV} {r p v : Nat} (G : GA A) (h : okR A r v) : GA (upA A r p v) := ⟨G.1.up h, G.2⟩
theorem ok_asks (x y : Int32) : Ok (f_X6_asks 0 x y) (f_X7_asks 110 x y) := by
  refine Ok.c (fun S => n2p S.1.2.1 x y) (fun S => nI ((S.1.1 4 (ix x) ^^^ 2 ^ ix y) / 2 ^ ix y % 2)) (fun S => kS S (upA S.1 4 (ix x) (S.1.1 4 (ix x) ^^^ 2 ^ ix y))) (fun h S xs gs => ?_) (fun h S R ys gs => ?_) fun S G e => ?_
  · have R := xs.1
    have hn := gs.1.1.1.1
    have h7 := pow_le7 hn
    unfold f_X6_asks
    refine wp_call (noT R xs.2.1.1.1) (cXg xs rfl n2p_no fun e => ?_)
    obtain ⟨a, b, ha, hb, rfl, rfl, hab⟩ := n2p_ix e (by omega)
    rw [ix_nI (by omega), ix_nI (by omega)]
    have a7 : a < 7 := by omega
    have ge := (gs.1.1.2 a a7).2.2.2.2
    have lb := pow_lt31 hb
    have lx : S.1.1 4 a ^^^ 2 ^ b < 2 ^ S.1.2.1 := Nat.xor_lt_two_pow ge lb
    refine wp_eq (g0_5 R) (wp_eq (x_gr0 R) (wp_bnd (wp_mono xs.keep fun _ h1 q => ?_)))
    obtain ⟨X1, u1⟩ := q
    have R1 := X1.1
    have F1 : FolkIs h1 2 S.1 := X1.2.1
    have B1 := FB.of R1 (b := 2) (by decide)
    refine wp_eq (x_gr0 R1) (wp_eq (bR7 B1) (wp_eq (bA5 B1 a7) ?_))
    rw [F1.2.2.2.2.2 a a7, nI_xorb (by omega) (by omega)]
    have F2 := F1.set (r := 4) (p := a) (v := S.1.1 4 a ^^^ 2 ^ b) (by omega)
    refine wp_eq (bS5 B1 a7) (wp_eq (x_gr0 (by exact R1)) (wp_eq (bR7 (by exact B1)) (wp_eq (bA5 (by exact B1) a7) (wp_rt ⟨?_, X1.folk rfl (fun q h1 h2 => by dsimp only; rw [set_ne _ _ (by omega)]) F2, fun q hq => ?_⟩))))
    · dsimp only
      rw [set_eq, upd_eq, bit_at (by omega) (by omega)]
    · dsimp only
      rw [set_ne _ _ (by omega)]
      exact u1 q hq
  · have hn := gs.1.1.1.1
    have h7 := pow_le7 hn
    unfold f_X7_asks
    refine wp_call (X7_areTwo ys.1.1.1) ?_
    rw [tb_ifn]
    by_cases c : n2p S.1.2.1 x y = 0
    · refine cYz c ?_
      rw [n2p_t c, if_pos rfl]
      obtain ⟨a, b, ha, hb, rfl, rfl, hab⟩ := n2p_ix c (by omega)
      rw [ix_nI (by omega), ix_nI (by omega)]
      have a7 : a < 7 := by omega
      have ge := (gs.1.1.2 a a7).2.2.2.2
      have lb := pow_lt31 hb
      have lx : S.1.1 4 a ^^^ 2 ^ b < 2 ^ S.1.2.1 := Nat.xor_lt_two_pow ge lb
      refine wp_bnd (wp_mono (ys.keep R gs.2.2.2.2.2.1) fun _ h1 q => ?_)
      obtain ⟨Y1, u1, u2⟩ := q
      have R1 : RefOk h1.2 := by rw [u2]; exact R
      have F1 : ModIs h1 S.1 := Y1.1
      refine wp_eq (g110_5 R1) (wp_eq (a116 a7) ?_)
      rw [F1.2.2.2.2.2 a a7, nI_xorb (by omega) (by omega)]
      have F2 := F1.set (r := 4) (p := a) (v := S.1.1 4 a ^^^ 2 ^ b) (by omega)
      refine wp_eq (s116 a7) (wp_eq (g110_5 (by exact R1)) (wp_eq (a116 a7) (wp_rt ⟨?_, Y1.folk (fun k _ _ => by dsimp only; rw [set_ne _ _ (by decide)]) (fun q h1 h2 h3 => by dsimp only; rw [set_ne _ _ (by omega)]) F2, fun q hq => ?_, u2⟩)))
      · dsimp only
        rw [set_eq, upd_eq, bit_at (by omega) (by omega)]
      · dsimp only
        rw [set_ne _ _ (by omega)]
        exact u1 q hq
    · obtain ⟨z, e⟩ := n2p_c c
      rw [z, if_neg (by decide)]
      exact cYr R ys e.symm (Or.inl rfl)
  · have hn := G.1.1.1.1
    obtain ⟨a, b, ha, hb, rfl, rfl, hab⟩ := n2p_ix e (by omega)
    rw [ix_nI (by omega), ix_nI (by omega)]
    refine kS_good G (G.1.up ⟨fun q => by omega, fun q => by omega, fun q => by omega, fun q => by omega, fun _ => Nat.xor_lt_two_pow (G.1.1.2 a (by omega)).2.2.2.2 (pow_lt31 hb)⟩)
theorem ok_believes (x y : Int32) : Ok (f_X6_believes 0 x y) (f_X7_believes 110 x y) := by
  refine Ok.c (fun S => fs (np S.1.2.1 x) (ob y 0 99)) (fun S => nI (S.1.1 3 (ix x))) (fun S => kS S (upA S.1 3 (ix x) (ix y))) (fun h S xs gs => ?_) (fun h S R ys gs => ?_) fun S G e => ?_
  · have R := xs.1
    have hn := gs.1.1.1.1
    unfold f_X6_believes
    refine wp_call (noP R xs.2.1.1.1) (wp_call X6_outside (wp_call X6_first (cXg xs rfl (fs_no np_no ob_no) fun e => ?_)))
    obtain ⟨a, ha, rfl⟩ := np_ix (fs_z e).1 (by omega)
    obtain ⟨v, -, hv, rfl⟩ := ob_ix (lo := 0) (hi := 99) (fs_z e).2 (by omega) (by omega)
    rw [ix_nI (by omega), ix_nI (by omega)]
    have a7 : a < 7 := by omega
    refine wp_eq (g0_5 R) (wp_eq (x_gr0 R) (wp_bnd (wp_mono xs.keep fun _ h1 q => ?_)))
    obtain ⟨X1, u1⟩ := q
    have R1 := X1.1
    have F1 : FolkIs h1 2 S.1 := X1.2.1
    have B1 := FB.of R1 (b := 2) (by decide)
    have F2 := F1.set (r := 3) (p := a) (v := v) (by omega)
    refine wp_eq (x_gr0 R1) (wp_eq (bR6 B1) (wp_eq (bA4 B1 a7) (wp_eq (x_gr0 R1) (wp_eq (bR6 B1) (wp_eq (bS4 B1 a7) (wp_rt ⟨F1.2.2.2.2.1 a a7, X1.folk rfl (fun q h1 h2 => by dsimp only; rw [set_ne _ _ (by omega)]) F2, fun q hq => ?_⟩))))))
    dsimp only
    rw [set_ne _ _ (by omega)]
    exact u1 q hq
  · have hn := gs.1.1.1.1
    unfold f_X7_believes
    refine gu_pb ys.1.1.1 (cYg R ys rfl (fs_no np_no ob_no) fun e => ?_)
    obtain ⟨a, ha, rfl⟩ := np_ix (fs_z e).1 (by omega)
    obtain ⟨v, -, hv, rfl⟩ := ob_ix (lo := 0) (hi := 99) (fs_z e).2 (by omega) (by omega)
    rw [ix_nI (by omega), ix_nI (by omega)]
    have a7 : a < 7 := by omega
    refine wp_bnd (wp_mono (ys.keep R gs.2.2.2.2.2.1) fun _ h1 q => ?_)
    obtain ⟨Y1, u1, u2⟩ := q
    have R1 : RefOk h1.2 := by rw [u2]; exact R
    have F1 : ModIs h1 S.1 := Y1.1
    have F2 := F1.set (r := 3) (p := a) (v := v) (by omega)
    refine wp_eq (g110_4 R1) (wp_eq (a115 a7) (wp_eq (g110_4 R1) (wp_eq (s115 a7) (wp_rt ⟨F1.2.2.2.2.1 a a7, Y1.folk (fun k _ _ => by dsimp only; rw [set_ne _ _ (by decide)]) (fun q h1 h2 h3 => by dsimp only; rw [set_ne _ _ (by omega)]) F2, fun q hq => ?_, u2⟩))))
    dsimp only
    rw [set_ne _ _ (by omega)]
    exact u1 q hq
  · have hn := G.1.1.1.1
    obtain ⟨v, -, hv, rfl⟩ := ob_ix (lo := 0) (hi := 99) (fs_z e).2 (by omega) (by omega)
    refine kS_good G (G.1.up ⟨fun q => by omega, fun q => by omega, fun q => by omega, fun _ => ?_, fun q => by omega⟩)
    rw [ix_nI (by omega)]
    exact hv
def kiN (x k f : Int32) (S : St) : Int32 := fs (np S.1.2.1 x) (fs (nc 6 k) (ob f 0 9))
theorem ok_kind (x k f : Int32) : Ok (f_X6_kind 0 x k f) (f_X7_kind 110 x k f) := by
  refine Ok.c (kiN x k f) (fun S => nI (10 * S.1.1 0 (ix x) + S.1.1 1 (ix x))) (fun S => kS S (upA (upA S.1 0 (ix x) (ix k)) 1 (ix x) (ix f))) (fun h S xs gs => ?_) (fun h S R ys gs => ?_) fun S G e => ?_
  · have R := xs.1
    have hn := gs.1.1.1.1
    unfold f_X6_kind
    refine wp_call (noP R xs.2.1.1.1) (wp_call (X6_noChoice (m := 6)) (wp_call X6_outside (wp_call X6_first (wp_call X6_first (cXg xs rfl (fs_no np_no (fs_no nc_no ob_no)) fun e => ?_)))))
    obtain ⟨a, ha, rfl⟩ := np_ix (fs_z e).1 (by omega)
    obtain ⟨u, hu, rfl⟩ := nc_ix (fs_z (fs_z e).2).1 (by omega)
    obtain ⟨v, -, hv, rfl⟩ := ob_ix (lo := 0) (hi := 9) (fs_z (fs_z e).2).2 (by omega) (by omega)
    rw [ix_nI (by omega), ix_nI (by omega), ix_nI (by omega)]
    have a7 : a < 7 := by omega
    refine wp_eq (g0_5 R) (wp_eq (x_gr0 R) (wp_bnd (wp_mono xs.keep fun _ h1 q => ?_)))
    obtain ⟨X1, u1⟩ := q
    have R1 := X1.1
    have F1 : FolkIs h1 2 S.1 := X1.2.1
    have B1 := FB.of R1 (b := 2) (by decide)
    have F2 := F1.set (r := 0) (p := a) (v := u) (by omega)
    have F3 := F2.set (r := 1) (p := a) (v := v) (by omega)
    refine wp_eq (x_gr0 R1) (wp_eq (bR3 B1) (wp_eq (bA1 B1 a7) (wp_eq (x_gr0 R1) (wp_eq (bR4 B1) (wp_eq (bA2 B1 a7) (wp_eq (x_gr0 R1) (wp_eq (bR3 B1) (wp_eq (bS1 B1 a7) (wp_eq (x_gr0 (by exact R1)) (wp_eq (bR4 (by exact B1)) (wp_eq (bS2 (by exact B1) a7) (wp_rt ⟨?_, X1.folk rfl (fun q h1 h2 => by dsimp only; rw [set_ne _ _ (by omega), set_ne _ _ (by omega)]) F3, fun q hq => ?_⟩))))))))))))
    · rw [F1.2.1 a a7, F1.2.2.1 a a7, show (10 : Int32) = nI 10 from rfl, pk_mul, nI_add]
    · dsimp only
      rw [set_ne _ _ (by omega), set_ne _ _ (by omega)]
      exact u1 q hq
  · have hn := gs.1.1.1.1
    unfold f_X7_kind
    refine wp_call (X7_isPerson ys.1.1.1) ?_
    have H2 : ∀ (Q : Int32 → HP → Prop) (K : Int32 → M Int32), wp (K (kiN x k f S)) h Q → wp (jn (fun k4 => if ¬ (if pn S.1.2.1 x = true then (1 : Int32) else 0) = (0 : Int32) then bnd (f_X7_isIn k (0 : Int32) (nI 5)) fun t15 => if ¬ t15 = (0 : Int32) then bnd (f_X7_bound f (0 : Int32) (9 : Int32)) fun t17 => k4 t17 else k4 (-2 : Int32) else k4 (-1 : Int32)) K) h Q := fun Q K H => by
      unfold jn
      dsimp only
      rw [tb_ifn]
      unfold kiN fs np nc at H
      cases z : pn S.1.2.1 x
      · simp only [z, Bool.false_eq_true, if_false, show ¬ (-1 : Int32) = 0 by decide] at H ⊢
        exact H
      · simp only [z, if_true] at H ⊢
        refine wp_call (X7_isIn (m := 5) (by decide)) ?_
        rw [tb_ifn]
        cases w : pn 6 k
        · simp only [w, Bool.false_eq_true, if_false, show ¬ (-2 : Int32) = 0 by decide] at H ⊢
          exact H
        · simp only [w, if_true] at H ⊢
          exact wp_call X7_bound H
    refine H2 _ _ (cYg R ys rfl (fs_no np_no (fs_no nc_no ob_no)) fun e => ?_)
    obtain ⟨a, ha, rfl⟩ := np_ix (fs_z e).1 (by omega)
    obtain ⟨u, hu, rfl⟩ := nc_ix (fs_z (fs_z e).2).1 (by omega)
    obtain ⟨v, -, hv, rfl⟩ := ob_ix (lo := 0) (hi := 9) (fs_z (fs_z e).2).2 (by omega) (by omega)
    rw [ix_nI (by omega), ix_nI (by omega), ix_nI (by omega)]
    have a7 : a < 7 := by omega
    refine wp_bnd (wp_mono (ys.keep R gs.2.2.2.2.2.1) fun _ h1 q => ?_)
    obtain ⟨Y1, u1, u2⟩ := q
    have R1 : RefOk h1.2 := by rw [u2]; exact R
    have F1 : ModIs h1 S.1 := Y1.1
    have F2 := F1.set (r := 0) (p := a) (v := u) (by omega)
    have F3 := F2.set (r := 1) (p := a) (v := v) (by omega)
    refine wp_eq (g110_1 R1) (wp_eq (a112 a7) (wp_eq (g110_2 R1) (wp_eq (a113 a7) (wp_eq (g110_1 R1) (wp_eq (s112 a7) (wp_eq (g110_2 (by exact R1)) (wp_eq (s113 a7) (wp_rt ⟨?_, Y1.folk (fun k _ _ => by dsimp only; rw [set_ne _ _ (by decide), set_ne _ _ (by decide)]) (fun q h1 h2 h3 => by dsimp only; rw [set_ne _ _ (by omega), set_ne _ _ (by omega)]) F3, fun q hq => ?_, u2⟩))))))))
    · rw [F1.2.1 a a7, F1.2.2.1 a a7, show (10 : Int32) = nI 10 from rfl, pk_mul, nI_add]
    · dsimp only
      rw [set_ne _ _ (by omega), set_ne _ _ (by omega)]
      exact u1 q hq
  · have hn := G.1.1.1.1
    obtain ⟨u, hu, rfl⟩ := nc_ix (fs_z (fs_z e).2).1 (by omega)
    obtain ⟨v, -, hv, rfl⟩ := ob_ix (lo := 0) (hi := 9) (fs_z (fs_z e).2).2 (by omega) (by omega)
    rw [ix_nI (k := u) (by omega), ix_nI (k := v) (by omega)]
    refine kS_good G ((G.1.up ⟨fun _ => by omega, fun q => by omega, fun q => by omega, fun q => by omega, fun q => by omega⟩).up ⟨fun q => by omega, fun _ => hv, fun q => by omega, fun q => by omega, fun q => by omega⟩)
def weN (S : St) : Int32 := if S.1.2.2 < 999 then 0 else -6
theorem ok_week : Ok (f_X6_week 0) (f_X7_week 110) := by
  refine Ok.c weN (fun S => nI (dc S.1 S.1.2.1)) (fun S => kS S (wk S.1)) (fun h S xs gs => ?_) (fun h S R ys gs => ?_) fun S G e => ?_
  · have R := xs.1
    have hw := gs.1.2
    have B := FB.of R (b := 2) (by decide)
    unfold f_X6_week
    refine wp_eq (x_gr0 R) (wp_eq (bI B) ?_)
    rw [xs.2.1.1.2]
    by_cases c : S.1.2.2 < 999
    · have e0 : weN S = 0 := if_pos c
      rw [if_pos (show nI S.1.2.2 < (999 : Int32) from (nI_ltI (b := 999) (by omega) (by omega)).mpr c)]
      refine cXz e0 ?_
      refine wp_eq (g0_5 R) (wp_eq (x_gr0 R) (wp_bnd (wp_mono xs.keep fun _ h1 q => ?_)))
      obtain ⟨X1, u1⟩ := q
      have R1 := X1.1
      have F1 : FolkIs h1 2 S.1 := X1.2.1
      have B1 := FB.of R1 (b := 2) (by decide)
      refine wp_eq (x_gr0 R1) (wp_eq (bC B1) (wp_bnd (wp_mono (X0_passWeek B1 F1 gs.1.1) fun v h2 q => ?_)))
      obtain ⟨rfl, F2, -, S2⟩ := q
      exact wp_rt ⟨rfl, X1.folk S2.1 (fun q h1 h2 => S2.2 q (by omega)) F2, fun q hq => by rw [S2.2 q (by omega)]; exact u1 q hq⟩
    · have e0 : weN S = -6 := if_neg c
      rw [if_neg (show ¬ nI S.1.2.2 < (999 : Int32) from fun q => c ((nI_ltI (b := 999) (by omega) (by omega)).mp q))]
      exact cXr xs e0.symm (Or.inr (Or.inr (Or.inr (Or.inr rfl))))
  · have hw := gs.1.2
    unfold f_X7_week
    refine wp_eq g110_9 ?_
    rw [ys.1.1.2]
    by_cases c : S.1.2.2 < 999
    · have e0 : weN S = 0 := if_pos c
      rw [if_pos (show ¬ nI S.1.2.2 = (999 : Int32) from fun q => by have := (nI_eq (b := 999) (by omega) (by omega)).mp q; omega)]
      refine cYz e0 ?_
      refine wp_bnd (wp_mono (ys.keep R gs.2.2.2.2.2.1) fun _ h1 q => ?_)
      obtain ⟨Y1, u1, u2⟩ := q
      have R1 : RefOk h1.2 := by rw [u2]; exact R
      have F1 : ModIs h1 S.1 := Y1.1
      refine wp_bnd (show wp (f_X7_goesWeek 110) h1 _ from wp_mono (X7_goesWeek R1 F1 gs.1.1) fun v h2 q => ?_)
      obtain ⟨rfl, F2, S2, k2⟩ := q
      exact wp_rt ⟨rfl, Y1.folk (fun k _ h9 => k2 k h9) (fun q h1 h2 h3 => S2.2 q (by omega)) F2, fun q hq => by rw [S2.2 q (by omega)]; exact u1 q hq, S2.1.trans u2⟩
    · have e0 : weN S = -6 := if_neg c
      rw [if_neg (show ¬ ¬ nI S.1.2.2 = (999 : Int32) from fun q => q (by rw [show S.1.2.2 = 999 by omega]; rfl))]
      exact cYr R ys e0.symm (Or.inr (Or.inr (Or.inr (Or.inr rfl))))
  · have c : S.1.2.2 < 999 := six_z e
    exact kS_good G ⟨wk_good G.1.1 (by omega), by show S.1.2.2 + 1 ≤ 999; omega⟩
def baN (S : St) : Int32 := if S.2.2.2.2.2.1.1 = 0 then -3 else 0
def bkS (S : St) : St := (S.2.2.2.2.2.1.2 (S.2.2.2.2.2.1.1 - 1), S.2.1, S.2.2.1, S.2.2.2.1, S.2.2.2.2.1, (S.2.2.2.2.2.1.1 - 1, S.2.2.2.2.2.1.2), S.2.2.2.2.2.2)
theorem ok_back : Ok (f_X6_back 0) (f_X7_back 110) := by
  refine Ok.c baN (fun S => nI (S.2.2.2.2.2.1.1 - 1)) bkS (fun h S xs gs => ?_) (fun h S R ys gs => ?_) fun S G e => ?_
  · have R := xs.1
    have h8 := gs.2.2.2.2.2.1
    unfold f_X6_back
    refine wp_eq (g0_5 R) (wp_eq g44_0 ?_)
    rw [xs.2.2.2.2.2.2.1.1.1]
    by_cases c : S.2.2.2.2.2.1.1 = 0
    · have e0 : baN S = -3 := if_pos c
      rw [c, if_neg (show ¬ ¬ nI 0 = 0 from fun q => q rfl)]
      exact cXr xs e0.symm (Or.inr (Or.inr (Or.inl rfl)))
    · have e0 : baN S = 0 := if_neg c
      rw [if_pos (nI_ne0 (by omega) (by omega))]
      refine cXz e0 ?_
      obtain ⟨x0, x1, x2, x3, x4, x5, ⟨⟨p0, p8⟩, s, p1, p2, p3⟩, x7⟩ := xs
      refine wp_eq (g0_5 R) (wp_eq (x_gr0 R) (wp_bnd ?_))
      refine wp_eq (e_cv sh44) ?_
      unfold f_X3_takeBack
      refine wp_eq g44_0 ?_
      rw [p0, if_neg (show ¬ nI S.2.2.2.2.2.1.1 ≤ 0 from nI_ge (b := S.2.2.2.2.2.1.1) (a := 0) (by omega) (by omega))]
      refine wp_eq g44_0 ?_
      have q1 := p1.1 (S.2.2.2.2.2.1.1 - 1) (by omega)
      have f1 := p3 (S.2.2.2.2.2.1.1 - 1) (by omega)
      rw [p0, show (1 : Int32) = nI 1 from rfl, pk_sub (by omega)]
      have e4 : ∀ a, ¬ a = 44 → (setR h.1 44 (upd (h.1 44) 0 (nI (S.2.2.2.2.2.1.1 - 1))), h.2).1 a = h.1 a := fun a ha => by dsimp only; rw [set_ne _ _ ha]
      refine wp_eq p44_0 (wp_eq (gr44 (by exact R)) (wp_eq g44_0 ?_))
      rw [show (setR h.1 44 (upd (h.1 44) 0 (nI (S.2.2.2.2.2.1.1 - 1))), h.2).1 44 0 = nI (S.2.2.2.2.2.1.1 - 1) by dsimp only; rw [set_eq, upd_eq]]
      refine wp_eq (e_bnd (e_aR sh45 (by omega) (by omega) (p2 _ (by omega)))) (wp_eq (bC (FB.of (by exact R) (b := 2) (by decide))) ?_)
      refine wp_bnd (wp_mono (X0_copyFrom (FB.of (by exact R) (b := 2) (by decide)) (FB.past (by exact R) q1) (f1.fr fun a h1 h2 => e4 a (by omega)) (by omega)) fun _ h1 z => ?_)
      obtain ⟨F1, S1⟩ := z
      have so : ∀ a, ¬ (2 ≤ a ∧ a ≤ 8) → h1.1 a = (setR h.1 44 (upd (h.1 44) 0 (nI (S.2.2.2.2.2.1.1 - 1))), h.2).1 a := S1.2
      refine wp_eq g44_0 (wp_rt (wp_rt ⟨?_, ?_, fun q hq => by rw [so q (by omega), e4 q (by omega)]⟩))
      · rw [so 44 (by omega)]
        dsimp only
        rw [set_eq, upd_eq]
      · refine ⟨by rw [S1.1]; exact x0, F1, x2.fr (by rw [so 10 (by omega), e4 10 (by omega)]) (by rw [so 11 (by omega), e4 11 (by omega)]), x3.fr (by rw [so 0 (by omega), e4 0 (by omega)]) (by rw [so 104 (by omega), e4 104 (by omega)]), x4.fr (by rw [so 102 (by omega), e4 102 (by omega)]) (by rw [so 103 (by omega), e4 103 (by omega)]), x5.fr (by rw [so 0 (by omega), e4 0 (by omega)]) (fun a h1 h2 => by rw [so a (by omega), e4 a (by omega)]), ⟨⟨?_, by show S.2.2.2.2.2.1.1 - 1 ≤ 8; omega⟩, s, p1, fun i hi => by rw [S1.1]; exact p2 i hi, fun i hi => ?_⟩, fun k hk => by rw [so 105 (by omega), e4 105 (by omega)]; exact x7 k hk⟩
        · rw [so 44 (by omega)]
          dsimp only
          rw [set_eq, upd_eq]
          rfl
        · have hi : i < S.2.2.2.2.2.1.1 - 1 := hi
          have si := p1.1 i (by omega)
          exact (p3 i (by omega)).fr fun a h1 h2 => by rw [so a (by omega), e4 a (by omega)]
  · have h8 := gs.2.2.2.2.2.1
    unfold f_X7_back
    refine wp_eq g110_21 ?_
    rw [ys.2.2.2.2.2.1.1]
    by_cases c : S.2.2.2.2.2.1.1 = 0
    · have e0 : baN S = -3 := if_pos c
      rw [c, if_neg (show ¬ ¬ nI 0 = 0 from fun q => q rfl)]
      exact cYr R ys e0.symm (Or.inr (Or.inr (Or.inl rfl)))
    · have e0 : baN S = 0 := if_neg c
      rw [if_pos (nI_ne0 (by omega) (by omega))]
      refine cYz e0 ?_
      obtain ⟨y1, y2, y3, y4, y5, ⟨p0, p1⟩, y7⟩ := ys
      refine wp_eq g110_21 ?_
      rw [p0, show (1 : Int32) = nI 1 from rfl, pk_sub (by omega)]
      have e4 : ∀ a, ¬ a = 110 → (setR h.1 110 (upd (h.1 110) 21 (nI (S.2.2.2.2.2.1.1 - 1))), h.2).1 a = h.1 a := fun a ha => by dsimp only; rw [set_ne _ _ ha]
      have e5 : ∀ k, ¬ k = 21 → (setR h.1 110 (upd (h.1 110) 21 (nI (S.2.2.2.2.2.1.1 - 1))), h.2).1 110 k = h.1 110 k := fun k hk => by dsimp only; rw [set_eq, upd_ne _ _ hk]
      have e6 : (setR h.1 110 (upd (h.1 110) 21 (nI (S.2.2.2.2.2.1.1 - 1))), h.2).1 110 21 = nI (S.2.2.2.2.2.1.1 - 1) := by dsimp only; rw [set_eq, upd_eq]
      refine wp_eq p110_21 (wp_eq g110_21 ?_)
      rw [e6, show (3 : Int32) = nI 3 from rfl, nI_add]
      refine wp_bnd (wp_mono (X7_passesAllR (w := 3 + (S.2.2.2.2.2.1.1 - 1)) (by exact R) (by omega)) fun _ h2 q => ?_)
      obtain ⟨K, k1, S2, k2⟩ := q
      have s2 : ∀ a, ¬ (a = 110 ∨ (112 ≤ a ∧ a ≤ 118)) → h2.1 a = (setR h.1 110 (upd (h.1 110) 21 (nI (S.2.2.2.2.2.1.1 - 1))), h.2).1 a := S2.2
      rw [e4 123 (by omega)] at K k1
      obtain ⟨F, T⟩ := K.get (p1 (S.2.2.2.2.2.1.1 - 1) (by omega))
      have c2 : ∀ k, ¬ k = 8 → ¬ k = 9 → ¬ k = 19 → ¬ k = 20 → ¬ k = 21 → h2.1 110 k = h.1 110 k := fun k a1 a2 a3 a4 a5 => (k2 k a1 a2 a3 a4).trans (e5 k a5)
      refine wp_eq g110_21 (wp_rt ⟨?_, ⟨F, T, y3.fr (c2 _ (by omega) (by omega) (by omega) (by omega) (by omega)) (by rw [s2 126 (by omega), e4 126 (by omega)]), y4.fr (c2 _ (by omega) (by omega) (by omega) (by omega) (by omega)) (by rw [s2 119 (by omega), e4 119 (by omega)]), y5.fr (c2 _ (by omega) (by omega) (by omega) (by omega) (by omega)) (fun j _ => by rw [k1]), ⟨?_, fun i hi => ?_⟩, fun k hk => by rw [s2 111 (by omega), e4 111 (by omega)]; exact y7 k hk⟩, fun q hq => by rw [s2 q (by omega), e4 q (by omega)], S2.1⟩)
      · rw [k2 21 (by omega) (by omega) (by omega) (by omega), e6]
      · rw [k2 21 (by omega) (by omega) (by omega) (by omega), e6]
        rfl
      · have hi : i < S.2.2.2.2.2.1.1 - 1 := hi
        rw [k1]
        exact p1 i (by omega)
  · have c : ¬ S.2.2.2.2.2.1.1 = 0 := fun q => by
      unfold baN at e
      rw [if_pos q] at e
      exact absurd e (by decide)
    have h8 := G.2.2.2.2.2.1
    exact ⟨G.2.2.2.2.2.2 _ (by omega), G.2.1, G.2.2.1, G.2.2.2.1, G.2.2.2.2.1, by show S.2.2.2.2.2.1.1 - 1 ≤ 8; omega, fun i hi => G.2.2.2.2.2.2 i (by have hi : i < S.2.2.2.2.2.1.1 - 1 := hi; omega)⟩
