def f_X6_honest (a0 : Nat) (a1 : Int32) : M Int32 := bnd (f_X6_noChoice a1 (2 : Int32)) fun t1 => if t1 = (0 : Int32) then bnd (gR 5 0 a0) fun r3 => bnd (gR 4 0 r3) fun r4 => bnd (gI 0 0 r4) fun t5 => if (2 : Int32) ≤ t5 then loopK NF (fun (s6 : Int32 × Int32) k7 => bnd (gR 5 0 a0) fun r8 => bnd (gR 4 0 r8) fun r9 => bnd (gI 0 0 r9) fun t10 => if t10 ≤ s6.2 then if ¬ a1 = (0 : Int32) then bnd (gR 5 0 a0) fun r11 => bnd (gR 4 0 r11) fun r12 => bnd (cv 0 r12 (f_X0_untruth r12 s6.1)) fun t13 => rt t13 else rt s6.1 else bnd (gR 5 0 a0) fun r15 => bnd (gR 4 0 r15) fun r16 => bnd (cv 0 r16 (f_X0_untruth r16 s6.2)) fun t17 => bnd (gR 5 0 a0) fun r19 => bnd (gR 4 0 r19) fun r20 => bnd (cv 0 r20 (f_X0_untruth r20 s6.1)) fun t21 => if t21 ≤ t17 then k7 (s6.1, (s6.2 + (1 : Int32))) else k7 (s6.2, (s6.2 + (1 : Int32)))) ((0 : Int32), (1 : Int32)) else rt (-9 : Int32) else bnd (cv 5 a0 (f_X6_refuse a0 t1)) fun t23 => rt t23
set_option maxRecDepth 20000 in
theorem s_X6_honest (a0 : Nat) (a1 : Int32) : Sm eX6_honest [.ref a0, .int a1] eI (f_X6_honest a0 a1) := by
  intro hp vr hr H
  unfold f_X6_honest at H
  show Rn none 0 0 eX6_honest 0 [some (.ref a0), some (.int a1), none, none, none] [] hp (eI vr, hr)
  refine r_iln rfl rfl rfl ?_
  refine r_ic (v := 2) rfl ci_2 ?_
  refine r_stI (rest := []) H rfl rfl (s_X6_noChoice a1 (2 : Int32)) rfl rfl ⟨rfl, rfl⟩ rfl (fun t1 h2 H => ?_)
  refine r_isn (L' := [some (.ref a0), some (.int a1), some (.int t1), none, none]) rfl rfl (Nat.le_of_ble_eq_true rfl) rfl ?_
  refine r_iln rfl rfl rfl ?_
  refine r_if H rfl rfl (fun H => ?_) (fun H => ?_)
  · refine r_aln rfl rfl rfl ?_
    refine r_gR H rfl kd_5_0 (fun r3 H => ?_)
    refine r_gR H rfl kd_4_0 (fun r4 H => ?_)
    refine r_gI' H rfl kl_0_0 (fun t5 H => ?_)
    refine r_ic (v := 2) rfl ci_2 ?_
    refine r_cmp H rfl rfl (fun H => ?_) (fun H => ?_)
    · refine r_ic (v := 0) rfl ci_0 ?_
      refine r_isn (L' := [some (.ref a0), some (.int a1), some (.int t1), some (.int (0 : Int32)), none]) rfl rfl (Nat.le_of_ble_eq_true rfl) rfl ?_
      refine r_ic (v := 1) rfl ci_1 ?_
      refine r_is (L' := [some (.ref a0), some (.int a1), some (.int t1), some (.int (0 : Int32)), some (.int (1 : Int32))]) rfl (Nat.le_of_ble_eq_true rfl) rfl ?_
      refine (r_loop (P := (fun (s6 : Int32 × Int32) hq => ∀ ys6_0 : Int32, ∀ ys6_1 : Int32, s6 = (ys6_0, ys6_1) → Rn none 0 0 eX6_honest 22 [some (.ref a0), some (.int a1), some (.int t1), some (.int ys6_0), some (.int ys6_1)] [] hq (eI vr, hr))) ?_ NF _ _ H) _ _ rfl
      intro k7 K7 s6 hs6 H ys6_0 ys6_1 es6 
      subst es6
      refine r_il rfl rfl ?_
      refine r_aln rfl rfl rfl ?_
      refine r_gR H rfl kd_5_0 (fun r8 H => ?_)
      refine r_gR H rfl kd_4_0 (fun r9 H => ?_)
      refine r_gI' H rfl kl_0_0 (fun t10 H => ?_)
      refine r_cmp H rfl rfl (fun H => ?_) (fun H => ?_)
      · refine r_iln rfl rfl rfl ?_
        refine r_if H rfl rfl (fun H => ?_) (fun H => ?_)
        · refine r_aln rfl rfl rfl ?_
          refine r_gR H rfl kd_5_0 (fun r11 H => ?_)
          refine r_gR H rfl kd_4_0 (fun r12 H => ?_)
          refine r_iln rfl rfl rfl ?_
          refine r_vtI (rest := []) H rfl rfl rfl (s_X0_untruth r12 ys6_0) rfl rfl ⟨rfl, rfl⟩ rfl (fun t13 h14 H => ?_)
          exact r_reti H rfl rfl ⟨Nat.zero_le _, Nat.zero_le _⟩
        · refine r_iln rfl rfl rfl ?_
          refine r_go rfl ?_
          exact r_reti H rfl rfl ⟨Nat.zero_le _, Nat.zero_le _⟩
      · refine r_aln rfl rfl rfl ?_
        refine r_gR H rfl kd_5_0 (fun r15 H => ?_)
        refine r_gR H rfl kd_4_0 (fun r16 H => ?_)
        refine r_il rfl rfl ?_
        refine r_vtI (rest := []) H rfl rfl rfl (s_X0_untruth r16 ys6_1) rfl rfl ⟨rfl, rfl⟩ rfl (fun t17 h18 H => ?_)
        refine r_aln rfl rfl rfl ?_
        refine r_gR H rfl kd_5_0 (fun r19 H => ?_)
        refine r_gR H rfl kd_4_0 (fun r20 H => ?_)
        refine r_iln rfl rfl rfl ?_
        refine r_vtI (rest := [.int t17]) H rfl rfl rfl (s_X0_untruth r20 ys6_0) rfl rfl ⟨rfl, rfl⟩ rfl (fun t21 h22 H => ?_)
        refine r_cmp H rfl rfl (fun H => ?_) (fun H => ?_)
        · refine r_inc (v := 1) (L' := [some (.ref a0), some (.int a1), some (.int t1), some (.int ys6_0), some (.int (ys6_1 + (1 : Int32)))]) rfl rfl ci_1 rfl ?_
          refine r_go rfl ?_
          have q := K7 _ _ H _ _ rfl
          exact q
        · refine r_il rfl rfl ?_
          refine r_isn (L' := [some (.ref a0), some (.int a1), some (.int t1), some (.int ys6_1), some (.int ys6_1)]) rfl rfl (Nat.le_of_ble_eq_true rfl) rfl ?_
          refine r_inc (v := 1) (L' := [some (.ref a0), some (.int a1), some (.int t1), some (.int ys6_1), some (.int (ys6_1 + (1 : Int32)))]) rfl rfl ci_1 rfl ?_
          refine r_go rfl ?_
          have q := K7 _ _ H _ _ rfl
          exact q
    · refine r_bi (v := -9) rfl cb_m9 ?_
      exact r_reti H rfl rfl ⟨Nat.zero_le _, Nat.zero_le _⟩
  · refine r_aln rfl rfl rfl ?_
    refine r_iln rfl rfl rfl ?_
    refine r_vtI (rest := []) H rfl rfl rfl (s_X6_refuse a0 t1) rfl rfl ⟨rfl, rfl⟩ rfl (fun t23 h24 H => ?_)
    exact r_reti H rfl rfl ⟨Nat.zero_le _, Nat.zero_le _⟩
def f_X6_chain (a0 : Nat) (a1 : Int32) (a2 : Int32) : M Int32 := bnd (cv 5 a0 (f_X6_noTwo a0 a1 a2)) fun t1 => if t1 = (0 : Int32) then bnd (gR 5 0 a0) fun r3 => bnd (gR 4 0 r3) fun r4 => bnd (gR 0 7 r4) fun r5 => bnd (f_X2_distance r5 a1 a2) fun t6 => rt t6 else bnd (cv 5 a0 (f_X6_refuse a0 t1)) fun t8 => rt t8
set_option maxRecDepth 20000 in
theorem s_X6_chain (a0 : Nat) (a1 : Int32) (a2 : Int32) : Sm eX6_chain [.ref a0, .int a1, .int a2] eI (f_X6_chain a0 a1 a2) := by
  intro hp vr hr H
  unfold f_X6_chain at H
  show Rn none 0 0 eX6_chain 0 [some (.ref a0), some (.int a1), some (.int a2), none] [] hp (eI vr, hr)
  refine r_aln rfl rfl rfl ?_
  refine r_iln rfl rfl rfl ?_
  refine r_iln rfl rfl rfl ?_
  refine r_vtI (rest := []) H rfl rfl rfl (s_X6_noTwo a0 a1 a2) rfl rfl ⟨rfl, rfl⟩ rfl (fun t1 h2 H => ?_)
  refine r_isn (L' := [some (.ref a0), some (.int a1), some (.int a2), some (.int t1)]) rfl rfl (Nat.le_of_ble_eq_true rfl) rfl ?_
  refine r_iln rfl rfl rfl ?_
  refine r_if H rfl rfl (fun H => ?_) (fun H => ?_)
  · refine r_aln rfl rfl rfl ?_
    refine r_gR H rfl kd_5_0 (fun r3 H => ?_)
    refine r_gR H rfl kd_4_0 (fun r4 H => ?_)
    refine r_gR H rfl kd_0_7 (fun r5 H => ?_)
    refine r_iln rfl rfl rfl ?_
    refine r_iln rfl rfl rfl ?_
    refine r_stI (rest := []) H rfl rfl (s_X2_distance r5 a1 a2) rfl rfl ⟨rfl, rfl⟩ rfl (fun t6 h7 H => ?_)
    exact r_reti H rfl rfl ⟨Nat.zero_le _, Nat.zero_le _⟩
  · refine r_aln rfl rfl rfl ?_
    refine r_iln rfl rfl rfl ?_
    refine r_vtI (rest := []) H rfl rfl rfl (s_X6_refuse a0 t1) rfl rfl ⟨rfl, rfl⟩ rfl (fun t8 h9 H => ?_)
    refine r_go rfl ?_
    exact r_reti H rfl rfl ⟨Nat.zero_le _, Nat.zero_le _⟩
def f_X6_clique (a0 : Nat) : M Int32 := bnd (gR 5 0 a0) fun r1 => bnd (gR 4 0 r1) fun r2 => bnd (cv 0 r2 (f_X0_everybody r2)) fun t3 => loopK NF (fun (s5 : Int32 × Int32) k6 => if t3 < s5.2 then rt s5.1 else bnd (gR 5 0 a0) fun r7 => bnd (gR 4 0 r7) fun r8 => bnd (cv 0 r8 (f_X0_allAskEachOther r8 s5.2)) fun t9 => if t9 = (0 : Int32) then k6 (s5.1, (s5.2 + (1 : Int32))) else bnd (f_J6_bitCount_0f7a4 s5.2) fun t11 => bnd (f_J6_bitCount_0f7a4 s5.1) fun t13 => if t11 ≤ t13 then k6 (s5.1, (s5.2 + (1 : Int32))) else k6 (s5.2, (s5.2 + (1 : Int32)))) ((0 : Int32), (1 : Int32))
set_option maxRecDepth 20000 in
theorem s_X6_clique (a0 : Nat) : Sm eX6_clique [.ref a0] eI (f_X6_clique a0) := by
  intro hp vr hr H
  unfold f_X6_clique at H
  show Rn none 0 0 eX6_clique 0 [some (.ref a0), none, none, none] [] hp (eI vr, hr)
  refine r_ic (v := 0) rfl ci_0 ?_
  refine r_isn (L' := [some (.ref a0), some (.int (0 : Int32)), none, none]) rfl rfl (Nat.le_of_ble_eq_true rfl) rfl ?_
  refine r_aln rfl rfl rfl ?_
  refine r_gR H rfl kd_5_0 (fun r1 H => ?_)
  refine r_gR H rfl kd_4_0 (fun r2 H => ?_)
  refine r_vtI (rest := []) H rfl rfl rfl (s_X0_everybody r2) rfl rfl ⟨rfl, rfl⟩ rfl (fun t3 h4 H => ?_)
  refine r_isn (L' := [some (.ref a0), some (.int (0 : Int32)), some (.int t3), none]) rfl rfl (Nat.le_of_ble_eq_true rfl) rfl ?_
  refine r_ic (v := 1) rfl ci_1 ?_
  refine r_isn (L' := [some (.ref a0), some (.int (0 : Int32)), some (.int t3), some (.int (1 : Int32))]) rfl rfl (Nat.le_of_ble_eq_true rfl) rfl ?_
  refine (r_loop (P := (fun (s5 : Int32 × Int32) hq => ∀ ys5_0 : Int32, ∀ ys5_1 : Int32, s5 = (ys5_0, ys5_1) → Rn none 0 0 eX6_clique 9 [some (.ref a0), some (.int ys5_0), some (.int t3), some (.int ys5_1)] [] hq (eI vr, hr))) ?_ NF _ _ H) _ _ rfl
  intro k6 K6 s5 hs5 H ys5_0 ys5_1 es5 
  subst es5
  refine r_iln rfl rfl rfl ?_
  refine r_iln rfl rfl rfl ?_
  refine r_cmp H rfl rfl (fun H => ?_) (fun H => ?_)
  · refine r_iln rfl rfl rfl ?_
    exact r_reti H rfl rfl ⟨Nat.zero_le _, Nat.zero_le _⟩
  · refine r_aln rfl rfl rfl ?_
    refine r_gR H rfl kd_5_0 (fun r7 H => ?_)
    refine r_gR H rfl kd_4_0 (fun r8 H => ?_)
    refine r_iln rfl rfl rfl ?_
    refine r_vtI (rest := []) H rfl rfl rfl (s_X0_allAskEachOther r8 ys5_1) rfl rfl ⟨rfl, rfl⟩ rfl (fun t9 h10 H => ?_)
    refine r_if H rfl rfl (fun H => ?_) (fun H => ?_)
    · refine r_inc (v := 1) (L' := [some (.ref a0), some (.int ys5_0), some (.int t3), some (.int (ys5_1 + (1 : Int32)))]) rfl rfl ci_1 rfl ?_
      refine r_go rfl ?_
      have q := K6 _ _ H _ _ rfl
      exact q
    · refine r_iln rfl rfl rfl ?_
      refine r_stI (rest := []) H rfl rfl (s_J6_bitCount_0f7a4 ys5_1) rfl rfl ⟨rfl, rfl⟩ rfl (fun t11 h12 H => ?_)
      refine r_iln rfl rfl rfl ?_
      refine r_stI (rest := [.int t11]) H rfl rfl (s_J6_bitCount_0f7a4 ys5_0) rfl rfl ⟨rfl, rfl⟩ rfl (fun t13 h14 H => ?_)
      refine r_cmp H rfl rfl (fun H => ?_) (fun H => ?_)
      · refine r_inc (v := 1) (L' := [some (.ref a0), some (.int ys5_0), some (.int t3), some (.int (ys5_1 + (1 : Int32)))]) rfl rfl ci_1 rfl ?_
        refine r_go rfl ?_
        have q := K6 _ _ H _ _ rfl
        exact q
      · refine r_iln rfl rfl rfl ?_
        refine r_isn (L' := [some (.ref a0), some (.int ys5_1), some (.int t3), some (.int ys5_1)]) rfl rfl (Nat.le_of_ble_eq_true rfl) rfl ?_
        refine r_inc (v := 1) (L' := [some (.ref a0), some (.int ys5_1), some (.int t3), some (.int (ys5_1 + (1 : Int32)))]) rfl rfl ci_1 rfl ?_
        refine r_go rfl ?_
        have q := K6 _ _ H _ _ rfl
        exact q
def f_X6_cut (a0 : Nat) (a1 : Int32) (a2 : Int32) : M Int32 := bnd (cv 5 a0 (f_X6_noTwo a0 a1 a2)) fun t1 => if t1 = (0 : Int32) then bnd (gR 5 0 a0) fun r3 => bnd (gR 4 0 r3) fun r4 => bnd (gR 0 7 r4) fun r5 => bnd (aI r5 a1) fun t6 => bnd (f_X6_holds t6 a2) fun t7 => if t7 = (0 : Int32) then bnd (cv 0 r4 (f_X0_others r4 a1)) fun t9 => loopK NF (fun (s11 : Int32 × Int32) k12 => if (t9 &&& (((1 : Int32) <<< (a2 &&& (31 : Int32))) ^^^ (-1 : Int32))) < s11.2 then rt s11.1 else jn (fun k15 => if ¬ (s11.2 &&& ((t9 &&& (((1 : Int32) <<< (a2 &&& (31 : Int32))) ^^^ (-1 : Int32))) ^^^ (-1 : Int32))) = (0 : Int32) then k15 (0 : Int32) else bnd (gR 0 7 r4) fun r18 => bnd (f_X2_reach r18 ((1 : Int32) <<< (a1 &&& (31 : Int32))) (s11.2 ^^^ (-1 : Int32))) fun t19 => bnd (f_X6_holds t19 a2) fun t21 => if ¬ t21 = (0 : Int32) then k15 (0 : Int32) else k15 (1 : Int32)) (fun (s14 : Int32) => if s14 = (0 : Int32) then k12 (s11.1, (s11.2 + (1 : Int32))) else if s11.1 = (-9 : Int32) then k12 (s11.2, (s11.2 + (1 : Int32))) else bnd (f_X6_fewer s11.2 s11.1) fun t16 => if t16 = (0 : Int32) then k12 (s11.1, (s11.2 + (1 : Int32))) else k12 (s11.2, (s11.2 + (1 : Int32))))) ((-9 : Int32), (0 : Int32)) else rt (-9 : Int32) else bnd (cv 5 a0 (f_X6_refuse a0 t1)) fun t23 => rt t23
set_option maxRecDepth 20000 in
theorem s_X6_cut (a0 : Nat) (a1 : Int32) (a2 : Int32) : Sm eX6_cut [.ref a0, .int a1, .int a2] eI (f_X6_cut a0 a1 a2) := by
  intro hp vr hr H
  unfold f_X6_cut at H
  show Rn none 0 0 eX6_cut 0 [some (.ref a0), some (.int a1), some (.int a2), none, none, none, none, none, none] [] hp (eI vr, hr)
  refine r_aln rfl rfl rfl ?_
  refine r_iln rfl rfl rfl ?_
  refine r_iln rfl rfl rfl ?_
  refine r_vtI (rest := []) H rfl rfl rfl (s_X6_noTwo a0 a1 a2) rfl rfl ⟨rfl, rfl⟩ rfl (fun t1 h2 H => ?_)
  refine r_isn (L' := [some (.ref a0), some (.int a1), some (.int a2), some (.int t1), none, none, none, none, none]) rfl rfl (Nat.le_of_ble_eq_true rfl) rfl ?_
  refine r_iln rfl rfl rfl ?_
  refine r_if H rfl rfl (fun H => ?_) (fun H => ?_)
  · refine r_aln rfl rfl rfl ?_
    refine r_gR H rfl kd_5_0 (fun r3 H => ?_)
    refine r_gR H rfl kd_4_0 (fun r4 H => ?_)
    refine r_as (L' := [some (.ref a0), some (.int a1), some (.int a2), some (.int t1), some (.ref r4), none, none, none, none]) rfl (Nat.le_of_ble_eq_true rfl) rfl ?_
    refine r_al rfl rfl ?_
    refine r_gR H rfl kd_0_7 (fun r5 H => ?_)
    refine r_iln rfl rfl rfl ?_
    refine r_aI' H rfl (fun t6 H => ?_)
    refine r_iln rfl rfl rfl ?_
    refine r_stI (rest := []) H rfl rfl (s_X6_holds t6 a2) rfl rfl ⟨rfl, rfl⟩ rfl (fun t7 h8 H => ?_)
    refine r_if H rfl rfl (fun H => ?_) (fun H => ?_)
    · refine r_bi (v := -9) rfl cb_m9 ?_
      refine r_is (L' := [some (.ref a0), some (.int a1), some (.int a2), some (.int t1), some (.ref r4), some (.int (-9 : Int32)), none, none, none]) rfl (Nat.le_of_ble_eq_true rfl) rfl ?_
      refine r_al rfl rfl ?_
      refine r_iln rfl rfl rfl ?_
      refine r_vtI (rest := []) H rfl rfl rfl (s_X0_others r4 a1) rfl rfl ⟨rfl, rfl⟩ rfl (fun t9 h10 H => ?_)
      refine r_ic (v := 1) rfl ci_1 ?_
      refine r_iln rfl rfl rfl ?_
      refine r_shl rfl ?_
      refine r_ic (v := -1) rfl ci_m1 ?_
      refine r_xor rfl ?_
      refine r_and rfl ?_
      refine r_is (L' := [some (.ref a0), some (.int a1), some (.int a2), some (.int t1), some (.ref r4), some (.int (-9 : Int32)), some (.int (t9 &&& (((1 : Int32) <<< (a2 &&& (31 : Int32))) ^^^ (-1 : Int32)))), none, none]) rfl (Nat.le_of_ble_eq_true rfl) rfl ?_
      refine r_ic (v := 0) rfl ci_0 ?_
      refine r_is (L' := [some (.ref a0), some (.int a1), some (.int a2), some (.int t1), some (.ref r4), some (.int (-9 : Int32)), some (.int (t9 &&& (((1 : Int32) <<< (a2 &&& (31 : Int32))) ^^^ (-1 : Int32)))), some (.int (0 : Int32)), none]) rfl (Nat.le_of_ble_eq_true rfl) rfl ?_
      refine (r_loop (P := (fun (s11 : Int32 × Int32) hq => ∀ ys11_0 : Int32, ∀ ys11_1 : Int32, s11 = (ys11_0, ys11_1) → ∀ x13 : Option Value, Rn none 0 0 eX6_cut 38 [some (.ref a0), some (.int a1), some (.int a2), some (.int t1), some (.ref r4), some (.int ys11_0), some (.int (t9 &&& (((1 : Int32) <<< (a2 &&& (31 : Int32))) ^^^ (-1 : Int32)))), some (.int ys11_1), x13] [] hq (eI vr, hr))) ?_ NF _ _ H) _ _ rfl _
      intro k12 K12 s11 hs11 H ys11_0 ys11_1 es11 x13
      subst es11
      refine r_il rfl rfl ?_
      refine r_il rfl rfl ?_
      refine r_cmp H rfl rfl (fun H => ?_) (fun H => ?_)
      · refine r_il rfl rfl ?_
        exact r_reti H rfl rfl ⟨Nat.zero_le _, Nat.zero_le _⟩
      · refine r_il rfl rfl ?_
        refine r_il rfl rfl ?_
        refine r_ic (v := -1) rfl ci_m1 ?_
        refine r_xor rfl ?_
        refine r_and rfl ?_
        refine r_jn (P := (fun (s14 : Int32) hq => Rn none 0 0 eX6_cut 62 [some (.ref a0), some (.int a1), some (.int a2), some (.int t1), some (.ref r4), some (.int ys11_0), some (.int (t9 &&& (((1 : Int32) <<< (a2 &&& (31 : Int32))) ^^^ (-1 : Int32)))), some (.int ys11_1), x13] [.int s14] hq (eI vr, hr))) H (fun s14 hs14 H  => ?_) (fun k15 K15 H => ?_)
        · refine r_is (L' := [some (.ref a0), some (.int a1), some (.int a2), some (.int t1), some (.ref r4), some (.int ys11_0), some (.int (t9 &&& (((1 : Int32) <<< (a2 &&& (31 : Int32))) ^^^ (-1 : Int32)))), some (.int ys11_1), some (.int s14)]) rfl (Nat.le_of_ble_eq_true rfl) rfl ?_
          refine r_il rfl rfl ?_
          refine r_if H rfl rfl (fun H => ?_) (fun H => ?_)
          · refine r_inc (v := 1) (L' := [some (.ref a0), some (.int a1), some (.int a2), some (.int t1), some (.ref r4), some (.int ys11_0), some (.int (t9 &&& (((1 : Int32) <<< (a2 &&& (31 : Int32))) ^^^ (-1 : Int32)))), some (.int (ys11_1 + (1 : Int32))), some (.int s14)]) rfl rfl ci_1 rfl ?_
            refine r_go rfl ?_
            have q := K12 _ _ H _ _ rfl
            exact q _
          · refine r_il rfl rfl ?_
            refine r_bi (v := -9) rfl cb_m9 ?_
            refine r_cmp H rfl rfl (fun H => ?_) (fun H => ?_)
            · refine r_il rfl rfl ?_
              refine r_is (L' := [some (.ref a0), some (.int a1), some (.int a2), some (.int t1), some (.ref r4), some (.int ys11_1), some (.int (t9 &&& (((1 : Int32) <<< (a2 &&& (31 : Int32))) ^^^ (-1 : Int32)))), some (.int ys11_1), some (.int s14)]) rfl (Nat.le_of_ble_eq_true rfl) rfl ?_
              refine r_inc (v := 1) (L' := [some (.ref a0), some (.int a1), some (.int a2), some (.int t1), some (.ref r4), some (.int ys11_1), some (.int (t9 &&& (((1 : Int32) <<< (a2 &&& (31 : Int32))) ^^^ (-1 : Int32)))), some (.int (ys11_1 + (1 : Int32))), some (.int s14)]) rfl rfl ci_1 rfl ?_
              refine r_go rfl ?_
              have q := K12 _ _ H _ _ rfl
              exact q _
            · refine r_il rfl rfl ?_
              refine r_il rfl rfl ?_
              refine r_stI (rest := []) H rfl rfl (s_X6_fewer ys11_1 ys11_0) rfl rfl ⟨rfl, rfl⟩ rfl (fun t16 h17 H => ?_)
              refine r_if H rfl rfl (fun H => ?_) (fun H => ?_)
              · refine r_inc (v := 1) (L' := [some (.ref a0), some (.int a1), some (.int a2), some (.int t1), some (.ref r4), some (.int ys11_0), some (.int (t9 &&& (((1 : Int32) <<< (a2 &&& (31 : Int32))) ^^^ (-1 : Int32)))), some (.int (ys11_1 + (1 : Int32))), some (.int s14)]) rfl rfl ci_1 rfl ?_
                refine r_go rfl ?_
                have q := K12 _ _ H _ _ rfl
                exact q _
              · refine r_il rfl rfl ?_
                refine r_is (L' := [some (.ref a0), some (.int a1), some (.int a2), some (.int t1), some (.ref r4), some (.int ys11_1), some (.int (t9 &&& (((1 : Int32) <<< (a2 &&& (31 : Int32))) ^^^ (-1 : Int32)))), some (.int ys11_1), some (.int s14)]) rfl (Nat.le_of_ble_eq_true rfl) rfl ?_
                refine r_inc (v := 1) (L' := [some (.ref a0), some (.int a1), some (.int a2), some (.int t1), some (.ref r4), some (.int ys11_1), some (.int (t9 &&& (((1 : Int32) <<< (a2 &&& (31 : Int32))) ^^^ (-1 : Int32)))), some (.int (ys11_1 + (1 : Int32))), some (.int s14)]) rfl rfl ci_1 rfl ?_
                refine r_go rfl ?_
                have q := K12 _ _ H _ _ rfl
                exact q _
        · refine r_if H rfl rfl (fun H => ?_) (fun H => ?_)
          · refine r_ic (v := 0) rfl ci_0 ?_
            have q := K15 _ _ H
            exact q
          · refine r_al rfl rfl ?_
            refine r_gR H rfl kd_0_7 (fun r18 H => ?_)
            refine r_ic (v := 1) rfl ci_1 ?_
            refine r_iln rfl rfl rfl ?_
            refine r_shl rfl ?_
            refine r_il rfl rfl ?_
            refine r_ic (v := -1) rfl ci_m1 ?_
            refine r_xor rfl ?_
            refine r_stI (rest := []) H rfl rfl (s_X2_reach r18 ((1 : Int32) <<< (a1 &&& (31 : Int32))) (ys11_1 ^^^ (-1 : Int32))) rfl rfl ⟨rfl, rfl⟩ rfl (fun t19 h20 H => ?_)
            refine r_iln rfl rfl rfl ?_
            refine r_stI (rest := []) H rfl rfl (s_X6_holds t19 a2) rfl rfl ⟨rfl, rfl⟩ rfl (fun t21 h22 H => ?_)
            refine r_if H rfl rfl (fun H => ?_) (fun H => ?_)
            · refine r_ic (v := 0) rfl ci_0 ?_
              have q := K15 _ _ H
              exact q
            · refine r_ic (v := 1) rfl ci_1 ?_
              refine r_go rfl ?_
              have q := K15 _ _ H
              exact q
    · refine r_bi (v := -9) rfl cb_m9 ?_
      exact r_reti H rfl rfl ⟨Nat.zero_le _, Nat.zero_le _⟩
  · refine r_aln rfl rfl rfl ?_
    refine r_iln rfl rfl rfl ?_
    refine r_vtI (rest := []) H rfl rfl rfl (s_X6_refuse a0 t1) rfl rfl ⟨rfl, rfl⟩ rfl (fun t23 h24 H => ?_)
    exact r_reti H rfl rfl ⟨Nat.zero_le _, Nat.zero_le _⟩
def f_X6_wanted (a0 : Nat) (a1 : Int32) (a2 : Int32) : M Int32 := bnd (cv 5 a0 (f_X6_noPerson a0 a1)) fun t1 => bnd (f_X6_outside a2 (0 : Int32) (99 : Int32)) fun t3 => bnd (f_X6_first t1 t3) fun t5 => if t5 = (0 : Int32) then bnd (cv 5 a0 (f_X6_ahead a0 (0 : Int32))) fun t7 => loopK NF (fun (s9 : Int32) k10 => if (60 : Int32) < s9 then rt (-9 : Int32) else bnd (gR 0 6 t7) fun r11 => bnd (aI r11 a1) fun t12 => if t12 < a2 then bnd (cv 0 t7 (f_X0_passWeek t7)) fun t13 => k10 (s9 + (1 : Int32)) else rt s9) (0 : Int32) else bnd (cv 5 a0 (f_X6_refuse a0 t5)) fun t15 => rt t15
set_option maxRecDepth 20000 in
theorem s_X6_wanted (a0 : Nat) (a1 : Int32) (a2 : Int32) : Sm eX6_wanted [.ref a0, .int a1, .int a2] eI (f_X6_wanted a0 a1 a2) := by
  intro hp vr hr H
  unfold f_X6_wanted at H
  show Rn none 0 0 eX6_wanted 0 [some (.ref a0), some (.int a1), some (.int a2), none, none, none] [] hp (eI vr, hr)
  refine r_aln rfl rfl rfl ?_
  refine r_iln rfl rfl rfl ?_
  refine r_vtI (rest := []) H rfl rfl rfl (s_X6_noPerson a0 a1) rfl rfl ⟨rfl, rfl⟩ rfl (fun t1 h2 H => ?_)
  refine r_iln rfl rfl rfl ?_
  refine r_ic (v := 0) rfl ci_0 ?_
  refine r_bi (v := 99) rfl cb_99 ?_
  refine r_stI (rest := [.int t1]) H rfl rfl (s_X6_outside a2 (0 : Int32) (99 : Int32)) rfl rfl ⟨rfl, rfl⟩ rfl (fun t3 h4 H => ?_)
  refine r_stI (rest := []) H rfl rfl (s_X6_first t1 t3) rfl rfl ⟨rfl, rfl⟩ rfl (fun t5 h6 H => ?_)
  refine r_isn (L' := [some (.ref a0), some (.int a1), some (.int a2), some (.int t5), none, none]) rfl rfl (Nat.le_of_ble_eq_true rfl) rfl ?_
  refine r_iln rfl rfl rfl ?_
  refine r_if H rfl rfl (fun H => ?_) (fun H => ?_)
  · refine r_aln rfl rfl rfl ?_
    refine r_ic (v := 0) rfl ci_0 ?_
    refine r_vtR (rest := []) H rfl rfl rfl (s_X6_ahead a0 (0 : Int32)) rfl rfl ⟨rfl, rfl⟩ rfl (fun t7 h8 H => ?_)
    refine r_as (L' := [some (.ref a0), some (.int a1), some (.int a2), some (.int t5), some (.ref t7), none]) rfl (Nat.le_of_ble_eq_true rfl) rfl ?_
    refine r_ic (v := 0) rfl ci_0 ?_
    refine r_is (L' := [some (.ref a0), some (.int a1), some (.int a2), some (.int t5), some (.ref t7), some (.int (0 : Int32))]) rfl (Nat.le_of_ble_eq_true rfl) rfl ?_
    refine (r_loop (P := (fun (s9 : Int32) hq => Rn none 0 0 eX6_wanted 21 [some (.ref a0), some (.int a1), some (.int a2), some (.int t5), some (.ref t7), some (.int s9)] [] hq (eI vr, hr))) ?_ NF _ _ H)
    intro k10 K10 s9 hs9 H 
    refine r_il rfl rfl ?_
    refine r_bi (v := 60) rfl cb_60 ?_
    refine r_cmp H rfl rfl (fun H => ?_) (fun H => ?_)
    · refine r_bi (v := -9) rfl cb_m9 ?_
      exact r_reti H rfl rfl ⟨Nat.zero_le _, Nat.zero_le _⟩
    · refine r_al rfl rfl ?_
      refine r_gR H rfl kd_0_6 (fun r11 H => ?_)
      refine r_iln rfl rfl rfl ?_
      refine r_aI' H rfl (fun t12 H => ?_)
      refine r_iln rfl rfl rfl ?_
      refine r_cmp H rfl rfl (fun H => ?_) (fun H => ?_)
      · refine r_al rfl rfl ?_
        refine r_vtI (rest := []) H rfl rfl rfl (s_X0_passWeek t7) rfl rfl ⟨rfl, rfl⟩ rfl (fun t13 h14 H => ?_)
        refine r_popi rfl ?_
        refine r_inc (v := 1) (L' := [some (.ref a0), some (.int a1), some (.int a2), some (.int t5), some (.ref t7), some (.int (s9 + (1 : Int32)))]) rfl rfl ci_1 rfl ?_
        refine r_go rfl ?_
        have q := K10 _ _ H
        exact q
      · refine r_il rfl rfl ?_
        exact r_reti H rfl rfl ⟨Nat.zero_le _, Nat.zero_le _⟩
  · refine r_aln rfl rfl rfl ?_
    refine r_iln rfl rfl rfl ?_
    refine r_vtI (rest := []) H rfl rfl rfl (s_X6_refuse a0 t5) rfl rfl ⟨rfl, rfl⟩ rfl (fun t15 h16 H => ?_)
    exact r_reti H rfl rfl ⟨Nat.zero_le _, Nat.zero_le _⟩
def f_X6_panel (a0 : Nat) (a1 : Int32) (a2 : Int32) : M Int32 := bnd (cv 5 a0 (f_X6_noPerson a0 a1)) fun t1 => bnd (f_X6_outside a2 (1 : Int32) (6 : Int32)) fun t3 => bnd (f_X6_first t1 t3) fun t5 => if t5 = (0 : Int32) then bnd (gR 5 0 a0) fun r7 => bnd (gR 4 0 r7) fun r8 => bnd (cv 0 r8 (f_X0_others r8 a1)) fun t9 => loopK NF (fun (s11 : Int32 × Int32 × Int32) k12 => if t9 < s11.2.2 then rt s11.1 else if ¬ (s11.2.2 &&& (t9 ^^^ (-1 : Int32))) = (0 : Int32) then k12 (s11.1, s11.2.1, (s11.2.2 + (1 : Int32))) else bnd (f_J6_bitCount_0f7a4 s11.2.2) fun t14 => if t14 = a2 then bnd (gR 5 0 a0) fun r16 => bnd (gR 4 0 r16) fun r17 => bnd (gR 5 0 a0) fun r18 => bnd (gR 4 0 r18) fun r19 => bnd (gR 0 5 r19) fun r20 => bnd (aI r20 a1) fun t21 => bnd (cv 0 r17 (f_X0_mean r17 s11.2.2 t21)) fun t22 => if t22 ≤ s11.2.1 then k12 (s11.1, s11.2.1, (s11.2.2 + (1 : Int32))) else k12 (s11.2.2, t22, (s11.2.2 + (1 : Int32))) else k12 (s11.1, s11.2.1, (s11.2.2 + (1 : Int32)))) ((-9 : Int32), (-9 : Int32), (1 : Int32)) else bnd (cv 5 a0 (f_X6_refuse a0 t5)) fun t24 => rt t24
set_option maxRecDepth 20000 in
theorem s_X6_panel (a0 : Nat) (a1 : Int32) (a2 : Int32) : Sm eX6_panel [.ref a0, .int a1, .int a2] eI (f_X6_panel a0 a1 a2) := by
  intro hp vr hr H
  unfold f_X6_panel at H
  show Rn none 0 0 eX6_panel 0 [some (.ref a0), some (.int a1), some (.int a2), none, none, none, none, none, none] [] hp (eI vr, hr)
  refine r_aln rfl rfl rfl ?_
  refine r_iln rfl rfl rfl ?_
  refine r_vtI (rest := []) H rfl rfl rfl (s_X6_noPerson a0 a1) rfl rfl ⟨rfl, rfl⟩ rfl (fun t1 h2 H => ?_)
  refine r_iln rfl rfl rfl ?_
  refine r_ic (v := 1) rfl ci_1 ?_
  refine r_bi (v := 6) rfl cb_6 ?_
  refine r_stI (rest := [.int t1]) H rfl rfl (s_X6_outside a2 (1 : Int32) (6 : Int32)) rfl rfl ⟨rfl, rfl⟩ rfl (fun t3 h4 H => ?_)
  refine r_stI (rest := []) H rfl rfl (s_X6_first t1 t3) rfl rfl ⟨rfl, rfl⟩ rfl (fun t5 h6 H => ?_)
  refine r_isn (L' := [some (.ref a0), some (.int a1), some (.int a2), some (.int t5), none, none, none, none, none]) rfl rfl (Nat.le_of_ble_eq_true rfl) rfl ?_
  refine r_iln rfl rfl rfl ?_
  refine r_if H rfl rfl (fun H => ?_) (fun H => ?_)
  · refine r_bi (v := -9) rfl cb_m9 ?_
    refine r_is (L' := [some (.ref a0), some (.int a1), some (.int a2), some (.int t5), some (.int (-9 : Int32)), none, none, none, none]) rfl (Nat.le_of_ble_eq_true rfl) rfl ?_
    refine r_bi (v := -9) rfl cb_m9 ?_
    refine r_is (L' := [some (.ref a0), some (.int a1), some (.int a2), some (.int t5), some (.int (-9 : Int32)), some (.int (-9 : Int32)), none, none, none]) rfl (Nat.le_of_ble_eq_true rfl) rfl ?_
    refine r_aln rfl rfl rfl ?_
    refine r_gR H rfl kd_5_0 (fun r7 H => ?_)
    refine r_gR H rfl kd_4_0 (fun r8 H => ?_)
    refine r_iln rfl rfl rfl ?_
    refine r_vtI (rest := []) H rfl rfl rfl (s_X0_others r8 a1) rfl rfl ⟨rfl, rfl⟩ rfl (fun t9 h10 H => ?_)
    refine r_is (L' := [some (.ref a0), some (.int a1), some (.int a2), some (.int t5), some (.int (-9 : Int32)), some (.int (-9 : Int32)), some (.int t9), none, none]) rfl (Nat.le_of_ble_eq_true rfl) rfl ?_
    refine r_ic (v := 1) rfl ci_1 ?_
    refine r_is (L' := [some (.ref a0), some (.int a1), some (.int a2), some (.int t5), some (.int (-9 : Int32)), some (.int (-9 : Int32)), some (.int t9), some (.int (1 : Int32)), none]) rfl (Nat.le_of_ble_eq_true rfl) rfl ?_
    refine (r_loop (P := (fun (s11 : Int32 × Int32 × Int32) hq => ∀ ys11_0 : Int32, ∀ ys11_1 : Int32, ∀ ys11_2 : Int32, s11 = (ys11_0, ys11_1, ys11_2) → ∀ x13 : Option Value, Rn none 0 0 eX6_panel 27 [some (.ref a0), some (.int a1), some (.int a2), some (.int t5), some (.int ys11_0), some (.int ys11_1), some (.int t9), some (.int ys11_2), x13] [] hq (eI vr, hr))) ?_ NF _ _ H) _ _ _ rfl _
    intro k12 K12 s11 hs11 H ys11_0 ys11_1 ys11_2 es11 x13
    subst es11
    refine r_il rfl rfl ?_
    refine r_il rfl rfl ?_
    refine r_cmp H rfl rfl (fun H => ?_) (fun H => ?_)
    · refine r_il rfl rfl ?_
      exact r_reti H rfl rfl ⟨Nat.zero_le _, Nat.zero_le _⟩
    · refine r_il rfl rfl ?_
      refine r_il rfl rfl ?_
      refine r_ic (v := -1) rfl ci_m1 ?_
      refine r_xor rfl ?_
      refine r_and rfl ?_
      refine r_if H rfl rfl (fun H => ?_) (fun H => ?_)
      · refine r_inc (v := 1) (L' := [some (.ref a0), some (.int a1), some (.int a2), some (.int t5), some (.int ys11_0), some (.int ys11_1), some (.int t9), some (.int (ys11_2 + (1 : Int32))), x13]) rfl rfl ci_1 rfl ?_
        refine r_go rfl ?_
        have q := K12 _ _ H _ _ _ rfl
        exact q _
      · refine r_il rfl rfl ?_
        refine r_stI (rest := []) H rfl rfl (s_J6_bitCount_0f7a4 ys11_2) rfl rfl ⟨rfl, rfl⟩ rfl (fun t14 h15 H => ?_)
        refine r_iln rfl rfl rfl ?_
        refine r_cmp H rfl rfl (fun H => ?_) (fun H => ?_)
        · refine r_aln rfl rfl rfl ?_
          refine r_gR H rfl kd_5_0 (fun r16 H => ?_)
          refine r_gR H rfl kd_4_0 (fun r17 H => ?_)
          refine r_il rfl rfl ?_
          refine r_aln rfl rfl rfl ?_
          refine r_gR H rfl kd_5_0 (fun r18 H => ?_)
          refine r_gR H rfl kd_4_0 (fun r19 H => ?_)
          refine r_gR H rfl kd_0_5 (fun r20 H => ?_)
          refine r_iln rfl rfl rfl ?_
          refine r_aI' H rfl (fun t21 H => ?_)
          refine r_vtI (rest := []) H rfl rfl rfl (s_X0_mean r17 ys11_2 t21) rfl rfl ⟨rfl, rfl⟩ rfl (fun t22 h23 H => ?_)
          refine r_is (L' := [some (.ref a0), some (.int a1), some (.int a2), some (.int t5), some (.int ys11_0), some (.int ys11_1), some (.int t9), some (.int ys11_2), some (.int t22)]) rfl (Nat.le_of_ble_eq_true rfl) rfl ?_
          refine r_il rfl rfl ?_
          refine r_il rfl rfl ?_
          refine r_cmp H rfl rfl (fun H => ?_) (fun H => ?_)
          · refine r_inc (v := 1) (L' := [some (.ref a0), some (.int a1), some (.int a2), some (.int t5), some (.int ys11_0), some (.int ys11_1), some (.int t9), some (.int (ys11_2 + (1 : Int32))), some (.int t22)]) rfl rfl ci_1 rfl ?_
            refine r_go rfl ?_
            have q := K12 _ _ H _ _ _ rfl
            exact q _
          · refine r_il rfl rfl ?_
            refine r_is (L' := [some (.ref a0), some (.int a1), some (.int a2), some (.int t5), some (.int ys11_0), some (.int t22), some (.int t9), some (.int ys11_2), some (.int t22)]) rfl (Nat.le_of_ble_eq_true rfl) rfl ?_
            refine r_il rfl rfl ?_
            refine r_is (L' := [some (.ref a0), some (.int a1), some (.int a2), some (.int t5), some (.int ys11_2), some (.int t22), some (.int t9), some (.int ys11_2), some (.int t22)]) rfl (Nat.le_of_ble_eq_true rfl) rfl ?_
            refine r_inc (v := 1) (L' := [some (.ref a0), some (.int a1), some (.int a2), some (.int t5), some (.int ys11_2), some (.int t22), some (.int t9), some (.int (ys11_2 + (1 : Int32))), some (.int t22)]) rfl rfl ci_1 rfl ?_
            refine r_go rfl ?_
            have q := K12 _ _ H _ _ _ rfl
            exact q _
        · refine r_go rfl ?_
          refine r_inc (v := 1) (L' := [some (.ref a0), some (.int a1), some (.int a2), some (.int t5), some (.int ys11_0), some (.int ys11_1), some (.int t9), some (.int (ys11_2 + (1 : Int32))), x13]) rfl rfl ci_1 rfl ?_
          refine r_go rfl ?_
          have q := K12 _ _ H _ _ _ rfl
          exact q _
  · refine r_aln rfl rfl rfl ?_
    refine r_iln rfl rfl rfl ?_
    refine r_vtI (rest := []) H rfl rfl rfl (s_X6_refuse a0 t5) rfl rfl ⟨rfl, rfl⟩ rfl (fun t24 h25 H => ?_)
    exact r_reti H rfl rfl ⟨Nat.zero_le _, Nat.zero_le _⟩
def f_X6_hasSeen (a0 : Nat) (a1 : Int32) : M Int32 := loopK NF (fun (s1 : Int32) k2 => if (255 : Int32) < s1 then retZ (0 : Int32) else bnd (gR 5 12 a0) fun r3 => bnd (aI r3 s1) fun t4 => if t4 = (0 : Int32) then k2 (s1 + (1 : Int32)) else if ¬ (a1 &&& (s1 ^^^ (-1 : Int32))) = (0 : Int32) then k2 (s1 + (1 : Int32)) else retZ (1 : Int32)) (0 : Int32)
set_option maxRecDepth 20000 in
theorem s_X6_hasSeen (a0 : Nat) (a1 : Int32) : Sm eX6_hasSeen [.ref a0, .int a1] eI (f_X6_hasSeen a0 a1) := by
  intro hp vr hr H
  unfold f_X6_hasSeen at H
  show Rn none 0 0 eX6_hasSeen 0 [some (.ref a0), some (.int a1), none] [] hp (eI vr, hr)
  refine r_ic (v := 0) rfl ci_0 ?_
  refine r_isn (L' := [some (.ref a0), some (.int a1), some (.int (0 : Int32))]) rfl rfl (Nat.le_of_ble_eq_true rfl) rfl ?_
  refine (r_loop (P := (fun (s1 : Int32) hq => Rn none 0 0 eX6_hasSeen 2 [some (.ref a0), some (.int a1), some (.int s1)] [] hq (eI vr, hr))) ?_ NF _ _ H)
  intro k2 K2 s1 hs1 H 
  refine r_iln rfl rfl rfl ?_
  refine r_si (v := 255) rfl cs_255 ?_
  refine r_cmp H rfl rfl (fun H => ?_) (fun H => ?_)
  · refine r_ic (v := 0) rfl ci_0 ?_
    exact r_retz H rfl rfl ⟨Nat.zero_le _, Nat.zero_le _⟩
  · refine r_aln rfl rfl rfl ?_
    refine r_gR H rfl kd_5_12 (fun r3 H => ?_)
    refine r_iln rfl rfl rfl ?_
    refine r_aI' H rfl (fun t4 H => ?_)
    refine r_if H rfl rfl (fun H => ?_) (fun H => ?_)
    · refine r_inc (v := 1) (L' := [some (.ref a0), some (.int a1), some (.int (s1 + (1 : Int32)))]) rfl rfl ci_1 rfl ?_
      refine r_go rfl ?_
      have q := K2 _ _ H
      exact q
    · refine r_iln rfl rfl rfl ?_
      refine r_iln rfl rfl rfl ?_
      refine r_ic (v := -1) rfl ci_m1 ?_
      refine r_xor rfl ?_
      refine r_and rfl ?_
      refine r_if H rfl rfl (fun H => ?_) (fun H => ?_)
      · refine r_inc (v := 1) (L' := [some (.ref a0), some (.int a1), some (.int (s1 + (1 : Int32)))]) rfl rfl ci_1 rfl ?_
        refine r_go rfl ?_
        have q := K2 _ _ H
        exact q
      · refine r_ic (v := 1) rfl ci_1 ?_
        exact r_retz H rfl rfl ⟨Nat.zero_le _, Nat.zero_le _⟩
def f_X6_stepOn (a0 : Nat) : M Unit := bnd (gR 5 13 a0) fun r1 => bnd (f_J7_fill_53178 r1 (0 : Int32)) fun _ => loopK NF (fun (s4 : Int32) k5 => if (255 : Int32) < s4 then bnd (gR 5 13 a0) fun r8 => bnd (gR 5 12 a0) fun r9 => bnd (gR 5 13 a0) fun r10 => bnd (len r10) fun t11 => bnd (cpy r8 (0 : Int32) r9 (0 : Int32) t11) fun _ => rt () else bnd (gR 5 12 a0) fun r13 => bnd (aI r13 s4) fun t14 => if ¬ t14 = (0 : Int32) then bnd (gR 5 0 a0) fun r15 => bnd (gR 4 1 r15) fun r16 => bnd (gR 3 0 r16) fun r17 => bnd (gR 5 12 a0) fun r18 => bnd (aI r18 s4) fun t19 => bnd (f_X2_next r17 t19) fun t20 => loopK NF (fun (s22 : Int32) k23 => if (8 : Int32) ≤ s22 then k5 (s4 + (1 : Int32)) else bnd (f_X6_holds t20 s22) fun t24 => if t24 = (0 : Int32) then k23 (s22 + (1 : Int32)) else bnd (gR 5 13 a0) fun r26 => bnd (aI r26 (s4 ||| ((1 : Int32) <<< (s22 &&& (31 : Int32))))) fun t27 => bnd (sI r26 (s4 ||| ((1 : Int32) <<< (s22 &&& (31 : Int32)))) (t27 ||| ((1 : Int32) <<< (s22 &&& (31 : Int32))))) fun _ => k23 (s22 + (1 : Int32))) (0 : Int32) else loopK NF (fun (s28 : Int32) k29 => if (8 : Int32) ≤ s28 then k5 (s4 + (1 : Int32)) else bnd (f_X6_holds (0 : Int32) s28) fun t30 => if t30 = (0 : Int32) then k29 (s28 + (1 : Int32)) else bnd (gR 5 13 a0) fun r32 => bnd (aI r32 (s4 ||| ((1 : Int32) <<< (s28 &&& (31 : Int32))))) fun t33 => bnd (sI r32 (s4 ||| ((1 : Int32) <<< (s28 &&& (31 : Int32)))) (t33 ||| ((1 : Int32) <<< (s28 &&& (31 : Int32))))) fun _ => k29 (s28 + (1 : Int32))) (0 : Int32)) (0 : Int32)
set_option maxRecDepth 20000 in
theorem s_X6_stepOn (a0 : Nat) : Sm eX6_stepOn [.ref a0] eU (f_X6_stepOn a0) := by
  intro hp vr hr H
  unfold f_X6_stepOn at H
  show Rn none 0 0 eX6_stepOn 0 [some (.ref a0), none, none, none] [] hp (eU vr, hr)
  refine r_aln rfl rfl rfl ?_
  refine r_gR H rfl kd_5_13 (fun r1 H => ?_)
  refine r_ic (v := 0) rfl ci_0 ?_
  refine r_stU (rest := []) H rfl rfl (s_J7_fill_53178 r1 (0 : Int32)) rfl rfl ⟨rfl, rfl⟩ rfl (fun t2 h3 H => ?_)
  refine r_ic (v := 0) rfl ci_0 ?_
  refine r_isn (L' := [some (.ref a0), some (.int (0 : Int32)), none, none]) rfl rfl (Nat.le_of_ble_eq_true rfl) rfl ?_
  refine (r_loop (P := (fun (s4 : Int32) hq => ∀ x6 : Option Value, ∀ x7 : Option Value, Rn none 0 0 eX6_stepOn 6 [some (.ref a0), some (.int s4), x6, x7] [] hq (eU vr, hr))) ?_ NF _ _ H) _ _
  intro k5 K5 s4 hs4 H x6 x7
  refine r_iln rfl rfl rfl ?_
  refine r_si (v := 255) rfl cs_255 ?_
  refine r_cmp H rfl rfl (fun H => ?_) (fun H => ?_)
  · refine r_aln rfl rfl rfl ?_
    refine r_gR H rfl kd_5_13 (fun r8 H => ?_)
    refine r_ic (v := 0) rfl ci_0 ?_
    refine r_aln rfl rfl rfl ?_
    refine r_gR H rfl kd_5_12 (fun r9 H => ?_)
    refine r_ic (v := 0) rfl ci_0 ?_
    refine r_aln rfl rfl rfl ?_
    refine r_gR H rfl kd_5_13 (fun r10 H => ?_)
    refine r_len H rfl (fun t11 H => ?_)
    refine r_cpy H rfl (Nat.le_of_ble_eq_true rfl) (Nat.le_of_ble_eq_true rfl) (fun h12 H => ?_)
    exact r_retv H rfl rfl ⟨Nat.zero_le _, Nat.zero_le _⟩
  · refine r_aln rfl rfl rfl ?_
    refine r_gR H rfl kd_5_12 (fun r13 H => ?_)
    refine r_iln rfl rfl rfl ?_
    refine r_aI' H rfl (fun t14 H => ?_)
    refine r_if H rfl rfl (fun H => ?_) (fun H => ?_)
    · refine r_aln rfl rfl rfl ?_
      refine r_gR H rfl kd_5_0 (fun r15 H => ?_)
      refine r_gR H rfl kd_4_1 (fun r16 H => ?_)
      refine r_gR H rfl kd_3_0 (fun r17 H => ?_)
      refine r_aln rfl rfl rfl ?_
      refine r_gR H rfl kd_5_12 (fun r18 H => ?_)
      refine r_iln rfl rfl rfl ?_
      refine r_aI' H rfl (fun t19 H => ?_)
      refine r_stI (rest := []) H rfl rfl (s_X2_next r17 t19) rfl rfl ⟨rfl, rfl⟩ rfl (fun t20 h21 H => ?_)
      refine r_isn (L' := [some (.ref a0), some (.int s4), some (.int t20), x7]) rfl rfl (Nat.le_of_ble_eq_true rfl) rfl ?_
      refine r_ic (v := 0) rfl ci_0 ?_
      refine r_isn (L' := [some (.ref a0), some (.int s4), some (.int t20), some (.int (0 : Int32))]) rfl rfl (Nat.le_of_ble_eq_true rfl) rfl ?_
      refine (r_loop (P := (fun (s22 : Int32) hq => Rn none 0 0 eX6_stepOn 28 [some (.ref a0), some (.int s4), some (.int t20), some (.int s22)] [] hq (eU vr, hr))) ?_ NF _ _ H)
      intro k23 K23 s22 hs22 H 
      refine r_iln rfl rfl rfl ?_
      refine r_bi (v := 8) rfl cb_8 ?_
      refine r_cmp H rfl rfl (fun H => ?_) (fun H => ?_)
      · refine r_inc (v := 1) (L' := [some (.ref a0), some (.int (s4 + (1 : Int32))), some (.int t20), some (.int s22)]) rfl rfl ci_1 rfl ?_
        refine r_go rfl ?_
        have q := K5 _ _ H
        exact q _ _
      · refine r_iln rfl rfl rfl ?_
        refine r_iln rfl rfl rfl ?_
        refine r_stI (rest := []) H rfl rfl (s_X6_holds t20 s22) rfl rfl ⟨rfl, rfl⟩ rfl (fun t24 h25 H => ?_)
        refine r_if H rfl rfl (fun H => ?_) (fun H => ?_)
        · refine r_inc (v := 1) (L' := [some (.ref a0), some (.int s4), some (.int t20), some (.int (s22 + (1 : Int32)))]) rfl rfl ci_1 rfl ?_
          refine r_go rfl ?_
          have q := K23 _ _ H
          exact q
        · refine r_aln rfl rfl rfl ?_
          refine r_gR H rfl kd_5_13 (fun r26 H => ?_)
          refine r_iln rfl rfl rfl ?_
          refine r_ic (v := 1) rfl ci_1 ?_
          refine r_iln rfl rfl rfl ?_
          refine r_shl rfl ?_
          refine r_or rfl ?_
          refine r_dup2 rfl ?_
          refine r_aI' H rfl (fun t27 H => ?_)
          refine r_ic (v := 1) rfl ci_1 ?_
          refine r_iln rfl rfl rfl ?_
          refine r_shl rfl ?_
          refine r_or rfl ?_
          refine r_sI H rfl (fun H => ?_)
          refine r_inc (v := 1) (L' := [some (.ref a0), some (.int s4), some (.int t20), some (.int (s22 + (1 : Int32)))]) rfl rfl ci_1 rfl ?_
          refine r_go rfl ?_
          have q := K23 _ _ H
          exact q
    · refine r_ic (v := 0) rfl ci_0 ?_
      refine r_go rfl ?_
      refine r_isn (L' := [some (.ref a0), some (.int s4), some (.int (0 : Int32)), x7]) rfl rfl (Nat.le_of_ble_eq_true rfl) rfl ?_
      refine r_ic (v := 0) rfl ci_0 ?_
      refine r_isn (L' := [some (.ref a0), some (.int s4), some (.int (0 : Int32)), some (.int (0 : Int32))]) rfl rfl (Nat.le_of_ble_eq_true rfl) rfl ?_
      refine (r_loop (P := (fun (s28 : Int32) hq => Rn none 0 0 eX6_stepOn 28 [some (.ref a0), some (.int s4), some (.int (0 : Int32)), some (.int s28)] [] hq (eU vr, hr))) ?_ NF _ _ H)
      intro k29 K29 s28 hs28 H 
      refine r_iln rfl rfl rfl ?_
      refine r_bi (v := 8) rfl cb_8 ?_
      refine r_cmp H rfl rfl (fun H => ?_) (fun H => ?_)
      · refine r_inc (v := 1) (L' := [some (.ref a0), some (.int (s4 + (1 : Int32))), some (.int (0 : Int32)), some (.int s28)]) rfl rfl ci_1 rfl ?_
        refine r_go rfl ?_
        have q := K5 _ _ H
        exact q _ _
      · refine r_iln rfl rfl rfl ?_
        refine r_iln rfl rfl rfl ?_
        refine r_stI (rest := []) H rfl rfl (s_X6_holds (0 : Int32) s28) rfl rfl ⟨rfl, rfl⟩ rfl (fun t30 h31 H => ?_)
        refine r_if H rfl rfl (fun H => ?_) (fun H => ?_)
        · refine r_inc (v := 1) (L' := [some (.ref a0), some (.int s4), some (.int (0 : Int32)), some (.int (s28 + (1 : Int32)))]) rfl rfl ci_1 rfl ?_
          refine r_go rfl ?_
          have q := K29 _ _ H
          exact q
        · refine r_aln rfl rfl rfl ?_
          refine r_gR H rfl kd_5_13 (fun r32 H => ?_)
          refine r_iln rfl rfl rfl ?_
          refine r_ic (v := 1) rfl ci_1 ?_
          refine r_iln rfl rfl rfl ?_
          refine r_shl rfl ?_
          refine r_or rfl ?_
          refine r_dup2 rfl ?_
          refine r_aI' H rfl (fun t33 H => ?_)
          refine r_ic (v := 1) rfl ci_1 ?_
          refine r_iln rfl rfl rfl ?_
          refine r_shl rfl ?_
          refine r_or rfl ?_
          refine r_sI H rfl (fun H => ?_)
          refine r_inc (v := 1) (L' := [some (.ref a0), some (.int s4), some (.int (0 : Int32)), some (.int (s28 + (1 : Int32)))]) rfl rfl ci_1 rfl ?_
          refine r_go rfl ?_
          have q := K29 _ _ H
          exact q
def f_X6_tour (a0 : Nat) (a1 : Int32) (a2 : Int32) : M Int32 := bnd (f_X6_noPlace a1) fun t1 => bnd (f_X6_outside a2 (0 : Int32) (255 : Int32)) fun t3 => bnd (f_X6_first t1 t3) fun t5 => if t5 = (0 : Int32) then bnd (gR 5 12 a0) fun r7 => bnd (f_J7_fill_53178 r7 (0 : Int32)) fun _ => bnd (gR 5 12 a0) fun r10 => bnd (sI r10 ((1 : Int32) <<< (a1 &&& (31 : Int32))) ((1 : Int32) <<< (a1 &&& (31 : Int32)))) fun _ => loopK NF (fun (s11 : Int32) k12 => if (14 : Int32) < s11 then rt (-9 : Int32) else bnd (cv 5 a0 (f_X6_hasSeen a0 a2)) fun t13 => if t13 = (0 : Int32) then bnd (cv 5 a0 (f_X6_stepOn a0)) fun _ => k12 (s11 + (1 : Int32)) else rt s11) (0 : Int32) else bnd (cv 5 a0 (f_X6_refuse a0 t5)) fun t17 => rt t17
set_option maxRecDepth 20000 in
theorem s_X6_tour (a0 : Nat) (a1 : Int32) (a2 : Int32) : Sm eX6_tour [.ref a0, .int a1, .int a2] eI (f_X6_tour a0 a1 a2) := by
  intro hp vr hr H
  unfold f_X6_tour at H
  show Rn none 0 0 eX6_tour 0 [some (.ref a0), some (.int a1), some (.int a2), none, none] [] hp (eI vr, hr)
  refine r_iln rfl rfl rfl ?_
  refine r_stI (rest := []) H rfl rfl (s_X6_noPlace a1) rfl rfl ⟨rfl, rfl⟩ rfl (fun t1 h2 H => ?_)
  refine r_iln rfl rfl rfl ?_
  refine r_ic (v := 0) rfl ci_0 ?_
  refine r_si (v := 255) rfl cs_255 ?_
  refine r_stI (rest := [.int t1]) H rfl rfl (s_X6_outside a2 (0 : Int32) (255 : Int32)) rfl rfl ⟨rfl, rfl⟩ rfl (fun t3 h4 H => ?_)
  refine r_stI (rest := []) H rfl rfl (s_X6_first t1 t3) rfl rfl ⟨rfl, rfl⟩ rfl (fun t5 h6 H => ?_)
  refine r_isn (L' := [some (.ref a0), some (.int a1), some (.int a2), some (.int t5), none]) rfl rfl (Nat.le_of_ble_eq_true rfl) rfl ?_
  refine r_iln rfl rfl rfl ?_
  refine r_if H rfl rfl (fun H => ?_) (fun H => ?_)
  · refine r_aln rfl rfl rfl ?_
    refine r_gR H rfl kd_5_12 (fun r7 H => ?_)
    refine r_ic (v := 0) rfl ci_0 ?_
    refine r_stU (rest := []) H rfl rfl (s_J7_fill_53178 r7 (0 : Int32)) rfl rfl ⟨rfl, rfl⟩ rfl (fun t8 h9 H => ?_)
    refine r_aln rfl rfl rfl ?_
    refine r_gR H rfl kd_5_12 (fun r10 H => ?_)
    refine r_ic (v := 1) rfl ci_1 ?_
    refine r_iln rfl rfl rfl ?_
    refine r_shl rfl ?_
    refine r_ic (v := 1) rfl ci_1 ?_
    refine r_iln rfl rfl rfl ?_
    refine r_shl rfl ?_
    refine r_sI H rfl (fun H => ?_)
    refine r_ic (v := 0) rfl ci_0 ?_
    refine r_is (L' := [some (.ref a0), some (.int a1), some (.int a2), some (.int t5), some (.int (0 : Int32))]) rfl (Nat.le_of_ble_eq_true rfl) rfl ?_
    refine (r_loop (P := (fun (s11 : Int32) hq => Rn none 0 0 eX6_tour 29 [some (.ref a0), some (.int a1), some (.int a2), some (.int t5), some (.int s11)] [] hq (eI vr, hr))) ?_ NF _ _ H)
    intro k12 K12 s11 hs11 H 
    refine r_il rfl rfl ?_
    refine r_bi (v := 14) rfl cb_14 ?_
    refine r_cmp H rfl rfl (fun H => ?_) (fun H => ?_)
    · refine r_bi (v := -9) rfl cb_m9 ?_
      exact r_reti H rfl rfl ⟨Nat.zero_le _, Nat.zero_le _⟩
    · refine r_aln rfl rfl rfl ?_
      refine r_iln rfl rfl rfl ?_
      refine r_vtI (rest := []) H rfl rfl rfl (s_X6_hasSeen a0 a2) rfl rfl ⟨rfl, rfl⟩ rfl (fun t13 h14 H => ?_)
      refine r_if H rfl rfl (fun H => ?_) (fun H => ?_)
      · refine r_aln rfl rfl rfl ?_
        refine r_vtU (rest := []) H rfl rfl rfl (s_X6_stepOn a0) rfl rfl ⟨rfl, rfl⟩ rfl (fun t15 h16 H => ?_)
        refine r_inc (v := 1) (L' := [some (.ref a0), some (.int a1), some (.int a2), some (.int t5), some (.int (s11 + (1 : Int32)))]) rfl rfl ci_1 rfl ?_
        refine r_go rfl ?_
        have q := K12 _ _ H
        exact q
      · refine r_il rfl rfl ?_
        exact r_reti H rfl rfl ⟨Nat.zero_le _, Nat.zero_le _⟩
  · refine r_aln rfl rfl rfl ?_
    refine r_iln rfl rfl rfl ?_
    refine r_vtI (rest := []) H rfl rfl rfl (s_X6_refuse a0 t5) rfl rfl ⟨rfl, rfl⟩ rfl (fun t17 h18 H => ?_)
    exact r_reti H rfl rfl ⟨Nat.zero_le _, Nat.zero_le _⟩
def f_X6_narrows (a0 : Nat) (a1 : Int32) (a2 : Int32) : M Int32 := jn (fun k2 => if ¬ a1 = a2 then bnd (f_X6_noPlaces a1 a2) fun t21 => k2 t21 else k2 (-1 : Int32)) (fun (s1 : Int32) => if s1 = (0 : Int32) then bnd (gR 5 0 a0) fun r3 => bnd (gR 4 1 r3) fun r4 => bnd (gR 3 0 r4) fun r5 => bnd (f_X2_reach r5 ((1 : Int32) <<< (a1 &&& (31 : Int32))) (255 : Int32)) fun t6 => bnd (f_X6_holds t6 a2) fun t8 => if ¬ t8 = (0 : Int32) then loopK NF (fun (s10 : Int32 × Int32) k11 => if (8 : Int32) ≤ s10.2 then rt s10.1 else jn (fun k14 => if s10.2 = a1 then k14 (0 : Int32) else if s10.2 = a2 then k14 (0 : Int32) else k14 (1 : Int32)) (fun (s13 : Int32) => if s13 = (0 : Int32) then k11 (s10.1, (s10.2 + (1 : Int32))) else bnd (f_X2_reach r5 ((1 : Int32) <<< (a1 &&& (31 : Int32))) (((1 : Int32) <<< (s10.2 &&& (31 : Int32))) ^^^ (-1 : Int32))) fun t15 => bnd (f_X6_holds t15 a2) fun t17 => if ¬ t17 = (0 : Int32) then k11 (s10.1, (s10.2 + (1 : Int32))) else k11 ((s10.1 ||| ((1 : Int32) <<< (s10.2 &&& (31 : Int32)))), (s10.2 + (1 : Int32))))) ((0 : Int32), (0 : Int32)) else rt (-9 : Int32) else bnd (cv 5 a0 (f_X6_refuse a0 s1)) fun t19 => rt t19)
set_option maxRecDepth 20000 in
theorem s_X6_narrows (a0 : Nat) (a1 : Int32) (a2 : Int32) : Sm eX6_narrows [.ref a0, .int a1, .int a2] eI (f_X6_narrows a0 a1 a2) := by
  intro hp vr hr H
  unfold f_X6_narrows at H
  show Rn none 0 0 eX6_narrows 0 [some (.ref a0), some (.int a1), some (.int a2), none, none, none, none, none] [] hp (eI vr, hr)
  refine r_iln rfl rfl rfl ?_
  refine r_iln rfl rfl rfl ?_
  refine r_jn (P := (fun (s1 : Int32) hq => Rn none 0 0 eX6_narrows 8 [some (.ref a0), some (.int a1), some (.int a2), none, none, none, none, none] [.int s1] hq (eI vr, hr))) H (fun s1 hs1 H  => ?_) (fun k2 K2 H => ?_)
  · refine r_isn (L' := [some (.ref a0), some (.int a1), some (.int a2), some (.int s1), none, none, none, none]) rfl rfl (Nat.le_of_ble_eq_true rfl) rfl ?_
    refine r_iln rfl rfl rfl ?_
    refine r_if H rfl rfl (fun H => ?_) (fun H => ?_)
    · refine r_aln rfl rfl rfl ?_
      refine r_gR H rfl kd_5_0 (fun r3 H => ?_)
      refine r_gR H rfl kd_4_1 (fun r4 H => ?_)
      refine r_gR H rfl kd_3_0 (fun r5 H => ?_)
      refine r_as (L' := [some (.ref a0), some (.int a1), some (.int a2), some (.int s1), some (.ref r5), none, none, none]) rfl (Nat.le_of_ble_eq_true rfl) rfl ?_
      refine r_al rfl rfl ?_
      refine r_ic (v := 1) rfl ci_1 ?_
      refine r_iln rfl rfl rfl ?_
      refine r_shl rfl ?_
      refine r_si (v := 255) rfl cs_255 ?_
      refine r_stI (rest := []) H rfl rfl (s_X2_reach r5 ((1 : Int32) <<< (a1 &&& (31 : Int32))) (255 : Int32)) rfl rfl ⟨rfl, rfl⟩ rfl (fun t6 h7 H => ?_)
      refine r_iln rfl rfl rfl ?_
      refine r_stI (rest := []) H rfl rfl (s_X6_holds t6 a2) rfl rfl ⟨rfl, rfl⟩ rfl (fun t8 h9 H => ?_)
      refine r_if H rfl rfl (fun H => ?_) (fun H => ?_)
      · refine r_ic (v := 0) rfl ci_0 ?_
        refine r_is (L' := [some (.ref a0), some (.int a1), some (.int a2), some (.int s1), some (.ref r5), some (.int (0 : Int32)), none, none]) rfl (Nat.le_of_ble_eq_true rfl) rfl ?_
        refine r_ic (v := 0) rfl ci_0 ?_
        refine r_is (L' := [some (.ref a0), some (.int a1), some (.int a2), some (.int s1), some (.ref r5), some (.int (0 : Int32)), some (.int (0 : Int32)), none]) rfl (Nat.le_of_ble_eq_true rfl) rfl ?_
        refine (r_loop (P := (fun (s10 : Int32 × Int32) hq => ∀ ys10_0 : Int32, ∀ ys10_1 : Int32, s10 = (ys10_0, ys10_1) → ∀ x12 : Option Value, Rn none 0 0 eX6_narrows 35 [some (.ref a0), some (.int a1), some (.int a2), some (.int s1), some (.ref r5), some (.int ys10_0), some (.int ys10_1), x12] [] hq (eI vr, hr))) ?_ NF _ _ H) _ _ rfl _
        intro k11 K11 s10 hs10 H ys10_0 ys10_1 es10 x12
        subst es10
        refine r_il rfl rfl ?_
        refine r_bi (v := 8) rfl cb_8 ?_
        refine r_cmp H rfl rfl (fun H => ?_) (fun H => ?_)
        · refine r_il rfl rfl ?_
          exact r_reti H rfl rfl ⟨Nat.zero_le _, Nat.zero_le _⟩
        · refine r_il rfl rfl ?_
          refine r_iln rfl rfl rfl ?_
          refine r_jn (P := (fun (s13 : Int32) hq => Rn none 0 0 eX6_narrows 47 [some (.ref a0), some (.int a1), some (.int a2), some (.int s1), some (.ref r5), some (.int ys10_0), some (.int ys10_1), x12] [.int s13] hq (eI vr, hr))) H (fun s13 hs13 H  => ?_) (fun k14 K14 H => ?_)
          · refine r_is (L' := [some (.ref a0), some (.int a1), some (.int a2), some (.int s1), some (.ref r5), some (.int ys10_0), some (.int ys10_1), some (.int s13)]) rfl (Nat.le_of_ble_eq_true rfl) rfl ?_
            refine r_il rfl rfl ?_
            refine r_if H rfl rfl (fun H => ?_) (fun H => ?_)
            · refine r_inc (v := 1) (L' := [some (.ref a0), some (.int a1), some (.int a2), some (.int s1), some (.ref r5), some (.int ys10_0), some (.int (ys10_1 + (1 : Int32))), some (.int s13)]) rfl rfl ci_1 rfl ?_
              refine r_go rfl ?_
              have q := K11 _ _ H _ _ rfl
              exact q _
            · refine r_al rfl rfl ?_
              refine r_ic (v := 1) rfl ci_1 ?_
              refine r_iln rfl rfl rfl ?_
              refine r_shl rfl ?_
              refine r_ic (v := 1) rfl ci_1 ?_
              refine r_il rfl rfl ?_
              refine r_shl rfl ?_
              refine r_ic (v := -1) rfl ci_m1 ?_
              refine r_xor rfl ?_
              refine r_stI (rest := []) H rfl rfl (s_X2_reach r5 ((1 : Int32) <<< (a1 &&& (31 : Int32))) (((1 : Int32) <<< (ys10_1 &&& (31 : Int32))) ^^^ (-1 : Int32))) rfl rfl ⟨rfl, rfl⟩ rfl (fun t15 h16 H => ?_)
              refine r_iln rfl rfl rfl ?_
              refine r_stI (rest := []) H rfl rfl (s_X6_holds t15 a2) rfl rfl ⟨rfl, rfl⟩ rfl (fun t17 h18 H => ?_)
              refine r_if H rfl rfl (fun H => ?_) (fun H => ?_)
              · refine r_inc (v := 1) (L' := [some (.ref a0), some (.int a1), some (.int a2), some (.int s1), some (.ref r5), some (.int ys10_0), some (.int (ys10_1 + (1 : Int32))), some (.int s13)]) rfl rfl ci_1 rfl ?_
                refine r_go rfl ?_
                have q := K11 _ _ H _ _ rfl
                exact q _
              · refine r_il rfl rfl ?_
                refine r_ic (v := 1) rfl ci_1 ?_
                refine r_il rfl rfl ?_
                refine r_shl rfl ?_
                refine r_or rfl ?_
                refine r_is (L' := [some (.ref a0), some (.int a1), some (.int a2), some (.int s1), some (.ref r5), some (.int (ys10_0 ||| ((1 : Int32) <<< (ys10_1 &&& (31 : Int32))))), some (.int ys10_1), some (.int s13)]) rfl (Nat.le_of_ble_eq_true rfl) rfl ?_
                refine r_inc (v := 1) (L' := [some (.ref a0), some (.int a1), some (.int a2), some (.int s1), some (.ref r5), some (.int (ys10_0 ||| ((1 : Int32) <<< (ys10_1 &&& (31 : Int32))))), some (.int (ys10_1 + (1 : Int32))), some (.int s13)]) rfl rfl ci_1 rfl ?_
                refine r_go rfl ?_
                have q := K11 _ _ H _ _ rfl
                exact q _
          · refine r_cmp H rfl rfl (fun H => ?_) (fun H => ?_)
            · refine r_ic (v := 0) rfl ci_0 ?_
              have q := K14 _ _ H
              exact q
            · refine r_il rfl rfl ?_
              refine r_iln rfl rfl rfl ?_
              refine r_cmp H rfl rfl (fun H => ?_) (fun H => ?_)
              · refine r_ic (v := 0) rfl ci_0 ?_
                have q := K14 _ _ H
                exact q
              · refine r_ic (v := 1) rfl ci_1 ?_
                refine r_go rfl ?_
                have q := K14 _ _ H
                exact q
      · refine r_bi (v := -9) rfl cb_m9 ?_
        exact r_reti H rfl rfl ⟨Nat.zero_le _, Nat.zero_le _⟩
    · refine r_aln rfl rfl rfl ?_
      refine r_iln rfl rfl rfl ?_
      refine r_vtI (rest := []) H rfl rfl rfl (s_X6_refuse a0 s1) rfl rfl ⟨rfl, rfl⟩ rfl (fun t19 h20 H => ?_)
      exact r_reti H rfl rfl ⟨Nat.zero_le _, Nat.zero_le _⟩
  · refine r_cmp H rfl rfl (fun H => ?_) (fun H => ?_)
    · refine r_iln rfl rfl rfl ?_
      refine r_iln rfl rfl rfl ?_
      refine r_stI (rest := []) H rfl rfl (s_X6_noPlaces a1 a2) rfl rfl ⟨rfl, rfl⟩ rfl (fun t21 h22 H => ?_)
      have q := K2 _ _ H
      exact q
    · refine r_ic (v := -1) rfl ci_m1 ?_
      refine r_go rfl ?_
      have q := K2 _ _ H
      exact q
def f_X6_middle (a0 : Nat) (a1 : Int32) (a2 : Int32) : M Int32 := bnd (f_X6_noPlace a1) fun t1 => bnd (f_X6_noChoice a2 (2 : Int32)) fun t3 => bnd (f_X6_first t1 t3) fun t5 => if t5 = (0 : Int32) then bnd (gR 5 0 a0) fun r7 => bnd (gR 4 1 r7) fun r8 => bnd (gR 3 0 r8) fun r9 => bnd (f_X2_reach r9 ((1 : Int32) <<< (a1 &&& (31 : Int32))) (255 : Int32)) fun t10 => loopK NF (fun (s12 : Int32 × Int32 × Int32) k13 => if (8 : Int32) ≤ s12.2.2 then if ¬ a2 = (0 : Int32) then rt s12.2.1 else rt s12.1 else bnd (f_X6_holds t10 s12.2.2) fun t15 => jn (fun k18 => if t15 = (0 : Int32) then k18 (8 : Int32) else bnd (f_X2_farthest r9 s12.2.2) fun t19 => k18 t19) (fun (s17 : Int32) => if s12.2.1 ≤ s17 then k13 (s12.1, s12.2.1, (s12.2.2 + (1 : Int32))) else k13 (s12.2.2, s17, (s12.2.2 + (1 : Int32))))) ((-9 : Int32), (8 : Int32), (0 : Int32)) else bnd (cv 5 a0 (f_X6_refuse a0 t5)) fun t21 => rt t21
set_option maxRecDepth 20000 in
theorem s_X6_middle (a0 : Nat) (a1 : Int32) (a2 : Int32) : Sm eX6_middle [.ref a0, .int a1, .int a2] eI (f_X6_middle a0 a1 a2) := by
  intro hp vr hr H
  unfold f_X6_middle at H
  show Rn none 0 0 eX6_middle 0 [some (.ref a0), some (.int a1), some (.int a2), none, none, none, none, none, none, none] [] hp (eI vr, hr)
  refine r_iln rfl rfl rfl ?_
  refine r_stI (rest := []) H rfl rfl (s_X6_noPlace a1) rfl rfl ⟨rfl, rfl⟩ rfl (fun t1 h2 H => ?_)
  refine r_iln rfl rfl rfl ?_
  refine r_ic (v := 2) rfl ci_2 ?_
  refine r_stI (rest := [.int t1]) H rfl rfl (s_X6_noChoice a2 (2 : Int32)) rfl rfl ⟨rfl, rfl⟩ rfl (fun t3 h4 H => ?_)
  refine r_stI (rest := []) H rfl rfl (s_X6_first t1 t3) rfl rfl ⟨rfl, rfl⟩ rfl (fun t5 h6 H => ?_)
  refine r_isn (L' := [some (.ref a0), some (.int a1), some (.int a2), some (.int t5), none, none, none, none, none, none]) rfl rfl (Nat.le_of_ble_eq_true rfl) rfl ?_
  refine r_iln rfl rfl rfl ?_
  refine r_if H rfl rfl (fun H => ?_) (fun H => ?_)
  · refine r_aln rfl rfl rfl ?_
    refine r_gR H rfl kd_5_0 (fun r7 H => ?_)
    refine r_gR H rfl kd_4_1 (fun r8 H => ?_)
    refine r_gR H rfl kd_3_0 (fun r9 H => ?_)
    refine r_as (L' := [some (.ref a0), some (.int a1), some (.int a2), some (.int t5), some (.ref r9), none, none, none, none, none]) rfl (Nat.le_of_ble_eq_true rfl) rfl ?_
    refine r_al rfl rfl ?_
    refine r_ic (v := 1) rfl ci_1 ?_
    refine r_iln rfl rfl rfl ?_
    refine r_shl rfl ?_
    refine r_si (v := 255) rfl cs_255 ?_
    refine r_stI (rest := []) H rfl rfl (s_X2_reach r9 ((1 : Int32) <<< (a1 &&& (31 : Int32))) (255 : Int32)) rfl rfl ⟨rfl, rfl⟩ rfl (fun t10 h11 H => ?_)
    refine r_is (L' := [some (.ref a0), some (.int a1), some (.int a2), some (.int t5), some (.ref r9), some (.int t10), none, none, none, none]) rfl (Nat.le_of_ble_eq_true rfl) rfl ?_
    refine r_bi (v := -9) rfl cb_m9 ?_
    refine r_is (L' := [some (.ref a0), some (.int a1), some (.int a2), some (.int t5), some (.ref r9), some (.int t10), some (.int (-9 : Int32)), none, none, none]) rfl (Nat.le_of_ble_eq_true rfl) rfl ?_
    refine r_bi (v := 8) rfl cb_8 ?_
    refine r_is (L' := [some (.ref a0), some (.int a1), some (.int a2), some (.int t5), some (.ref r9), some (.int t10), some (.int (-9 : Int32)), some (.int (8 : Int32)), none, none]) rfl (Nat.le_of_ble_eq_true rfl) rfl ?_
    refine r_ic (v := 0) rfl ci_0 ?_
    refine r_is (L' := [some (.ref a0), some (.int a1), some (.int a2), some (.int t5), some (.ref r9), some (.int t10), some (.int (-9 : Int32)), some (.int (8 : Int32)), some (.int (0 : Int32)), none]) rfl (Nat.le_of_ble_eq_true rfl) rfl ?_
    refine (r_loop (P := (fun (s12 : Int32 × Int32 × Int32) hq => ∀ ys12_0 : Int32, ∀ ys12_1 : Int32, ∀ ys12_2 : Int32, s12 = (ys12_0, ys12_1, ys12_2) → ∀ x14 : Option Value, Rn none 0 0 eX6_middle 31 [some (.ref a0), some (.int a1), some (.int a2), some (.int t5), some (.ref r9), some (.int t10), some (.int ys12_0), some (.int ys12_1), some (.int ys12_2), x14] [] hq (eI vr, hr))) ?_ NF _ _ H) _ _ _ rfl _
    intro k13 K13 s12 hs12 H ys12_0 ys12_1 ys12_2 es12 x14
    subst es12
    refine r_il rfl rfl ?_
    refine r_bi (v := 8) rfl cb_8 ?_
    refine r_cmp H rfl rfl (fun H => ?_) (fun H => ?_)
    · refine r_iln rfl rfl rfl ?_
      refine r_if H rfl rfl (fun H => ?_) (fun H => ?_)
      · refine r_il rfl rfl ?_
        exact r_reti H rfl rfl ⟨Nat.zero_le _, Nat.zero_le _⟩
      · refine r_il rfl rfl ?_
        refine r_go rfl ?_
        exact r_reti H rfl rfl ⟨Nat.zero_le _, Nat.zero_le _⟩
    · refine r_il rfl rfl ?_
      refine r_il rfl rfl ?_
      refine r_stI (rest := []) H rfl rfl (s_X6_holds t10 ys12_2) rfl rfl ⟨rfl, rfl⟩ rfl (fun t15 h16 H => ?_)
      refine r_jn (P := (fun (s17 : Int32) hq => Rn none 0 0 eX6_middle 43 [some (.ref a0), some (.int a1), some (.int a2), some (.int t5), some (.ref r9), some (.int t10), some (.int ys12_0), some (.int ys12_1), some (.int ys12_2), x14] [.int s17] hq (eI vr, hr))) H (fun s17 hs17 H  => ?_) (fun k18 K18 H => ?_)
      · refine r_is (L' := [some (.ref a0), some (.int a1), some (.int a2), some (.int t5), some (.ref r9), some (.int t10), some (.int ys12_0), some (.int ys12_1), some (.int ys12_2), some (.int s17)]) rfl (Nat.le_of_ble_eq_true rfl) rfl ?_
        refine r_il rfl rfl ?_
        refine r_il rfl rfl ?_
        refine r_cmp H rfl rfl (fun H => ?_) (fun H => ?_)
        · refine r_inc (v := 1) (L' := [some (.ref a0), some (.int a1), some (.int a2), some (.int t5), some (.ref r9), some (.int t10), some (.int ys12_0), some (.int ys12_1), some (.int (ys12_2 + (1 : Int32))), some (.int s17)]) rfl rfl ci_1 rfl ?_
          refine r_go rfl ?_
          have q := K13 _ _ H _ _ _ rfl
          exact q _
        · refine r_il rfl rfl ?_
          refine r_is (L' := [some (.ref a0), some (.int a1), some (.int a2), some (.int t5), some (.ref r9), some (.int t10), some (.int ys12_0), some (.int s17), some (.int ys12_2), some (.int s17)]) rfl (Nat.le_of_ble_eq_true rfl) rfl ?_
          refine r_il rfl rfl ?_
          refine r_is (L' := [some (.ref a0), some (.int a1), some (.int a2), some (.int t5), some (.ref r9), some (.int t10), some (.int ys12_2), some (.int s17), some (.int ys12_2), some (.int s17)]) rfl (Nat.le_of_ble_eq_true rfl) rfl ?_
          refine r_inc (v := 1) (L' := [some (.ref a0), some (.int a1), some (.int a2), some (.int t5), some (.ref r9), some (.int t10), some (.int ys12_2), some (.int s17), some (.int (ys12_2 + (1 : Int32))), some (.int s17)]) rfl rfl ci_1 rfl ?_
          refine r_go rfl ?_
          have q := K13 _ _ H _ _ _ rfl
          exact q _
      · refine r_if H rfl rfl (fun H => ?_) (fun H => ?_)
        · refine r_bi (v := 8) rfl cb_8 ?_
          have q := K18 _ _ H
          exact q
        · refine r_al rfl rfl ?_
          refine r_il rfl rfl ?_
          refine r_stI (rest := []) H rfl rfl (s_X2_farthest r9 ys12_2) rfl rfl ⟨rfl, rfl⟩ rfl (fun t19 h20 H => ?_)
          refine r_go rfl ?_
          have q := K18 _ _ H
          exact q
  · refine r_aln rfl rfl rfl ?_
    refine r_iln rfl rfl rfl ?_
    refine r_vtI (rest := []) H rfl rfl rfl (s_X6_refuse a0 t5) rfl rfl ⟨rfl, rfl⟩ rfl (fun t21 h22 H => ?_)
    exact r_reti H rfl rfl ⟨Nat.zero_le _, Nat.zero_le _⟩
def f_X6_changed (a0 : Nat) (a1 : Int32) (a2 : Int32) (a3 : Int32) : M Int32 := bnd (cv 5 a0 (f_X6_noPerson a0 a1)) fun t1 => bnd (f_X6_outside_ a2 (60 : Int32) a3 (0 : Int32) (9 : Int32)) fun t3 => bnd (f_X6_first t1 t3) fun t5 => if t5 = (0 : Int32) then bnd (gR 5 1 a0) fun r7 => bnd (gR 4 0 r7) fun r8 => bnd (cv 5 a0 (f_X6_ahead a0 a2)) fun t9 => bnd (cv 0 r8 (f_X0_copyFrom r8 t9)) fun _ => bnd (cv 5 a0 (f_X6_aheadWithFigure a0 a1 a2 a3)) fun t13 => bnd (gR 5 1 a0) fun r15 => bnd (gR 4 0 r15) fun r16 => bnd (cv 0 t13 (f_X0_unlike t13 r16)) fun t17 => rt t17 else bnd (cv 5 a0 (f_X6_refuse a0 t5)) fun t19 => rt t19
set_option maxRecDepth 20000 in
theorem s_X6_changed (a0 : Nat) (a1 : Int32) (a2 : Int32) (a3 : Int32) : Sm eX6_changed [.ref a0, .int a1, .int a2, .int a3] eI (f_X6_changed a0 a1 a2 a3) := by
  intro hp vr hr H
  unfold f_X6_changed at H
  show Rn none 0 0 eX6_changed 0 [some (.ref a0), some (.int a1), some (.int a2), some (.int a3), none] [] hp (eI vr, hr)
  refine r_aln rfl rfl rfl ?_
  refine r_iln rfl rfl rfl ?_
  refine r_vtI (rest := []) H rfl rfl rfl (s_X6_noPerson a0 a1) rfl rfl ⟨rfl, rfl⟩ rfl (fun t1 h2 H => ?_)
  refine r_iln rfl rfl rfl ?_
  refine r_bi (v := 60) rfl cb_60 ?_
  refine r_iln rfl rfl rfl ?_
  refine r_ic (v := 0) rfl ci_0 ?_
  refine r_bi (v := 9) rfl cb_9 ?_
  refine r_stI (rest := [.int t1]) H rfl rfl (s_X6_outside_ a2 (60 : Int32) a3 (0 : Int32) (9 : Int32)) rfl rfl ⟨rfl, rfl⟩ rfl (fun t3 h4 H => ?_)
  refine r_stI (rest := []) H rfl rfl (s_X6_first t1 t3) rfl rfl ⟨rfl, rfl⟩ rfl (fun t5 h6 H => ?_)
  refine r_is (L' := [some (.ref a0), some (.int a1), some (.int a2), some (.int a3), some (.int t5)]) rfl (Nat.le_of_ble_eq_true rfl) rfl ?_
  refine r_il rfl rfl ?_
  refine r_if H rfl rfl (fun H => ?_) (fun H => ?_)
  · refine r_aln rfl rfl rfl ?_
    refine r_gR H rfl kd_5_1 (fun r7 H => ?_)
    refine r_gR H rfl kd_4_0 (fun r8 H => ?_)
    refine r_aln rfl rfl rfl ?_
    refine r_iln rfl rfl rfl ?_
    refine r_vtR (rest := [.ref r8]) H rfl rfl rfl (s_X6_ahead a0 a2) rfl rfl ⟨rfl, rfl⟩ rfl (fun t9 h10 H => ?_)
    refine r_vtU (rest := []) H rfl rfl rfl (s_X0_copyFrom r8 t9) rfl rfl ⟨rfl, rfl⟩ rfl (fun t11 h12 H => ?_)
    refine r_aln rfl rfl rfl ?_
    refine r_iln rfl rfl rfl ?_
    refine r_iln rfl rfl rfl ?_
    refine r_iln rfl rfl rfl ?_
    refine r_vtR (rest := []) H rfl rfl rfl (s_X6_aheadWithFigure a0 a1 a2 a3) rfl rfl ⟨rfl, rfl⟩ rfl (fun t13 h14 H => ?_)
    refine r_aln rfl rfl rfl ?_
    refine r_gR H rfl kd_5_1 (fun r15 H => ?_)
    refine r_gR H rfl kd_4_0 (fun r16 H => ?_)
    refine r_vtI (rest := []) H rfl rfl rfl (s_X0_unlike t13 r16) rfl rfl ⟨rfl, rfl⟩ rfl (fun t17 h18 H => ?_)
    exact r_reti H rfl rfl ⟨Nat.zero_le _, Nat.zero_le _⟩
  · refine r_aln rfl rfl rfl ?_
    refine r_il rfl rfl ?_
    refine r_vtI (rest := []) H rfl rfl rfl (s_X6_refuse a0 t5) rfl rfl ⟨rfl, rfl⟩ rfl (fun t19 h20 H => ?_)
    exact r_reti H rfl rfl ⟨Nat.zero_le _, Nat.zero_le _⟩
def f_X6_row (a0 : Nat) (a1 : Int32) : M Int32 := bnd (f_X6_outside a1 (0 : Int32) (99 : Int32)) fun t1 => jn (fun k4 => if ¬ t1 = (0 : Int32) then k4 t1 else bnd (gI 5 8 a0) fun t11 => if t11 < (12 : Int32) then k4 t1 else k4 (-6 : Int32)) (fun (s3 : Int32) => if s3 = (0 : Int32) then bnd (gR 5 7 a0) fun r5 => bnd (gI 5 8 a0) fun t6 => bnd (sI r5 t6 a1) fun _ => bnd (gI 5 8 a0) fun t7 => bnd (pI 5 8 a0 (t7 + (1 : Int32))) fun _ => bnd (gI 5 8 a0) fun t8 => rt t8 else bnd (cv 5 a0 (f_X6_refuse a0 s3)) fun t9 => rt t9)
set_option maxRecDepth 20000 in
theorem s_X6_row (a0 : Nat) (a1 : Int32) : Sm eX6_row [.ref a0, .int a1] eI (f_X6_row a0 a1) := by
  intro hp vr hr H
  unfold f_X6_row at H
  show Rn none 0 0 eX6_row 0 [some (.ref a0), some (.int a1), none] [] hp (eI vr, hr)
  refine r_iln rfl rfl rfl ?_
  refine r_ic (v := 0) rfl ci_0 ?_
  refine r_bi (v := 99) rfl cb_99 ?_
  refine r_stI (rest := []) H rfl rfl (s_X6_outside a1 (0 : Int32) (99 : Int32)) rfl rfl ⟨rfl, rfl⟩ rfl (fun t1 h2 H => ?_)
  refine r_isn (L' := [some (.ref a0), some (.int a1), some (.int t1)]) rfl rfl (Nat.le_of_ble_eq_true rfl) rfl ?_
  refine r_iln rfl rfl rfl ?_
  refine r_jn (P := (fun (s3 : Int32) hq => Rn none 0 0 eX6_row 13 [some (.ref a0), some (.int a1), some (.int s3)] [] hq (eI vr, hr))) H (fun s3 hs3 H  => ?_) (fun k4 K4 H => ?_)
  · refine r_iln rfl rfl rfl ?_
    refine r_if H rfl rfl (fun H => ?_) (fun H => ?_)
    · refine r_aln rfl rfl rfl ?_
      refine r_gR H rfl kd_5_7 (fun r5 H => ?_)
      refine r_aln rfl rfl rfl ?_
      refine r_gI' H rfl kl_5_8 (fun t6 H => ?_)
      refine r_iln rfl rfl rfl ?_
      refine r_sI H rfl (fun H => ?_)
      refine r_aln rfl rfl rfl ?_
      refine r_dupr rfl ?_
      refine r_gI' H rfl kl_5_8 (fun t7 H => ?_)
      refine r_ic (v := 1) rfl ci_1 ?_
      refine r_add rfl ?_
      refine r_pI H rfl kd_5_8 (fun H => ?_)
      refine r_aln rfl rfl rfl ?_
      refine r_gI' H rfl kl_5_8 (fun t8 H => ?_)
      exact r_reti H rfl rfl ⟨Nat.zero_le _, Nat.zero_le _⟩
    · refine r_aln rfl rfl rfl ?_
      refine r_iln rfl rfl rfl ?_
      refine r_vtI (rest := []) H rfl rfl rfl (s_X6_refuse a0 s3) rfl rfl ⟨rfl, rfl⟩ rfl (fun t9 h10 H => ?_)
      exact r_reti H rfl rfl ⟨Nat.zero_le _, Nat.zero_le _⟩
  · refine r_if H rfl rfl (fun H => ?_) (fun H => ?_)
    · have q := K4 _ _ H
      exact q
    · refine r_aln rfl rfl rfl ?_
      refine r_gI' H rfl kl_5_8 (fun t11 H => ?_)
      refine r_bi (v := 12) rfl cb_12 ?_
      refine r_cmp H rfl rfl (fun H => ?_) (fun H => ?_)
      · have q := K4 _ _ H
        exact q
      · refine r_bi (v := -6) rfl cb_m6 ?_
        refine r_isn (L' := [some (.ref a0), some (.int a1), some (.int (-6 : Int32))]) rfl rfl (Nat.le_of_ble_eq_true rfl) rfl ?_
        have q := K4 _ _ H
        exact q
def f_X6_judge (a0 : Nat) : M Int32 := bnd (gI 5 8 a0) fun t1 => bnd (pI 5 8 a0 (0 : Int32)) fun _ => loopK NF (fun (s2 : Int32) k3 => if t1 ≤ s2 then rt (-9 : Int32) else bnd (gR 5 0 a0) fun r4 => bnd (gR 4 0 r4) fun r5 => bnd (cv 0 r5 (f_X0_has r5 s2)) fun t6 => if t6 = (0 : Int32) then rt s2 else bnd (gR 5 0 a0) fun r8 => bnd (gR 4 0 r8) fun r9 => bnd (gR 0 6 r9) fun r10 => bnd (aI r10 s2) fun t11 => bnd (gR 5 7 a0) fun r12 => bnd (aI r12 s2) fun t13 => if t11 = t13 then k3 (s2 + (1 : Int32)) else rt s2) (0 : Int32)
set_option maxRecDepth 20000 in
theorem s_X6_judge (a0 : Nat) : Sm eX6_judge [.ref a0] eI (f_X6_judge a0) := by
  intro hp vr hr H
  unfold f_X6_judge at H
  show Rn none 0 0 eX6_judge 0 [some (.ref a0), none, none] [] hp (eI vr, hr)
  refine r_aln rfl rfl rfl ?_
  refine r_gI' H rfl kl_5_8 (fun t1 H => ?_)
  refine r_isn (L' := [some (.ref a0), some (.int t1), none]) rfl rfl (Nat.le_of_ble_eq_true rfl) rfl ?_
  refine r_aln rfl rfl rfl ?_
  refine r_ic (v := 0) rfl ci_0 ?_
  refine r_pI H rfl kd_5_8 (fun H => ?_)
  refine r_ic (v := 0) rfl ci_0 ?_
  refine r_isn (L' := [some (.ref a0), some (.int t1), some (.int (0 : Int32))]) rfl rfl (Nat.le_of_ble_eq_true rfl) rfl ?_
  refine (r_loop (P := (fun (s2 : Int32) hq => Rn none 0 0 eX6_judge 8 [some (.ref a0), some (.int t1), some (.int s2)] [] hq (eI vr, hr))) ?_ NF _ _ H)
  intro k3 K3 s2 hs2 H 
  refine r_iln rfl rfl rfl ?_
  refine r_iln rfl rfl rfl ?_
  refine r_cmp H rfl rfl (fun H => ?_) (fun H => ?_)
  · refine r_bi (v := -9) rfl cb_m9 ?_
    exact r_reti H rfl rfl ⟨Nat.zero_le _, Nat.zero_le _⟩
  · refine r_aln rfl rfl rfl ?_
    refine r_gR H rfl kd_5_0 (fun r4 H => ?_)
    refine r_gR H rfl kd_4_0 (fun r5 H => ?_)
    refine r_iln rfl rfl rfl ?_
    refine r_vtI (rest := []) H rfl rfl rfl (s_X0_has r5 s2) rfl rfl ⟨rfl, rfl⟩ rfl (fun t6 h7 H => ?_)
    refine r_if H rfl rfl (fun H => ?_) (fun H => ?_)
    · refine r_iln rfl rfl rfl ?_
      exact r_reti H rfl rfl ⟨Nat.zero_le _, Nat.zero_le _⟩
    · refine r_aln rfl rfl rfl ?_
      refine r_gR H rfl kd_5_0 (fun r8 H => ?_)
      refine r_gR H rfl kd_4_0 (fun r9 H => ?_)
      refine r_gR H rfl kd_0_6 (fun r10 H => ?_)
      refine r_iln rfl rfl rfl ?_
      refine r_aI' H rfl (fun t11 H => ?_)
      refine r_aln rfl rfl rfl ?_
      refine r_gR H rfl kd_5_7 (fun r12 H => ?_)
      refine r_iln rfl rfl rfl ?_
      refine r_aI' H rfl (fun t13 H => ?_)
      refine r_cmp H rfl rfl (fun H => ?_) (fun H => ?_)
      · refine r_inc (v := 1) (L' := [some (.ref a0), some (.int t1), some (.int (s2 + (1 : Int32)))]) rfl rfl ci_1 rfl ?_
        refine r_go rfl ?_
        have q := K3 _ _ H
        exact q
      · refine r_iln rfl rfl rfl ?_
        exact r_reti H rfl rfl ⟨Nat.zero_le _, Nat.zero_le _⟩
def f_X6_clear (a0 : Nat) : M Int32 := bnd (gI 5 8 a0) fun t1 => bnd (pI 5 8 a0 (0 : Int32)) fun _ => rt t1
set_option maxRecDepth 20000 in
theorem s_X6_clear (a0 : Nat) : Sm eX6_clear [.ref a0] eI (f_X6_clear a0) := by
  intro hp vr hr H
  unfold f_X6_clear at H
  show Rn none 0 0 eX6_clear 0 [some (.ref a0), none] [] hp (eI vr, hr)
  refine r_aln rfl rfl rfl ?_
  refine r_gI' H rfl kl_5_8 (fun t1 H => ?_)
  refine r_isn (L' := [some (.ref a0), some (.int t1)]) rfl rfl (Nat.le_of_ble_eq_true rfl) rfl ?_
  refine r_aln rfl rfl rfl ?_
  refine r_ic (v := 0) rfl ci_0 ?_
  refine r_pI H rfl kd_5_8 (fun H => ?_)
  refine r_iln rfl rfl rfl ?_
  exact r_reti H rfl rfl ⟨Nat.zero_le _, Nat.zero_le _⟩
def f_X6_lots (a0 : Nat) (a1 : Int32) (a2 : Int32) (a3 : Int32) : M Int32 := bnd (f_X6_outside a1 (1 : Int32) (20 : Int32)) fun t1 => bnd (f_X6_noChoice a3 (2 : Int32)) fun t3 => bnd (f_X6_first t1 t3) fun t5 => if t5 = (0 : Int32) then loopK NF (fun (s7 : Int32 × Int32 × Int32 × Int32) k8 => if a1 ≤ s7.2.2.2 then if ¬ a3 = (0 : Int32) then rt s7.2.2.1 else rt s7.2.1 else bnd (gR 5 4 a0) fun r9 => bnd (gR 5 0 a0) fun r10 => bnd (gR 4 0 r10) fun r11 => bnd (cv 0 r9 (f_X0_copyFrom r9 r11)) fun _ => bnd (gR 5 4 a0) fun r14 => bnd (cv 0 r14 (f_X0_askByLot r14 s7.1)) fun t15 => bnd (gR 5 4 a0) fun r17 => bnd (cv 0 r17 (f_X0_passWeeks r17 (10 : Int32))) fun _ => bnd (gR 5 4 a0) fun r20 => bnd (cv 0 r20 (f_X0_allErrors r20)) fun t21 => bnd (gR 5 4 a0) fun r23 => bnd (cv 0 r23 (f_X0_fooledBy r23 (5 : Int32))) fun t24 => if ¬ t24 = (0 : Int32) then k8 (t15, (s7.2.1 + t21), (s7.2.2.1 + (0 : Int32)), (s7.2.2.2 + (1 : Int32))) else k8 (t15, (s7.2.1 + t21), (s7.2.2.1 + (1 : Int32)), (s7.2.2.2 + (1 : Int32)))) (a2, (0 : Int32), (0 : Int32), (0 : Int32)) else bnd (cv 5 a0 (f_X6_refuse a0 t5)) fun t26 => rt t26
set_option maxRecDepth 20000 in
theorem s_X6_lots (a0 : Nat) (a1 : Int32) (a2 : Int32) (a3 : Int32) : Sm eX6_lots [.ref a0, .int a1, .int a2, .int a3] eI (f_X6_lots a0 a1 a2 a3) := by
  intro hp vr hr H
  unfold f_X6_lots at H
  show Rn none 0 0 eX6_lots 0 [some (.ref a0), some (.int a1), some (.int a2), some (.int a3), none, none, none, none, none] [] hp (eI vr, hr)
  refine r_iln rfl rfl rfl ?_
  refine r_ic (v := 1) rfl ci_1 ?_
  refine r_bi (v := 20) rfl cb_20 ?_
  refine r_stI (rest := []) H rfl rfl (s_X6_outside a1 (1 : Int32) (20 : Int32)) rfl rfl ⟨rfl, rfl⟩ rfl (fun t1 h2 H => ?_)
  refine r_iln rfl rfl rfl ?_
  refine r_ic (v := 2) rfl ci_2 ?_
  refine r_stI (rest := [.int t1]) H rfl rfl (s_X6_noChoice a3 (2 : Int32)) rfl rfl ⟨rfl, rfl⟩ rfl (fun t3 h4 H => ?_)
  refine r_stI (rest := []) H rfl rfl (s_X6_first t1 t3) rfl rfl ⟨rfl, rfl⟩ rfl (fun t5 h6 H => ?_)
  refine r_is (L' := [some (.ref a0), some (.int a1), some (.int a2), some (.int a3), some (.int t5), none, none, none, none]) rfl (Nat.le_of_ble_eq_true rfl) rfl ?_
  refine r_il rfl rfl ?_
  refine r_if H rfl rfl (fun H => ?_) (fun H => ?_)
  · refine r_iln rfl rfl rfl ?_
    refine r_is (L' := [some (.ref a0), some (.int a1), some (.int a2), some (.int a3), some (.int t5), some (.int a2), none, none, none]) rfl (Nat.le_of_ble_eq_true rfl) rfl ?_
    refine r_ic (v := 0) rfl ci_0 ?_
    refine r_is (L' := [some (.ref a0), some (.int a1), some (.int a2), some (.int a3), some (.int t5), some (.int a2), some (.int (0 : Int32)), none, none]) rfl (Nat.le_of_ble_eq_true rfl) rfl ?_
    refine r_ic (v := 0) rfl ci_0 ?_
    refine r_is (L' := [some (.ref a0), some (.int a1), some (.int a2), some (.int a3), some (.int t5), some (.int a2), some (.int (0 : Int32)), some (.int (0 : Int32)), none]) rfl (Nat.le_of_ble_eq_true rfl) rfl ?_
    refine r_ic (v := 0) rfl ci_0 ?_
    refine r_is (L' := [some (.ref a0), some (.int a1), some (.int a2), some (.int a3), some (.int t5), some (.int a2), some (.int (0 : Int32)), some (.int (0 : Int32)), some (.int (0 : Int32))]) rfl (Nat.le_of_ble_eq_true rfl) rfl ?_
    refine (r_loop (P := (fun (s7 : Int32 × Int32 × Int32 × Int32) hq => ∀ ys7_0 : Int32, ∀ ys7_1 : Int32, ∀ ys7_2 : Int32, ∀ ys7_3 : Int32, s7 = (ys7_0, ys7_1, ys7_2, ys7_3) → Rn none 0 0 eX6_lots 23 [some (.ref a0), some (.int a1), some (.int a2), some (.int a3), some (.int t5), some (.int ys7_0), some (.int ys7_1), some (.int ys7_2), some (.int ys7_3)] [] hq (eI vr, hr))) ?_ NF _ _ H) _ _ _ _ rfl
    intro k8 K8 s7 hs7 H ys7_0 ys7_1 ys7_2 ys7_3 es7 
    subst es7
    refine r_il rfl rfl ?_
    refine r_iln rfl rfl rfl ?_
    refine r_cmp H rfl rfl (fun H => ?_) (fun H => ?_)
    · refine r_iln rfl rfl rfl ?_
      refine r_if H rfl rfl (fun H => ?_) (fun H => ?_)
      · refine r_il rfl rfl ?_
        exact r_reti H rfl rfl ⟨Nat.zero_le _, Nat.zero_le _⟩
      · refine r_il rfl rfl ?_
        refine r_go rfl ?_
        exact r_reti H rfl rfl ⟨Nat.zero_le _, Nat.zero_le _⟩
    · refine r_aln rfl rfl rfl ?_
      refine r_gR H rfl kd_5_4 (fun r9 H => ?_)
      refine r_aln rfl rfl rfl ?_
      refine r_gR H rfl kd_5_0 (fun r10 H => ?_)
      refine r_gR H rfl kd_4_0 (fun r11 H => ?_)
      refine r_vtU (rest := []) H rfl rfl rfl (s_X0_copyFrom r9 r11) rfl rfl ⟨rfl, rfl⟩ rfl (fun t12 h13 H => ?_)
      refine r_aln rfl rfl rfl ?_
      refine r_gR H rfl kd_5_4 (fun r14 H => ?_)
      refine r_il rfl rfl ?_
      refine r_vtI (rest := []) H rfl rfl rfl (s_X0_askByLot r14 ys7_0) rfl rfl ⟨rfl, rfl⟩ rfl (fun t15 h16 H => ?_)
      refine r_is (L' := [some (.ref a0), some (.int a1), some (.int a2), some (.int a3), some (.int t5), some (.int t15), some (.int ys7_1), some (.int ys7_2), some (.int ys7_3)]) rfl (Nat.le_of_ble_eq_true rfl) rfl ?_
      refine r_aln rfl rfl rfl ?_
      refine r_gR H rfl kd_5_4 (fun r17 H => ?_)
      refine r_bi (v := 10) rfl cb_10 ?_
      refine r_vtU (rest := []) H rfl rfl rfl (s_X0_passWeeks r17 (10 : Int32)) rfl rfl ⟨rfl, rfl⟩ rfl (fun t18 h19 H => ?_)
      refine r_il rfl rfl ?_
      refine r_aln rfl rfl rfl ?_
      refine r_gR H rfl kd_5_4 (fun r20 H => ?_)
      refine r_vtI (rest := [.int ys7_1]) H rfl rfl rfl (s_X0_allErrors r20) rfl rfl ⟨rfl, rfl⟩ rfl (fun t21 h22 H => ?_)
      refine r_add rfl ?_
      refine r_is (L' := [some (.ref a0), some (.int a1), some (.int a2), some (.int a3), some (.int t5), some (.int t15), some (.int (ys7_1 + t21)), some (.int ys7_2), some (.int ys7_3)]) rfl (Nat.le_of_ble_eq_true rfl) rfl ?_
      refine r_il rfl rfl ?_
      refine r_aln rfl rfl rfl ?_
      refine r_gR H rfl kd_5_4 (fun r23 H => ?_)
      refine r_ic (v := 5) rfl ci_5 ?_
      refine r_vtI (rest := [.int ys7_2]) H rfl rfl rfl (s_X0_fooledBy r23 (5 : Int32)) rfl rfl ⟨rfl, rfl⟩ rfl (fun t24 h25 H => ?_)
      refine r_if H rfl rfl (fun H => ?_) (fun H => ?_)
      · refine r_ic (v := 0) rfl ci_0 ?_
        refine r_add rfl ?_
        refine r_is (L' := [some (.ref a0), some (.int a1), some (.int a2), some (.int a3), some (.int t5), some (.int t15), some (.int (ys7_1 + t21)), some (.int (ys7_2 + (0 : Int32))), some (.int ys7_3)]) rfl (Nat.le_of_ble_eq_true rfl) rfl ?_
        refine r_inc (v := 1) (L' := [some (.ref a0), some (.int a1), some (.int a2), some (.int a3), some (.int t5), some (.int t15), some (.int (ys7_1 + t21)), some (.int (ys7_2 + (0 : Int32))), some (.int (ys7_3 + (1 : Int32)))]) rfl rfl ci_1 rfl ?_
        refine r_go rfl ?_
        have q := K8 _ _ H _ _ _ _ rfl
        exact q
      · refine r_ic (v := 1) rfl ci_1 ?_
        refine r_go rfl ?_
        refine r_add rfl ?_
        refine r_is (L' := [some (.ref a0), some (.int a1), some (.int a2), some (.int a3), some (.int t5), some (.int t15), some (.int (ys7_1 + t21)), some (.int (ys7_2 + (1 : Int32))), some (.int ys7_3)]) rfl (Nat.le_of_ble_eq_true rfl) rfl ?_
        refine r_inc (v := 1) (L' := [some (.ref a0), some (.int a1), some (.int a2), some (.int a3), some (.int t5), some (.int t15), some (.int (ys7_1 + t21)), some (.int (ys7_2 + (1 : Int32))), some (.int (ys7_3 + (1 : Int32)))]) rfl rfl ci_1 rfl ?_
        refine r_go rfl ?_
        have q := K8 _ _ H _ _ _ _ rfl
        exact q
  · refine r_aln rfl rfl rfl ?_
    refine r_il rfl rfl ?_
    refine r_vtI (rest := []) H rfl rfl rfl (s_X6_refuse a0 t5) rfl rfl ⟨rfl, rfl⟩ rfl (fun t26 h27 H => ?_)
    exact r_reti H rfl rfl ⟨Nat.zero_le _, Nat.zero_le _⟩
def f_X6_image (a0 : Nat) : M Int32 := bnd (gR 5 2 a0) fun r1 => bnd (gR 5 0 a0) fun r2 => bnd (cv 4 r1 (f_X5_copyFrom r1 r2)) fun _ => bnd (pZ 5 3 a0 (1 : Int32)) fun _ => bnd (gR 5 0 a0) fun r5 => bnd (gR 4 0 r5) fun r6 => bnd (gI 0 1 r6) fun t7 => rt t7
set_option maxRecDepth 20000 in
theorem s_X6_image (a0 : Nat) : Sm eX6_image [.ref a0] eI (f_X6_image a0) := by
  intro hp vr hr H
  unfold f_X6_image at H
  show Rn none 0 0 eX6_image 0 [some (.ref a0)] [] hp (eI vr, hr)
  refine r_aln rfl rfl rfl ?_
  refine r_gR H rfl kd_5_2 (fun r1 H => ?_)
  refine r_aln rfl rfl rfl ?_
  refine r_gR H rfl kd_5_0 (fun r2 H => ?_)
  refine r_vtU (rest := []) H rfl rfl rfl (s_X5_copyFrom r1 r2) rfl rfl ⟨rfl, rfl⟩ rfl (fun t3 h4 H => ?_)
  refine r_aln rfl rfl rfl ?_
  refine r_ic (v := 1) rfl ci_1 ?_
  refine r_pZ H rfl kd_5_3 (fun H => ?_)
  refine r_aln rfl rfl rfl ?_
  refine r_gR H rfl kd_5_0 (fun r5 H => ?_)
  refine r_gR H rfl kd_4_0 (fun r6 H => ?_)
  refine r_gI' H rfl kl_0_1 (fun t7 H => ?_)
  exact r_reti H rfl rfl ⟨Nat.zero_le _, Nat.zero_le _⟩
def f_X6_restore (a0 : Nat) : M Int32 := bnd (gI 5 3 a0) fun t1 => if ¬ t1 = (0 : Int32) then bnd (gR 5 0 a0) fun r2 => bnd (gR 5 2 a0) fun r3 => bnd (cv 4 r2 (f_X5_copyFrom r2 r3)) fun _ => bnd (gR 5 5 a0) fun r6 => bnd (pI 2 0 r6 (0 : Int32)) fun _ => bnd (gR 5 0 a0) fun r7 => bnd (gR 4 0 r7) fun r8 => bnd (gI 0 1 r8) fun t9 => rt t9 else bnd (cv 5 a0 (f_X6_refuse a0 (-3 : Int32))) fun t10 => rt t10
set_option maxRecDepth 20000 in
theorem s_X6_restore (a0 : Nat) : Sm eX6_restore [.ref a0] eI (f_X6_restore a0) := by
  intro hp vr hr H
  unfold f_X6_restore at H
  show Rn none 0 0 eX6_restore 0 [some (.ref a0)] [] hp (eI vr, hr)
  refine r_aln rfl rfl rfl ?_
  refine r_gI' H rfl kl_5_3 (fun t1 H => ?_)
  refine r_if H rfl rfl (fun H => ?_) (fun H => ?_)
  · refine r_aln rfl rfl rfl ?_
    refine r_gR H rfl kd_5_0 (fun r2 H => ?_)
    refine r_aln rfl rfl rfl ?_
    refine r_gR H rfl kd_5_2 (fun r3 H => ?_)
    refine r_vtU (rest := []) H rfl rfl rfl (s_X5_copyFrom r2 r3) rfl rfl ⟨rfl, rfl⟩ rfl (fun t4 h5 H => ?_)
    refine r_aln rfl rfl rfl ?_
    refine r_gR H rfl kd_5_5 (fun r6 H => ?_)
    refine r_ic (v := 0) rfl ci_0 ?_
    refine r_pI H rfl kd_2_0 (fun H => ?_)
    refine r_aln rfl rfl rfl ?_
    refine r_gR H rfl kd_5_0 (fun r7 H => ?_)
    refine r_gR H rfl kd_4_0 (fun r8 H => ?_)
    refine r_gI' H rfl kl_0_1 (fun t9 H => ?_)
    exact r_reti H rfl rfl ⟨Nat.zero_le _, Nat.zero_le _⟩
  · refine r_aln rfl rfl rfl ?_
    refine r_bi (v := -3) rfl cb_m3 ?_
    refine r_vtI (rest := []) H rfl rfl rfl (s_X6_refuse a0 (-3 : Int32)) rfl rfl ⟨rfl, rfl⟩ rfl (fun t10 h11 H => ?_)
    exact r_reti H rfl rfl ⟨Nat.zero_le _, Nat.zero_le _⟩
def f_X6_count (a0 : Nat) (a1 : Int32) : M Int32 := if a1 = (0 : Int32) then bnd (gR 5 0 a0) fun r2 => bnd (gR 4 0 r2) fun r3 => bnd (gI 0 0 r3) fun t4 => rt t4 else if a1 = (1 : Int32) then bnd (gR 5 0 a0) fun r6 => bnd (gR 4 0 r6) fun r7 => bnd (gI 0 1 r7) fun t8 => rt t8 else if a1 = (2 : Int32) then bnd (gR 5 0 a0) fun r10 => bnd (gR 4 0 r10) fun r11 => bnd (gR 5 0 a0) fun r12 => bnd (gR 4 0 r12) fun r13 => bnd (gR 0 5 r13) fun r14 => bnd (cv 0 r11 (f_X0_sum r11 r14)) fun t15 => rt t15 else if a1 = (3 : Int32) then bnd (gR 5 0 a0) fun r18 => bnd (gR 4 0 r18) fun r19 => bnd (gR 5 0 a0) fun r20 => bnd (gR 4 0 r20) fun r21 => bnd (gR 0 6 r21) fun r22 => bnd (cv 0 r19 (f_X0_sum r19 r22)) fun t23 => rt t23 else if a1 = (4 : Int32) then bnd (gR 5 0 a0) fun r26 => bnd (gR 4 1 r26) fun r27 => bnd (cv 3 r27 (f_X4_countWays r27)) fun t28 => rt t28 else if a1 = (5 : Int32) then bnd (gR 5 6 a0) fun r31 => bnd (gI 1 0 r31) fun t32 => rt t32 else if a1 = (6 : Int32) then bnd (gI 5 8 a0) fun t34 => rt t34 else if a1 = (7 : Int32) then bnd (gR 5 5 a0) fun r36 => bnd (gI 2 0 r36) fun t37 => rt t37 else if a1 < (11 : Int32) then rt (-9 : Int32) else if (16 : Int32) < a1 then rt (-9 : Int32) else bnd (gR 5 9 a0) fun r38 => bnd (aI r38 (a1 - (10 : Int32))) fun t39 => rt t39
set_option maxRecDepth 20000 in
theorem s_X6_count (a0 : Nat) (a1 : Int32) : Sm eX6_count [.ref a0, .int a1] eI (f_X6_count a0 a1) := by
  intro hp vr hr H
  unfold f_X6_count at H
  show Rn none 0 0 eX6_count 0 [some (.ref a0), some (.int a1)] [] hp (eI vr, hr)
  refine r_iln rfl rfl rfl ?_
  rcases Decidable.em (a1 = (0 : Int32)) with h1 | h1
  · rw [if_pos h1] at H; refine r_tab (t := 2) rfl (by rw [h1]; rfl) ?_
    refine r_aln rfl rfl rfl ?_
    refine r_gR H rfl kd_5_0 (fun r2 H => ?_)
    refine r_gR H rfl kd_4_0 (fun r3 H => ?_)
    refine r_gI' H rfl kl_0_0 (fun t4 H => ?_)
    exact r_reti H rfl rfl ⟨Nat.zero_le _, Nat.zero_le _⟩
  · rw [if_neg h1] at H; rcases Decidable.em (a1 = (1 : Int32)) with h5 | h5
    · rw [if_pos h5] at H; refine r_tab (t := 7) rfl (by rw [h5]; rfl) ?_
      refine r_aln rfl rfl rfl ?_
      refine r_gR H rfl kd_5_0 (fun r6 H => ?_)
      refine r_gR H rfl kd_4_0 (fun r7 H => ?_)
      refine r_gI' H rfl kl_0_1 (fun t8 H => ?_)
      exact r_reti H rfl rfl ⟨Nat.zero_le _, Nat.zero_le _⟩
    · rw [if_neg h5] at H; rcases Decidable.em (a1 = (2 : Int32)) with h9 | h9
      · rw [if_pos h9] at H; refine r_tab (t := 12) rfl (by rw [h9]; rfl) ?_
        refine r_aln rfl rfl rfl ?_
        refine r_gR H rfl kd_5_0 (fun r10 H => ?_)
        refine r_gR H rfl kd_4_0 (fun r11 H => ?_)
        refine r_aln rfl rfl rfl ?_
        refine r_gR H rfl kd_5_0 (fun r12 H => ?_)
        refine r_gR H rfl kd_4_0 (fun r13 H => ?_)
        refine r_gR H rfl kd_0_5 (fun r14 H => ?_)
        refine r_vtI (rest := []) H rfl rfl rfl (s_X0_sum r11 r14) rfl rfl ⟨rfl, rfl⟩ rfl (fun t15 h16 H => ?_)
        exact r_reti H rfl rfl ⟨Nat.zero_le _, Nat.zero_le _⟩
      · rw [if_neg h9] at H; rcases Decidable.em (a1 = (3 : Int32)) with h17 | h17
        · rw [if_pos h17] at H; refine r_tab (t := 21) rfl (by rw [h17]; rfl) ?_
          refine r_aln rfl rfl rfl ?_
          refine r_gR H rfl kd_5_0 (fun r18 H => ?_)
          refine r_gR H rfl kd_4_0 (fun r19 H => ?_)
          refine r_aln rfl rfl rfl ?_
          refine r_gR H rfl kd_5_0 (fun r20 H => ?_)
          refine r_gR H rfl kd_4_0 (fun r21 H => ?_)
          refine r_gR H rfl kd_0_6 (fun r22 H => ?_)
          refine r_vtI (rest := []) H rfl rfl rfl (s_X0_sum r19 r22) rfl rfl ⟨rfl, rfl⟩ rfl (fun t23 h24 H => ?_)
          exact r_reti H rfl rfl ⟨Nat.zero_le _, Nat.zero_le _⟩
        · rw [if_neg h17] at H; rcases Decidable.em (a1 = (4 : Int32)) with h25 | h25
          · rw [if_pos h25] at H; refine r_tab (t := 30) rfl (by rw [h25]; rfl) ?_
            refine r_aln rfl rfl rfl ?_
            refine r_gR H rfl kd_5_0 (fun r26 H => ?_)
            refine r_gR H rfl kd_4_1 (fun r27 H => ?_)
            refine r_vtI (rest := []) H rfl rfl rfl (s_X4_countWays r27) rfl rfl ⟨rfl, rfl⟩ rfl (fun t28 h29 H => ?_)
            exact r_reti H rfl rfl ⟨Nat.zero_le _, Nat.zero_le _⟩
          · rw [if_neg h25] at H; rcases Decidable.em (a1 = (5 : Int32)) with h30 | h30
            · rw [if_pos h30] at H; refine r_tab (t := 35) rfl (by rw [h30]; rfl) ?_
              refine r_aln rfl rfl rfl ?_
              refine r_gR H rfl kd_5_6 (fun r31 H => ?_)
              refine r_gI' H rfl kl_1_0 (fun t32 H => ?_)
              exact r_reti H rfl rfl ⟨Nat.zero_le _, Nat.zero_le _⟩
            · rw [if_neg h30] at H; rcases Decidable.em (a1 = (6 : Int32)) with h33 | h33
              · rw [if_pos h33] at H; refine r_tab (t := 39) rfl (by rw [h33]; rfl) ?_
                refine r_aln rfl rfl rfl ?_
                refine r_gI' H rfl kl_5_8 (fun t34 H => ?_)
                exact r_reti H rfl rfl ⟨Nat.zero_le _, Nat.zero_le _⟩
              · rw [if_neg h33] at H; rcases Decidable.em (a1 = (7 : Int32)) with h35 | h35
                · rw [if_pos h35] at H; refine r_tab (t := 42) rfl (by rw [h35]; rfl) ?_
                  refine r_aln rfl rfl rfl ?_
                  refine r_gR H rfl kd_5_5 (fun r36 H => ?_)
                  refine r_gI' H rfl kl_2_0 (fun t37 H => ?_)
                  exact r_reti H rfl rfl ⟨Nat.zero_le _, Nat.zero_le _⟩
                · rw [if_neg h35] at H; refine r_tab (t := 46) rfl (by have g0 := sw_ne h1 (v := 0) rfl; have g1 := sw_ne h5 (v := 1) rfl; have g2 := sw_ne h9 (v := 2) rfl; have g3 := sw_ne h17 (v := 3) rfl; have g4 := sw_ne h25 (v := 4) rfl; have g5 := sw_ne h30 (v := 5) rfl; have g6 := sw_ne h33 (v := 6) rfl; have g7 := sw_ne h35 (v := 7) rfl; exact (sw_out (by omega)).trans rfl) ?_
                  refine r_iln rfl rfl rfl ?_
                  refine r_bi (v := 11) rfl cb_11 ?_
                  refine r_cmp H rfl rfl (fun H => ?_) (fun H => ?_)
                  · refine r_bi (v := -9) rfl cb_m9 ?_
                    exact r_reti H rfl rfl ⟨Nat.zero_le _, Nat.zero_le _⟩
                  · refine r_iln rfl rfl rfl ?_
                    refine r_bi (v := 16) rfl cb_16 ?_
                    refine r_cmp H rfl rfl (fun H => ?_) (fun H => ?_)
                    · refine r_bi (v := -9) rfl cb_m9 ?_
                      exact r_reti H rfl rfl ⟨Nat.zero_le _, Nat.zero_le _⟩
                    · refine r_aln rfl rfl rfl ?_
                      refine r_gR H rfl kd_5_9 (fun r38 H => ?_)
                      refine r_iln rfl rfl rfl ?_
                      refine r_bi (v := 10) rfl cb_10 ?_
                      refine r_sub rfl ?_
                      refine r_aI' H rfl (fun t39 H => ?_)
                      refine r_go rfl ?_
                      exact r_reti H rfl rfl ⟨Nat.zero_le _, Nat.zero_le _⟩
def f_X7_no (a0 : Nat) (a1 : Int32) : M Int32 := bnd (gR 6 0 a0) fun r1 => bnd (aI r1 (-a1)) fun t2 => bnd (sI r1 (-a1) (t2 + (1 : Int32))) fun _ => rt a1
set_option maxRecDepth 20000 in
theorem s_X7_no (a0 : Nat) (a1 : Int32) : Sm eX7_no [.ref a0, .int a1] eI (f_X7_no a0 a1) := by
  intro hp vr hr H
  unfold f_X7_no at H
  show Rn none 0 0 eX7_no 0 [some (.ref a0), some (.int a1)] [] hp (eI vr, hr)
  refine r_aln rfl rfl rfl ?_
  refine r_gR H rfl kd_6_0 (fun r1 H => ?_)
  refine r_iln rfl rfl rfl ?_
  refine r_neg rfl ?_
  refine r_dup2 rfl ?_
  refine r_aI' H rfl (fun t2 H => ?_)
  refine r_ic (v := 1) rfl ci_1 ?_
  refine r_add rfl ?_
  refine r_sI H rfl (fun H => ?_)
  refine r_iln rfl rfl rfl ?_
  exact r_reti H rfl rfl ⟨Nat.zero_le _, Nat.zero_le _⟩
def f_X7_lower (a0 : Nat) (a1 : Int32) : M Int32 := bnd (gR 6 0 a0) fun r1 => bnd (aI r1 (-a1)) fun t2 => bnd (sI r1 (-a1) (t2 + (1 : Int32))) fun _ => rt ((1000000000 : Int32) - a1)
set_option maxRecDepth 20000 in
theorem s_X7_lower (a0 : Nat) (a1 : Int32) : Sm eX7_lower [.ref a0, .int a1] eI (f_X7_lower a0 a1) := by
  intro hp vr hr H
  unfold f_X7_lower at H
  show Rn none 0 0 eX7_lower 0 [some (.ref a0), some (.int a1)] [] hp (eI vr, hr)
  refine r_aln rfl rfl rfl ?_
  refine r_gR H rfl kd_6_0 (fun r1 H => ?_)
  refine r_iln rfl rfl rfl ?_
  refine r_neg rfl ?_
  refine r_dup2 rfl ?_
  refine r_aI' H rfl (fun t2 H => ?_)
  refine r_ic (v := 1) rfl ci_1 ?_
  refine r_add rfl ?_
  refine r_sI H rfl (fun H => ?_)
  refine r_lc (v := 1000000000) rfl cn_1000000000 ?_
  refine r_iln rfl rfl rfl ?_
  refine r_sub rfl ?_
  exact r_reti H rfl rfl ⟨Nat.zero_le _, Nat.zero_le _⟩
def f_X7_isIn (a0 : Int32) (a1 : Int32) (a2 : Int32) : M Int32 := if a0 < a1 then retZ (0 : Int32) else if a2 < a0 then retZ (0 : Int32) else retZ (1 : Int32)
set_option maxRecDepth 20000 in
theorem s_X7_isIn (a0 : Int32) (a1 : Int32) (a2 : Int32) : Sm eX7_isIn [.int a0, .int a1, .int a2] eI (f_X7_isIn a0 a1 a2) := by
  intro hp vr hr H
  unfold f_X7_isIn at H
  show Rn none 0 0 eX7_isIn 0 [some (.int a0), some (.int a1), some (.int a2)] [] hp (eI vr, hr)
  refine r_iln rfl rfl rfl ?_
  refine r_iln rfl rfl rfl ?_
  refine r_cmp H rfl rfl (fun H => ?_) (fun H => ?_)
  · refine r_ic (v := 0) rfl ci_0 ?_
    exact r_retz H rfl rfl ⟨Nat.zero_le _, Nat.zero_le _⟩
  · refine r_iln rfl rfl rfl ?_
    refine r_iln rfl rfl rfl ?_
    refine r_cmp H rfl rfl (fun H => ?_) (fun H => ?_)
    · refine r_ic (v := 0) rfl ci_0 ?_
      exact r_retz H rfl rfl ⟨Nat.zero_le _, Nat.zero_le _⟩
    · refine r_ic (v := 1) rfl ci_1 ?_
      refine r_go rfl ?_
      exact r_retz H rfl rfl ⟨Nat.zero_le _, Nat.zero_le _⟩
def f_X7_bound (a0 : Int32) (a1 : Int32) (a2 : Int32) : M Int32 := if a1 ≤ a0 then if a0 ≤ a2 then rt (0 : Int32) else rt (-6 : Int32) else rt (-4 : Int32)
set_option maxRecDepth 20000 in
theorem s_X7_bound (a0 : Int32) (a1 : Int32) (a2 : Int32) : Sm eX7_bound [.int a0, .int a1, .int a2] eI (f_X7_bound a0 a1 a2) := by
  intro hp vr hr H
  unfold f_X7_bound at H
  show Rn none 0 0 eX7_bound 0 [some (.int a0), some (.int a1), some (.int a2)] [] hp (eI vr, hr)
  refine r_iln rfl rfl rfl ?_
  refine r_iln rfl rfl rfl ?_
  refine r_cmp H rfl rfl (fun H => ?_) (fun H => ?_)
  · refine r_iln rfl rfl rfl ?_
    refine r_iln rfl rfl rfl ?_
    refine r_cmp H rfl rfl (fun H => ?_) (fun H => ?_)
    · refine r_ic (v := 0) rfl ci_0 ?_
      exact r_reti H rfl rfl ⟨Nat.zero_le _, Nat.zero_le _⟩
    · refine r_bi (v := -6) rfl cb_m6 ?_
      refine r_go rfl ?_
      exact r_reti H rfl rfl ⟨Nat.zero_le _, Nat.zero_le _⟩
  · refine r_bi (v := -4) rfl cb_m4 ?_
    refine r_go rfl ?_
    exact r_reti H rfl rfl ⟨Nat.zero_le _, Nat.zero_le _⟩
def f_X7_has (a0 : Int32) (a1 : Int32) : M Int32 := if ¬ ((a0 >>> (a1 &&& (31 : Int32))) &&& (1 : Int32)) = (1 : Int32) then retZ (0 : Int32) else retZ (1 : Int32)
set_option maxRecDepth 20000 in
theorem s_X7_has (a0 : Int32) (a1 : Int32) : Sm eX7_has [.int a0, .int a1] eI (f_X7_has a0 a1) := by
  intro hp vr hr H
  unfold f_X7_has at H
  show Rn none 0 0 eX7_has 0 [some (.int a0), some (.int a1)] [] hp (eI vr, hr)
  refine r_iln rfl rfl rfl ?_
  refine r_iln rfl rfl rfl ?_
  refine r_shr rfl ?_
  refine r_ic (v := 1) rfl ci_1 ?_
  refine r_and rfl ?_
  refine r_ic (v := 1) rfl ci_1 ?_
  refine r_cmp H rfl rfl (fun H => ?_) (fun H => ?_)
  · refine r_ic (v := 0) rfl ci_0 ?_
    exact r_retz H rfl rfl ⟨Nat.zero_le _, Nat.zero_le _⟩
  · refine r_ic (v := 1) rfl ci_1 ?_
    refine r_go rfl ?_
    exact r_retz H rfl rfl ⟨Nat.zero_le _, Nat.zero_le _⟩
def f_X7_bits (a0 : Int32) : M Int32 := loopK NF (fun (s1 : Int32 × Int32) k2 => if (31 : Int32) ≤ s1.2 then rt s1.1 else k2 ((s1.1 + ((a0 >>> (s1.2 &&& (31 : Int32))) &&& (1 : Int32))), (s1.2 + (1 : Int32)))) ((0 : Int32), (0 : Int32))
set_option maxRecDepth 20000 in
theorem s_X7_bits (a0 : Int32) : Sm eX7_bits [.int a0] eI (f_X7_bits a0) := by
  intro hp vr hr H
  unfold f_X7_bits at H
  show Rn none 0 0 eX7_bits 0 [some (.int a0), none, none] [] hp (eI vr, hr)
  refine r_ic (v := 0) rfl ci_0 ?_
  refine r_isn (L' := [some (.int a0), some (.int (0 : Int32)), none]) rfl rfl (Nat.le_of_ble_eq_true rfl) rfl ?_
  refine r_ic (v := 0) rfl ci_0 ?_
  refine r_isn (L' := [some (.int a0), some (.int (0 : Int32)), some (.int (0 : Int32))]) rfl rfl (Nat.le_of_ble_eq_true rfl) rfl ?_
  refine (r_loop (P := (fun (s1 : Int32 × Int32) hq => ∀ ys1_0 : Int32, ∀ ys1_1 : Int32, s1 = (ys1_0, ys1_1) → Rn none 0 0 eX7_bits 4 [some (.int a0), some (.int ys1_0), some (.int ys1_1)] [] hq (eI vr, hr))) ?_ NF _ _ H) _ _ rfl
  intro k2 K2 s1 hs1 H ys1_0 ys1_1 es1 
  subst es1
  refine r_iln rfl rfl rfl ?_
  refine r_bi (v := 31) rfl cb_31 ?_
  refine r_cmp H rfl rfl (fun H => ?_) (fun H => ?_)
  · refine r_iln rfl rfl rfl ?_
    exact r_reti H rfl rfl ⟨Nat.zero_le _, Nat.zero_le _⟩
  · refine r_iln rfl rfl rfl ?_
    refine r_iln rfl rfl rfl ?_
    refine r_iln rfl rfl rfl ?_
    refine r_shr rfl ?_
    refine r_ic (v := 1) rfl ci_1 ?_
    refine r_and rfl ?_
    refine r_add rfl ?_
    refine r_isn (L' := [some (.int a0), some (.int (ys1_0 + ((a0 >>> (ys1_1 &&& (31 : Int32))) &&& (1 : Int32)))), some (.int ys1_1)]) rfl rfl (Nat.le_of_ble_eq_true rfl) rfl ?_
    refine r_inc (v := 1) (L' := [some (.int a0), some (.int (ys1_0 + ((a0 >>> (ys1_1 &&& (31 : Int32))) &&& (1 : Int32)))), some (.int (ys1_1 + (1 : Int32)))]) rfl rfl ci_1 rfl ?_
    refine r_go rfl ?_
    have q := K2 _ _ H _ _ rfl
    exact q
def f_X7_far (a0 : Int32) (a1 : Int32) : M Int32 := if a1 ≤ a0 then rt (a0 - a1) else rt (a1 - a0)
set_option maxRecDepth 20000 in
theorem s_X7_far (a0 : Int32) (a1 : Int32) : Sm eX7_far [.int a0, .int a1] eI (f_X7_far a0 a1) := by
  intro hp vr hr H
  unfold f_X7_far at H
  show Rn none 0 0 eX7_far 0 [some (.int a0), some (.int a1)] [] hp (eI vr, hr)
  refine r_iln rfl rfl rfl ?_
  refine r_iln rfl rfl rfl ?_
  refine r_cmp H rfl rfl (fun H => ?_) (fun H => ?_)
  · refine r_iln rfl rfl rfl ?_
    refine r_iln rfl rfl rfl ?_
    refine r_sub rfl ?_
    exact r_reti H rfl rfl ⟨Nat.zero_le _, Nat.zero_le _⟩
  · refine r_iln rfl rfl rfl ?_
    refine r_iln rfl rfl rfl ?_
    refine r_sub rfl ?_
    refine r_go rfl ?_
    exact r_reti H rfl rfl ⟨Nat.zero_le _, Nat.zero_le _⟩
def f_X7_isPerson (a0 : Nat) (a1 : Int32) : M Int32 := if a1 < (0 : Int32) then retZ (0 : Int32) else bnd (gI 6 8 a0) fun t1 => if t1 ≤ a1 then retZ (0 : Int32) else retZ (1 : Int32)
set_option maxRecDepth 20000 in
theorem s_X7_isPerson (a0 : Nat) (a1 : Int32) : Sm eX7_isPerson [.ref a0, .int a1] eI (f_X7_isPerson a0 a1) := by
  intro hp vr hr H
  unfold f_X7_isPerson at H
  show Rn none 0 0 eX7_isPerson 0 [some (.ref a0), some (.int a1)] [] hp (eI vr, hr)
  refine r_iln rfl rfl rfl ?_
  refine r_if H rfl rfl (fun H => ?_) (fun H => ?_)
  · refine r_ic (v := 0) rfl ci_0 ?_
    exact r_retz H rfl rfl ⟨Nat.zero_le _, Nat.zero_le _⟩
  · refine r_iln rfl rfl rfl ?_
    refine r_aln rfl rfl rfl ?_
    refine r_gI' H rfl kl_6_8 (fun t1 H => ?_)
    refine r_cmp H rfl rfl (fun H => ?_) (fun H => ?_)
    · refine r_ic (v := 0) rfl ci_0 ?_
      exact r_retz H rfl rfl ⟨Nat.zero_le _, Nat.zero_le _⟩
    · refine r_ic (v := 1) rfl ci_1 ?_
      refine r_go rfl ?_
      exact r_retz H rfl rfl ⟨Nat.zero_le _, Nat.zero_le _⟩
def f_X7_areTwo (a0 : Nat) (a1 : Int32) (a2 : Int32) : M Int32 := bnd (cv 6 a0 (f_X7_isPerson a0 a1)) fun t1 => if t1 = (0 : Int32) then retZ (0 : Int32) else bnd (cv 6 a0 (f_X7_isPerson a0 a2)) fun t3 => if t3 = (0 : Int32) then retZ (0 : Int32) else if a1 = a2 then retZ (0 : Int32) else retZ (1 : Int32)
set_option maxRecDepth 20000 in
theorem s_X7_areTwo (a0 : Nat) (a1 : Int32) (a2 : Int32) : Sm eX7_areTwo [.ref a0, .int a1, .int a2] eI (f_X7_areTwo a0 a1 a2) := by
  intro hp vr hr H
  unfold f_X7_areTwo at H
  show Rn none 0 0 eX7_areTwo 0 [some (.ref a0), some (.int a1), some (.int a2)] [] hp (eI vr, hr)
  refine r_aln rfl rfl rfl ?_
  refine r_iln rfl rfl rfl ?_
  refine r_vtI (rest := []) H rfl rfl rfl (s_X7_isPerson a0 a1) rfl rfl ⟨rfl, rfl⟩ rfl (fun t1 h2 H => ?_)
  refine r_if H rfl rfl (fun H => ?_) (fun H => ?_)
  · refine r_ic (v := 0) rfl ci_0 ?_
    exact r_retz H rfl rfl ⟨Nat.zero_le _, Nat.zero_le _⟩
  · refine r_aln rfl rfl rfl ?_
    refine r_iln rfl rfl rfl ?_
    refine r_vtI (rest := []) H rfl rfl rfl (s_X7_isPerson a0 a2) rfl rfl ⟨rfl, rfl⟩ rfl (fun t3 h4 H => ?_)
    refine r_if H rfl rfl (fun H => ?_) (fun H => ?_)
    · refine r_ic (v := 0) rfl ci_0 ?_
      exact r_retz H rfl rfl ⟨Nat.zero_le _, Nat.zero_le _⟩
    · refine r_iln rfl rfl rfl ?_
      refine r_iln rfl rfl rfl ?_
      refine r_cmp H rfl rfl (fun H => ?_) (fun H => ?_)
      · refine r_ic (v := 0) rfl ci_0 ?_
        exact r_retz H rfl rfl ⟨Nat.zero_le _, Nat.zero_le _⟩
      · refine r_ic (v := 1) rfl ci_1 ?_
        refine r_go rfl ?_
        exact r_retz H rfl rfl ⟨Nat.zero_le _, Nat.zero_le _⟩
def f_X7_isPlace (a0 : Int32) : M Int32 := if a0 < (0 : Int32) then retZ (0 : Int32) else if (8 : Int32) ≤ a0 then retZ (0 : Int32) else retZ (1 : Int32)
set_option maxRecDepth 20000 in
theorem s_X7_isPlace (a0 : Int32) : Sm eX7_isPlace [.int a0] eI (f_X7_isPlace a0) := by
  intro hp vr hr H
  unfold f_X7_isPlace at H
  show Rn none 0 0 eX7_isPlace 0 [some (.int a0)] [] hp (eI vr, hr)
  refine r_iln rfl rfl rfl ?_
  refine r_if H rfl rfl (fun H => ?_) (fun H => ?_)
  · refine r_ic (v := 0) rfl ci_0 ?_
    exact r_retz H rfl rfl ⟨Nat.zero_le _, Nat.zero_le _⟩
  · refine r_iln rfl rfl rfl ?_
    refine r_bi (v := 8) rfl cb_8 ?_
    refine r_cmp H rfl rfl (fun H => ?_) (fun H => ?_)
    · refine r_ic (v := 0) rfl ci_0 ?_
      exact r_retz H rfl rfl ⟨Nat.zero_le _, Nat.zero_le _⟩
    · refine r_ic (v := 1) rfl ci_1 ?_
      refine r_go rfl ?_
      exact r_retz H rfl rfl ⟨Nat.zero_le _, Nat.zero_le _⟩
def f_X7_all (a0 : Nat) : M Int32 := bnd (gI 6 8 a0) fun t1 => rt (((1 : Int32) <<< (t1 &&& (31 : Int32))) - (1 : Int32))
set_option maxRecDepth 20000 in
theorem s_X7_all (a0 : Nat) : Sm eX7_all [.ref a0] eI (f_X7_all a0) := by
  intro hp vr hr H
  unfold f_X7_all at H
  show Rn none 0 0 eX7_all 0 [some (.ref a0)] [] hp (eI vr, hr)
  refine r_ic (v := 1) rfl ci_1 ?_
  refine r_aln rfl rfl rfl ?_
  refine r_gI' H rfl kl_6_8 (fun t1 H => ?_)
  refine r_shl rfl ?_
  refine r_ic (v := 1) rfl ci_1 ?_
  refine r_sub rfl ?_
  exact r_reti H rfl rfl ⟨Nat.zero_le _, Nat.zero_le _⟩
def f_X7_feed (a0 : Nat) (a1 : Int32) : M Int32 := bnd (f_X7_bound a1 (0 : Int32) (255 : Int32)) fun t1 => jn (fun k4 => if ¬ t1 = (0 : Int32) then k4 t1 else bnd (gI 6 14 a0) fun t11 => if ¬ t11 = (96 : Int32) then k4 t1 else k4 (-6 : Int32)) (fun (s3 : Int32) => if s3 = (0 : Int32) then bnd (gR 6 10 a0) fun r5 => bnd (gI 6 14 a0) fun t6 => bnd (sI r5 t6 a1) fun _ => bnd (gI 6 14 a0) fun t7 => bnd (pI 6 14 a0 (t7 + (1 : Int32))) fun _ => bnd (gI 6 14 a0) fun t8 => rt t8 else bnd (cv 6 a0 (f_X7_no a0 s3)) fun t9 => rt t9)
set_option maxRecDepth 20000 in
theorem s_X7_feed (a0 : Nat) (a1 : Int32) : Sm eX7_feed [.ref a0, .int a1] eI (f_X7_feed a0 a1) := by
  intro hp vr hr H
  unfold f_X7_feed at H
  show Rn none 0 0 eX7_feed 0 [some (.ref a0), some (.int a1), none] [] hp (eI vr, hr)
  refine r_iln rfl rfl rfl ?_
  refine r_ic (v := 0) rfl ci_0 ?_
  refine r_si (v := 255) rfl cs_255 ?_
  refine r_stI (rest := []) H rfl rfl (s_X7_bound a1 (0 : Int32) (255 : Int32)) rfl rfl ⟨rfl, rfl⟩ rfl (fun t1 h2 H => ?_)
  refine r_isn (L' := [some (.ref a0), some (.int a1), some (.int t1)]) rfl rfl (Nat.le_of_ble_eq_true rfl) rfl ?_
  refine r_iln rfl rfl rfl ?_
  refine r_jn (P := (fun (s3 : Int32) hq => Rn none 0 0 eX7_feed 13 [some (.ref a0), some (.int a1), some (.int s3)] [] hq (eI vr, hr))) H (fun s3 hs3 H  => ?_) (fun k4 K4 H => ?_)
  · refine r_iln rfl rfl rfl ?_
    refine r_if H rfl rfl (fun H => ?_) (fun H => ?_)
    · refine r_aln rfl rfl rfl ?_
      refine r_gR H rfl kd_6_10 (fun r5 H => ?_)
      refine r_aln rfl rfl rfl ?_
      refine r_gI' H rfl kl_6_14 (fun t6 H => ?_)
      refine r_iln rfl rfl rfl ?_
      refine r_sI H rfl (fun H => ?_)
      refine r_aln rfl rfl rfl ?_
      refine r_dupr rfl ?_
      refine r_gI' H rfl kl_6_14 (fun t7 H => ?_)
      refine r_ic (v := 1) rfl ci_1 ?_
      refine r_add rfl ?_
      refine r_pI H rfl kd_6_14 (fun H => ?_)
      refine r_aln rfl rfl rfl ?_
      refine r_gI' H rfl kl_6_14 (fun t8 H => ?_)
      exact r_reti H rfl rfl ⟨Nat.zero_le _, Nat.zero_le _⟩
    · refine r_aln rfl rfl rfl ?_
      refine r_iln rfl rfl rfl ?_
      refine r_vtI (rest := []) H rfl rfl rfl (s_X7_no a0 s3) rfl rfl ⟨rfl, rfl⟩ rfl (fun t9 h10 H => ?_)
      exact r_reti H rfl rfl ⟨Nat.zero_le _, Nat.zero_le _⟩
  · refine r_if H rfl rfl (fun H => ?_) (fun H => ?_)
    · have q := K4 _ _ H
      exact q
    · refine r_aln rfl rfl rfl ?_
      refine r_gI' H rfl kl_6_14 (fun t11 H => ?_)
      refine r_bi (v := 96) rfl cb_96 ?_
      refine r_cmp H rfl rfl (fun H => ?_) (fun H => ?_)
      · have q := K4 _ _ H
        exact q
      · refine r_bi (v := -6) rfl cb_m6 ?_
        refine r_isn (L' := [some (.ref a0), some (.int a1), some (.int (-6 : Int32))]) rfl rfl (Nat.le_of_ble_eq_true rfl) rfl ?_
        have q := K4 _ _ H
        exact q
def f_X7_next (a0 : Nat) : M Int32 := bnd (gI 6 15 a0) fun t1 => bnd (gI 6 14 a0) fun t2 => if t2 ≤ t1 then rt (-1 : Int32) else bnd (gR 6 10 a0) fun r3 => bnd (gI 6 15 a0) fun t4 => bnd (aI r3 t4) fun t5 => rt t5
set_option maxRecDepth 20000 in
theorem s_X7_next (a0 : Nat) : Sm eX7_next [.ref a0] eI (f_X7_next a0) := by
  intro hp vr hr H
  unfold f_X7_next at H
  show Rn none 0 0 eX7_next 0 [some (.ref a0)] [] hp (eI vr, hr)
  refine r_aln rfl rfl rfl ?_
  refine r_gI' H rfl kl_6_15 (fun t1 H => ?_)
  refine r_aln rfl rfl rfl ?_
  refine r_gI' H rfl kl_6_14 (fun t2 H => ?_)
  refine r_cmp H rfl rfl (fun H => ?_) (fun H => ?_)
  · refine r_ic (v := -1) rfl ci_m1 ?_
    exact r_reti H rfl rfl ⟨Nat.zero_le _, Nat.zero_le _⟩
  · refine r_aln rfl rfl rfl ?_
    refine r_gR H rfl kd_6_10 (fun r3 H => ?_)
    refine r_aln rfl rfl rfl ?_
    refine r_gI' H rfl kl_6_15 (fun t4 H => ?_)
    refine r_aI' H rfl (fun t5 H => ?_)
    refine r_go rfl ?_
    exact r_reti H rfl rfl ⟨Nat.zero_le _, Nat.zero_le _⟩
def f_X7_readsDigits (a0 : Nat) (a1 : Int32) (a2 : Int32) : M Int32 := loopK NF (fun (s1 : Int32 × Int32) k2 => if a2 ≤ s1.2 then bnd (gR 6 13 a0) fun r3 => bnd (sI r3 a1 s1.1) fun _ => retZ (1 : Int32) else bnd (cv 6 a0 (f_X7_next a0)) fun t4 => bnd (f_X7_isIn t4 (48 : Int32) (57 : Int32)) fun t6 => if ¬ t6 = (0 : Int32) then bnd (cv 6 a0 (f_X7_next a0)) fun t8 => bnd (gI 6 15 a0) fun t10 => bnd (pI 6 15 a0 (t10 + (1 : Int32))) fun _ => k2 (((((10 : Int32) * s1.1) + t8) - (48 : Int32)), (s1.2 + (1 : Int32))) else retZ (0 : Int32)) ((0 : Int32), (0 : Int32))
set_option maxRecDepth 20000 in
theorem s_X7_readsDigits (a0 : Nat) (a1 : Int32) (a2 : Int32) : Sm eX7_readsDigits [.ref a0, .int a1, .int a2] eI (f_X7_readsDigits a0 a1 a2) := by
  intro hp vr hr H
  unfold f_X7_readsDigits at H
  show Rn none 0 0 eX7_readsDigits 0 [some (.ref a0), some (.int a1), some (.int a2), none, none] [] hp (eI vr, hr)
  refine r_ic (v := 0) rfl ci_0 ?_
  refine r_isn (L' := [some (.ref a0), some (.int a1), some (.int a2), some (.int (0 : Int32)), none]) rfl rfl (Nat.le_of_ble_eq_true rfl) rfl ?_
  refine r_ic (v := 0) rfl ci_0 ?_
  refine r_is (L' := [some (.ref a0), some (.int a1), some (.int a2), some (.int (0 : Int32)), some (.int (0 : Int32))]) rfl (Nat.le_of_ble_eq_true rfl) rfl ?_
  refine (r_loop (P := (fun (s1 : Int32 × Int32) hq => ∀ ys1_0 : Int32, ∀ ys1_1 : Int32, s1 = (ys1_0, ys1_1) → Rn none 0 0 eX7_readsDigits 4 [some (.ref a0), some (.int a1), some (.int a2), some (.int ys1_0), some (.int ys1_1)] [] hq (eI vr, hr))) ?_ NF _ _ H) _ _ rfl
  intro k2 K2 s1 hs1 H ys1_0 ys1_1 es1 
  subst es1
  refine r_il rfl rfl ?_
  refine r_iln rfl rfl rfl ?_
  refine r_cmp H rfl rfl (fun H => ?_) (fun H => ?_)
  · refine r_aln rfl rfl rfl ?_
    refine r_gR H rfl kd_6_13 (fun r3 H => ?_)
    refine r_iln rfl rfl rfl ?_
    refine r_iln rfl rfl rfl ?_
    refine r_sI H rfl (fun H => ?_)
    refine r_ic (v := 1) rfl ci_1 ?_
    exact r_retz H rfl rfl ⟨Nat.zero_le _, Nat.zero_le _⟩
  · refine r_aln rfl rfl rfl ?_
    refine r_vtI (rest := []) H rfl rfl rfl (s_X7_next a0) rfl rfl ⟨rfl, rfl⟩ rfl (fun t4 h5 H => ?_)
    refine r_bi (v := 48) rfl cb_48 ?_
    refine r_bi (v := 57) rfl cb_57 ?_
    refine r_stI (rest := []) H rfl rfl (s_X7_isIn t4 (48 : Int32) (57 : Int32)) rfl rfl ⟨rfl, rfl⟩ rfl (fun t6 h7 H => ?_)
    refine r_if H rfl rfl (fun H => ?_) (fun H => ?_)
    · refine r_bi (v := 10) rfl cb_10 ?_
      refine r_iln rfl rfl rfl ?_
      refine r_mul rfl ?_
      refine r_aln rfl rfl rfl ?_
      refine r_vtI (rest := [.int ((10 : Int32) * ys1_0)]) H rfl rfl rfl (s_X7_next a0) rfl rfl ⟨rfl, rfl⟩ rfl (fun t8 h9 H => ?_)
      refine r_add rfl ?_
      refine r_bi (v := 48) rfl cb_48 ?_
      refine r_sub rfl ?_
      refine r_isn (L' := [some (.ref a0), some (.int a1), some (.int a2), some (.int ((((10 : Int32) * ys1_0) + t8) - (48 : Int32))), some (.int ys1_1)]) rfl rfl (Nat.le_of_ble_eq_true rfl) rfl ?_
      refine r_aln rfl rfl rfl ?_
      refine r_dupr rfl ?_
      refine r_gI' H rfl kl_6_15 (fun t10 H => ?_)
      refine r_ic (v := 1) rfl ci_1 ?_
      refine r_add rfl ?_
      refine r_pI H rfl kd_6_15 (fun H => ?_)
      refine r_inc (v := 1) (L' := [some (.ref a0), some (.int a1), some (.int a2), some (.int ((((10 : Int32) * ys1_0) + t8) - (48 : Int32))), some (.int (ys1_1 + (1 : Int32)))]) rfl rfl ci_1 rfl ?_
      refine r_go rfl ?_
      have q := K2 _ _ H _ _ rfl
      exact q
    · refine r_ic (v := 0) rfl ci_0 ?_
      exact r_retz H rfl rfl ⟨Nat.zero_le _, Nat.zero_le _⟩
def f_X7_readsAll (a0 : Nat) (a1 : Int32) (a2 : Int32) : M Int32 := if a1 = (98 : Int32) then bnd (cv 6 a0 (f_X7_readsDigits a0 a2 (1 : Int32))) fun t2 => if t2 = (0 : Int32) then retZ (0 : Int32) else bnd (cv 6 a0 (f_X7_readsDigits a0 (a2 + (1 : Int32)) (2 : Int32))) fun t4 => if t4 = (0 : Int32) then retZ (0 : Int32) else retZ (1 : Int32) else if a1 = (110 : Int32) then bnd (cv 6 a0 (f_X7_readsDigits a0 a2 (1 : Int32))) fun t7 => retZ t7 else if a1 = (112 : Int32) then bnd (cv 6 a0 (f_X7_readsDigits a0 a2 (1 : Int32))) fun t10 => if t10 = (0 : Int32) then retZ (0 : Int32) else bnd (cv 6 a0 (f_X7_readsDigits a0 (a2 + (1 : Int32)) (1 : Int32))) fun t12 => if t12 = (0 : Int32) then retZ (0 : Int32) else bnd (cv 6 a0 (f_X7_readsDigits a0 (a2 + (2 : Int32)) (2 : Int32))) fun t14 => if t14 = (0 : Int32) then retZ (0 : Int32) else retZ (1 : Int32) else bnd (cv 6 a0 (f_X7_readsDigits a0 a2 (1 : Int32))) fun t16 => if t16 = (0 : Int32) then retZ (0 : Int32) else bnd (cv 6 a0 (f_X7_readsDigits a0 (a2 + (1 : Int32)) (1 : Int32))) fun t18 => if t18 = (0 : Int32) then retZ (0 : Int32) else retZ (1 : Int32)
set_option maxRecDepth 20000 in
theorem s_X7_readsAll (a0 : Nat) (a1 : Int32) (a2 : Int32) : Sm eX7_readsAll [.ref a0, .int a1, .int a2] eI (f_X7_readsAll a0 a1 a2) := by
  intro hp vr hr H
  unfold f_X7_readsAll at H
  show Rn none 0 0 eX7_readsAll 0 [some (.ref a0), some (.int a1), some (.int a2)] [] hp (eI vr, hr)
  refine r_iln rfl rfl rfl ?_
  rcases Decidable.em (a1 = (98 : Int32)) with h1 | h1
  · rw [if_pos h1] at H; refine r_look (t := 25) rfl (by rw [h1]; rfl) ?_
    refine r_aln rfl rfl rfl ?_
    refine r_iln rfl rfl rfl ?_
    refine r_ic (v := 1) rfl ci_1 ?_
    refine r_vtI (rest := []) H rfl rfl rfl (s_X7_readsDigits a0 a2 (1 : Int32)) rfl rfl ⟨rfl, rfl⟩ rfl (fun t2 h3 H => ?_)
    refine r_if H rfl rfl (fun H => ?_) (fun H => ?_)
    · refine r_ic (v := 0) rfl ci_0 ?_
      exact r_retz H rfl rfl ⟨Nat.zero_le _, Nat.zero_le _⟩
    · refine r_aln rfl rfl rfl ?_
      refine r_iln rfl rfl rfl ?_
      refine r_ic (v := 1) rfl ci_1 ?_
      refine r_add rfl ?_
      refine r_ic (v := 2) rfl ci_2 ?_
      refine r_vtI (rest := []) H rfl rfl rfl (s_X7_readsDigits a0 (a2 + (1 : Int32)) (2 : Int32)) rfl rfl ⟨rfl, rfl⟩ rfl (fun t4 h5 H => ?_)
      refine r_if H rfl rfl (fun H => ?_) (fun H => ?_)
      · refine r_ic (v := 0) rfl ci_0 ?_
        exact r_retz H rfl rfl ⟨Nat.zero_le _, Nat.zero_le _⟩
      · refine r_ic (v := 1) rfl ci_1 ?_
        refine r_go rfl ?_
        exact r_retz H rfl rfl ⟨Nat.zero_le _, Nat.zero_le _⟩
  · rw [if_neg h1] at H; rcases Decidable.em (a1 = (110 : Int32)) with h6 | h6
    · rw [if_pos h6] at H; refine r_look (t := 41) rfl (by rw [h6]; rfl) ?_
      refine r_aln rfl rfl rfl ?_
      refine r_iln rfl rfl rfl ?_
      refine r_ic (v := 1) rfl ci_1 ?_
      refine r_vtI (rest := []) H rfl rfl rfl (s_X7_readsDigits a0 a2 (1 : Int32)) rfl rfl ⟨rfl, rfl⟩ rfl (fun t7 h8 H => ?_)
      exact r_retz H rfl rfl ⟨Nat.zero_le _, Nat.zero_le _⟩
    · rw [if_neg h6] at H; rcases Decidable.em (a1 = (112 : Int32)) with h9 | h9
      · rw [if_pos h9] at H; refine r_look (t := 2) rfl (by rw [h9]; rfl) ?_
        refine r_aln rfl rfl rfl ?_
        refine r_iln rfl rfl rfl ?_
        refine r_ic (v := 1) rfl ci_1 ?_
        refine r_vtI (rest := []) H rfl rfl rfl (s_X7_readsDigits a0 a2 (1 : Int32)) rfl rfl ⟨rfl, rfl⟩ rfl (fun t10 h11 H => ?_)
        refine r_if H rfl rfl (fun H => ?_) (fun H => ?_)
        · refine r_ic (v := 0) rfl ci_0 ?_
          exact r_retz H rfl rfl ⟨Nat.zero_le _, Nat.zero_le _⟩
        · refine r_aln rfl rfl rfl ?_
          refine r_iln rfl rfl rfl ?_
          refine r_ic (v := 1) rfl ci_1 ?_
          refine r_add rfl ?_
          refine r_ic (v := 1) rfl ci_1 ?_
          refine r_vtI (rest := []) H rfl rfl rfl (s_X7_readsDigits a0 (a2 + (1 : Int32)) (1 : Int32)) rfl rfl ⟨rfl, rfl⟩ rfl (fun t12 h13 H => ?_)
          refine r_if H rfl rfl (fun H => ?_) (fun H => ?_)
          · refine r_ic (v := 0) rfl ci_0 ?_
            exact r_retz H rfl rfl ⟨Nat.zero_le _, Nat.zero_le _⟩
          · refine r_aln rfl rfl rfl ?_
            refine r_iln rfl rfl rfl ?_
            refine r_ic (v := 2) rfl ci_2 ?_
            refine r_add rfl ?_
            refine r_ic (v := 2) rfl ci_2 ?_
            refine r_vtI (rest := []) H rfl rfl rfl (s_X7_readsDigits a0 (a2 + (2 : Int32)) (2 : Int32)) rfl rfl ⟨rfl, rfl⟩ rfl (fun t14 h15 H => ?_)
            refine r_if H rfl rfl (fun H => ?_) (fun H => ?_)
            · refine r_ic (v := 0) rfl ci_0 ?_
              exact r_retz H rfl rfl ⟨Nat.zero_le _, Nat.zero_le _⟩
            · refine r_ic (v := 1) rfl ci_1 ?_
              refine r_go rfl ?_
              exact r_retz H rfl rfl ⟨Nat.zero_le _, Nat.zero_le _⟩
      · rw [if_neg h9] at H; refine r_look (t := 46) rfl (by have g0 := sw_ne h1 (v := 98) rfl; have g1 := sw_ne h6 (v := 110) rfl; have g2 := sw_ne h9 (v := 112) rfl; show lookTo [98, 110, 112] _ _ = _; simp only [lookTo, if_neg g0, if_neg g1, if_neg g2]) ?_
        refine r_aln rfl rfl rfl ?_
        refine r_iln rfl rfl rfl ?_
        refine r_ic (v := 1) rfl ci_1 ?_
        refine r_vtI (rest := []) H rfl rfl rfl (s_X7_readsDigits a0 a2 (1 : Int32)) rfl rfl ⟨rfl, rfl⟩ rfl (fun t16 h17 H => ?_)
        refine r_if H rfl rfl (fun H => ?_) (fun H => ?_)
        · refine r_ic (v := 0) rfl ci_0 ?_
          exact r_retz H rfl rfl ⟨Nat.zero_le _, Nat.zero_le _⟩
        · refine r_aln rfl rfl rfl ?_
          refine r_iln rfl rfl rfl ?_
          refine r_ic (v := 1) rfl ci_1 ?_
          refine r_add rfl ?_
          refine r_ic (v := 1) rfl ci_1 ?_
          refine r_vtI (rest := []) H rfl rfl rfl (s_X7_readsDigits a0 (a2 + (1 : Int32)) (1 : Int32)) rfl rfl ⟨rfl, rfl⟩ rfl (fun t18 h19 H => ?_)
          refine r_if H rfl rfl (fun H => ?_) (fun H => ?_)
          · refine r_ic (v := 0) rfl ci_0 ?_
            exact r_retz H rfl rfl ⟨Nat.zero_le _, Nat.zero_le _⟩
          · refine r_ic (v := 1) rfl ci_1 ?_
            refine r_go rfl ?_
            exact r_retz H rfl rfl ⟨Nat.zero_le _, Nat.zero_le _⟩
def f_X7_statement (a0 : Nat) : M Int32 := bnd (cv 6 a0 (f_X7_next a0)) fun t1 => jn (fun k4 => if t1 = (112 : Int32) then k4 () else if t1 = (97 : Int32) then k4 () else if t1 = (98 : Int32) then k4 () else if t1 = (119 : Int32) then k4 () else if t1 = (103 : Int32) then k4 () else if t1 = (110 : Int32) then k4 () else retZ (0 : Int32)) (fun (s3 : Unit) => bnd (gR 6 11 a0) fun r5 => bnd (gI 6 16 a0) fun t6 => bnd (sI r5 t6 t1) fun _ => bnd (gR 6 12 a0) fun r7 => bnd (gI 6 16 a0) fun t8 => bnd (gI 6 15 a0) fun t9 => bnd (sI r7 t8 t9) fun _ => bnd (gI 6 15 a0) fun t10 => bnd (pI 6 15 a0 (t10 + (1 : Int32))) fun _ => bnd (gI 6 16 a0) fun t11 => bnd (cv 6 a0 (f_X7_readsAll a0 t1 ((3 : Int32) * t11))) fun t12 => if t12 = (0 : Int32) then retZ (0 : Int32) else bnd (cv 6 a0 (f_X7_next a0)) fun t14 => if t14 = (59 : Int32) then bnd (gI 6 15 a0) fun t16 => bnd (pI 6 15 a0 (t16 + (1 : Int32))) fun _ => retZ (1 : Int32) else retZ (0 : Int32))
set_option maxRecDepth 20000 in
theorem s_X7_statement (a0 : Nat) : Sm eX7_statement [.ref a0] eI (f_X7_statement a0) := by
  intro hp vr hr H
  unfold f_X7_statement at H
  show Rn none 0 0 eX7_statement 0 [some (.ref a0), none] [] hp (eI vr, hr)
  refine r_aln rfl rfl rfl ?_
  refine r_vtI (rest := []) H rfl rfl rfl (s_X7_next a0) rfl rfl ⟨rfl, rfl⟩ rfl (fun t1 h2 H => ?_)
  refine r_isn (L' := [some (.ref a0), some (.int t1)]) rfl rfl (Nat.le_of_ble_eq_true rfl) rfl ?_
  refine r_iln rfl rfl rfl ?_
  refine r_bi (v := 112) rfl cb_112 ?_
  refine r_jn (P := (fun (s3 : Unit) hq => Rn none 0 0 eX7_statement 23 [some (.ref a0), some (.int t1)] [] hq (eI vr, hr))) H (fun s3 hs3 H  => ?_) (fun k4 K4 H => ?_)
  · refine r_aln rfl rfl rfl ?_
    refine r_gR H rfl kd_6_11 (fun r5 H => ?_)
    refine r_aln rfl rfl rfl ?_
    refine r_gI' H rfl kl_6_16 (fun t6 H => ?_)
    refine r_iln rfl rfl rfl ?_
    refine r_sI H rfl (fun H => ?_)
    refine r_aln rfl rfl rfl ?_
    refine r_gR H rfl kd_6_12 (fun r7 H => ?_)
    refine r_aln rfl rfl rfl ?_
    refine r_gI' H rfl kl_6_16 (fun t8 H => ?_)
    refine r_aln rfl rfl rfl ?_
    refine r_gI' H rfl kl_6_15 (fun t9 H => ?_)
    refine r_sI H rfl (fun H => ?_)
    refine r_aln rfl rfl rfl ?_
    refine r_dupr rfl ?_
    refine r_gI' H rfl kl_6_15 (fun t10 H => ?_)
    refine r_ic (v := 1) rfl ci_1 ?_
    refine r_add rfl ?_
    refine r_pI H rfl kd_6_15 (fun H => ?_)
    refine r_aln rfl rfl rfl ?_
    refine r_iln rfl rfl rfl ?_
    refine r_ic (v := 3) rfl ci_3 ?_
    refine r_aln rfl rfl rfl ?_
    refine r_gI' H rfl kl_6_16 (fun t11 H => ?_)
    refine r_mul rfl ?_
    refine r_vtI (rest := []) H rfl rfl rfl (s_X7_readsAll a0 t1 ((3 : Int32) * t11)) rfl rfl ⟨rfl, rfl⟩ rfl (fun t12 h13 H => ?_)
    refine r_if H rfl rfl (fun H => ?_) (fun H => ?_)
    · refine r_ic (v := 0) rfl ci_0 ?_
      exact r_retz H rfl rfl ⟨Nat.zero_le _, Nat.zero_le _⟩
    · refine r_aln rfl rfl rfl ?_
      refine r_vtI (rest := []) H rfl rfl rfl (s_X7_next a0) rfl rfl ⟨rfl, rfl⟩ rfl (fun t14 h15 H => ?_)
      refine r_bi (v := 59) rfl cb_59 ?_
      refine r_cmp H rfl rfl (fun H => ?_) (fun H => ?_)
      · refine r_aln rfl rfl rfl ?_
        refine r_dupr rfl ?_
        refine r_gI' H rfl kl_6_15 (fun t16 H => ?_)
        refine r_ic (v := 1) rfl ci_1 ?_
        refine r_add rfl ?_
        refine r_pI H rfl kd_6_15 (fun H => ?_)
        refine r_ic (v := 1) rfl ci_1 ?_
        exact r_retz H rfl rfl ⟨Nat.zero_le _, Nat.zero_le _⟩
      · refine r_ic (v := 0) rfl ci_0 ?_
        exact r_retz H rfl rfl ⟨Nat.zero_le _, Nat.zero_le _⟩
  · refine r_cmp H rfl rfl (fun H => ?_) (fun H => ?_)
    · have q := K4 _ _ H
      exact q
    · refine r_iln rfl rfl rfl ?_
      refine r_bi (v := 97) rfl cb_97 ?_
      refine r_cmp H rfl rfl (fun H => ?_) (fun H => ?_)
      · have q := K4 _ _ H
        exact q
      · refine r_iln rfl rfl rfl ?_
        refine r_bi (v := 98) rfl cb_98 ?_
        refine r_cmp H rfl rfl (fun H => ?_) (fun H => ?_)
        · have q := K4 _ _ H
          exact q
        · refine r_iln rfl rfl rfl ?_
          refine r_bi (v := 119) rfl cb_119 ?_
          refine r_cmp H rfl rfl (fun H => ?_) (fun H => ?_)
          · have q := K4 _ _ H
            exact q
          · refine r_iln rfl rfl rfl ?_
            refine r_bi (v := 103) rfl cb_103 ?_
            refine r_cmp H rfl rfl (fun H => ?_) (fun H => ?_)
            · have q := K4 _ _ H
              exact q
            · refine r_iln rfl rfl rfl ?_
              refine r_bi (v := 110) rfl cb_110 ?_
              refine r_cmp H rfl rfl (fun H => ?_) (fun H => ?_)
              · have q := K4 _ _ H
                exact q
              · refine r_ic (v := 0) rfl ci_0 ?_
                exact r_retz H rfl rfl ⟨Nat.zero_le _, Nat.zero_le _⟩
def f_X7_adds (a0 : Nat) (a1 : Int32) (a2 : Int32) (a3 : Int32) : M Unit := bnd (gR 6 1 a0) fun r1 => bnd (gI 6 8 a0) fun t2 => bnd (sI r1 t2 a1) fun _ => bnd (gR 6 2 a0) fun r3 => bnd (gI 6 8 a0) fun t4 => bnd (sI r3 t4 a2) fun _ => bnd (gR 6 3 a0) fun r5 => bnd (gI 6 8 a0) fun t6 => bnd (sI r5 t6 a3) fun _ => bnd (gR 6 4 a0) fun r7 => bnd (gI 6 8 a0) fun t8 => bnd (sI r7 t8 a3) fun _ => bnd (gR 6 5 a0) fun r9 => bnd (gI 6 8 a0) fun t10 => bnd (sI r9 t10 (0 : Int32)) fun _ => bnd (gI 6 8 a0) fun t11 => bnd (pI 6 8 a0 (t11 + (1 : Int32))) fun _ => rt ()
set_option maxRecDepth 20000 in
theorem s_X7_adds (a0 : Nat) (a1 : Int32) (a2 : Int32) (a3 : Int32) : Sm eX7_adds [.ref a0, .int a1, .int a2, .int a3] eU (f_X7_adds a0 a1 a2 a3) := by
  intro hp vr hr H
  unfold f_X7_adds at H
  show Rn none 0 0 eX7_adds 0 [some (.ref a0), some (.int a1), some (.int a2), some (.int a3)] [] hp (eU vr, hr)
  refine r_aln rfl rfl rfl ?_
  refine r_gR H rfl kd_6_1 (fun r1 H => ?_)
  refine r_aln rfl rfl rfl ?_
  refine r_gI' H rfl kl_6_8 (fun t2 H => ?_)
  refine r_iln rfl rfl rfl ?_
  refine r_sI H rfl (fun H => ?_)
  refine r_aln rfl rfl rfl ?_
  refine r_gR H rfl kd_6_2 (fun r3 H => ?_)
  refine r_aln rfl rfl rfl ?_
  refine r_gI' H rfl kl_6_8 (fun t4 H => ?_)
  refine r_iln rfl rfl rfl ?_
  refine r_sI H rfl (fun H => ?_)
  refine r_aln rfl rfl rfl ?_
  refine r_gR H rfl kd_6_3 (fun r5 H => ?_)
  refine r_aln rfl rfl rfl ?_
  refine r_gI' H rfl kl_6_8 (fun t6 H => ?_)
  refine r_iln rfl rfl rfl ?_
  refine r_sI H rfl (fun H => ?_)
  refine r_aln rfl rfl rfl ?_
  refine r_gR H rfl kd_6_4 (fun r7 H => ?_)
  refine r_aln rfl rfl rfl ?_
  refine r_gI' H rfl kl_6_8 (fun t8 H => ?_)
  refine r_iln rfl rfl rfl ?_
  refine r_sI H rfl (fun H => ?_)
  refine r_aln rfl rfl rfl ?_
  refine r_gR H rfl kd_6_5 (fun r9 H => ?_)
  refine r_aln rfl rfl rfl ?_
  refine r_gI' H rfl kl_6_8 (fun t10 H => ?_)
  refine r_ic (v := 0) rfl ci_0 ?_
  refine r_sI H rfl (fun H => ?_)
  refine r_aln rfl rfl rfl ?_
  refine r_dupr rfl ?_
  refine r_gI' H rfl kl_6_8 (fun t11 H => ?_)
  refine r_ic (v := 1) rfl ci_1 ?_
  refine r_add rfl ?_
  refine r_pI H rfl kd_6_8 (fun H => ?_)
  exact r_retv H rfl rfl ⟨Nat.zero_le _, Nat.zero_le _⟩
def f_X7_turnsWay (a0 : Nat) (a1 : Int32) (a2 : Int32) : M Unit := bnd (gR 6 6 a0) fun r1 => bnd (aI r1 a1) fun t2 => bnd (sI r1 a1 (t2 ^^^ ((1 : Int32) <<< (a2 &&& (31 : Int32))))) fun _ => bnd (gR 6 6 a0) fun r3 => bnd (aI r3 a2) fun t4 => bnd (sI r3 a2 (t4 ^^^ ((1 : Int32) <<< (a1 &&& (31 : Int32))))) fun _ => rt ()
set_option maxRecDepth 20000 in
theorem s_X7_turnsWay (a0 : Nat) (a1 : Int32) (a2 : Int32) : Sm eX7_turnsWay [.ref a0, .int a1, .int a2] eU (f_X7_turnsWay a0 a1 a2) := by
  intro hp vr hr H
  unfold f_X7_turnsWay at H
  show Rn none 0 0 eX7_turnsWay 0 [some (.ref a0), some (.int a1), some (.int a2)] [] hp (eU vr, hr)
  refine r_aln rfl rfl rfl ?_
  refine r_gR H rfl kd_6_6 (fun r1 H => ?_)
  refine r_iln rfl rfl rfl ?_
  refine r_dup2 rfl ?_
  refine r_aI' H rfl (fun t2 H => ?_)
  refine r_ic (v := 1) rfl ci_1 ?_
  refine r_iln rfl rfl rfl ?_
  refine r_shl rfl ?_
  refine r_xor rfl ?_
  refine r_sI H rfl (fun H => ?_)
  refine r_aln rfl rfl rfl ?_
  refine r_gR H rfl kd_6_6 (fun r3 H => ?_)
  refine r_iln rfl rfl rfl ?_
  refine r_dup2 rfl ?_
  refine r_aI' H rfl (fun t4 H => ?_)
  refine r_ic (v := 1) rfl ci_1 ?_
  refine r_iln rfl rfl rfl ?_
  refine r_shl rfl ?_
  refine r_xor rfl ?_
  refine r_sI H rfl (fun H => ?_)
  exact r_retv H rfl rfl ⟨Nat.zero_le _, Nat.zero_le _⟩
def f_X7_held (a0 : Int32) : M Int32 := if (0 : Int32) ≤ a0 then if a0 ≤ (99 : Int32) then rt a0 else rt (99 : Int32) else rt (0 : Int32)
set_option maxRecDepth 20000 in
theorem s_X7_held (a0 : Int32) : Sm eX7_held [.int a0] eI (f_X7_held a0) := by
  intro hp vr hr H
  unfold f_X7_held at H
  show Rn none 0 0 eX7_held 0 [some (.int a0)] [] hp (eI vr, hr)
  refine r_iln rfl rfl rfl ?_
  refine r_if H rfl rfl (fun H => ?_) (fun H => ?_)
  · refine r_iln rfl rfl rfl ?_
    refine r_bi (v := 99) rfl cb_99 ?_
    refine r_cmp H rfl rfl (fun H => ?_) (fun H => ?_)
    · refine r_iln rfl rfl rfl ?_
      exact r_reti H rfl rfl ⟨Nat.zero_le _, Nat.zero_le _⟩
    · refine r_bi (v := 99) rfl cb_99 ?_
      refine r_go rfl ?_
      exact r_reti H rfl rfl ⟨Nat.zero_le _, Nat.zero_le _⟩
  · refine r_ic (v := 0) rfl ci_0 ?_
    refine r_go rfl ?_
    exact r_reti H rfl rfl ⟨Nat.zero_le _, Nat.zero_le _⟩
def f_X7_saidOf (a0 : Nat) (a1 : Int32) (a2 : Int32) : M Int32 := bnd (gR 6 1 a0) fun r1 => bnd (aI r1 a1) fun t2 => if t2 = (1 : Int32) then bnd (gR 6 2 a0) fun r4 => bnd (aI r4 a1) fun t5 => bnd (f_X7_held (a2 + t5)) fun t6 => rt t6 else if t2 = (2 : Int32) then bnd (gR 6 2 a0) fun r9 => bnd (aI r9 a1) fun t10 => bnd (f_X7_held (a2 - ((2 : Int32) * t10))) fun t11 => rt t11 else if t2 = (3 : Int32) then bnd (gR 6 2 a0) fun r14 => bnd (aI r14 a1) fun t15 => bnd (f_X7_held (a2 + t15)) fun t16 => bnd (gR 6 4 a0) fun r18 => bnd (aI r18 a1) fun t19 => bnd (divM (t16 + t19) (2 : Int32)) fun t20 => rt t20 else if t2 = (4 : Int32) then bnd (gR 6 4 a0) fun r22 => bnd (aI r22 a1) fun t23 => bnd (gR 6 2 a0) fun r24 => bnd (aI r24 a1) fun t25 => bnd (f_X7_held (t23 - ((2 : Int32) * t25))) fun t26 => rt t26 else if t2 = (5 : Int32) then rt ((99 : Int32) - a2) else rt a2
set_option maxRecDepth 20000 in
theorem s_X7_saidOf (a0 : Nat) (a1 : Int32) (a2 : Int32) : Sm eX7_saidOf [.ref a0, .int a1, .int a2] eI (f_X7_saidOf a0 a1 a2) := by
  intro hp vr hr H
  unfold f_X7_saidOf at H
  show Rn none 0 0 eX7_saidOf 0 [some (.ref a0), some (.int a1), some (.int a2)] [] hp (eI vr, hr)
  refine r_aln rfl rfl rfl ?_
  refine r_gR H rfl kd_6_1 (fun r1 H => ?_)
  refine r_iln rfl rfl rfl ?_
  refine r_aI' H rfl (fun t2 H => ?_)
  rcases Decidable.em (t2 = (1 : Int32)) with h3 | h3
  · rw [if_pos h3] at H; refine r_tab (t := 5) rfl (by rw [h3]; rfl) ?_
    refine r_iln rfl rfl rfl ?_
    refine r_aln rfl rfl rfl ?_
    refine r_gR H rfl kd_6_2 (fun r4 H => ?_)
    refine r_iln rfl rfl rfl ?_
    refine r_aI' H rfl (fun t5 H => ?_)
    refine r_add rfl ?_
    refine r_stI (rest := []) H rfl rfl (s_X7_held (a2 + t5)) rfl rfl ⟨rfl, rfl⟩ rfl (fun t6 h7 H => ?_)
    exact r_reti H rfl rfl ⟨Nat.zero_le _, Nat.zero_le _⟩
  · rw [if_neg h3] at H; rcases Decidable.em (t2 = (2 : Int32)) with h8 | h8
    · rw [if_pos h8] at H; refine r_tab (t := 13) rfl (by rw [h8]; rfl) ?_
      refine r_iln rfl rfl rfl ?_
      refine r_ic (v := 2) rfl ci_2 ?_
      refine r_aln rfl rfl rfl ?_
      refine r_gR H rfl kd_6_2 (fun r9 H => ?_)
      refine r_iln rfl rfl rfl ?_
      refine r_aI' H rfl (fun t10 H => ?_)
      refine r_mul rfl ?_
      refine r_sub rfl ?_
      refine r_stI (rest := []) H rfl rfl (s_X7_held (a2 - ((2 : Int32) * t10))) rfl rfl ⟨rfl, rfl⟩ rfl (fun t11 h12 H => ?_)
      exact r_reti H rfl rfl ⟨Nat.zero_le _, Nat.zero_le _⟩
    · rw [if_neg h8] at H; rcases Decidable.em (t2 = (3 : Int32)) with h13 | h13
      · rw [if_pos h13] at H; refine r_tab (t := 23) rfl (by rw [h13]; rfl) ?_
        refine r_iln rfl rfl rfl ?_
        refine r_aln rfl rfl rfl ?_
        refine r_gR H rfl kd_6_2 (fun r14 H => ?_)
        refine r_iln rfl rfl rfl ?_
        refine r_aI' H rfl (fun t15 H => ?_)
        refine r_add rfl ?_
        refine r_stI (rest := []) H rfl rfl (s_X7_held (a2 + t15)) rfl rfl ⟨rfl, rfl⟩ rfl (fun t16 h17 H => ?_)
        refine r_aln rfl rfl rfl ?_
        refine r_gR H rfl kd_6_4 (fun r18 H => ?_)
        refine r_iln rfl rfl rfl ?_
        refine r_aI' H rfl (fun t19 H => ?_)
        refine r_add rfl ?_
        refine r_ic (v := 2) rfl ci_2 ?_
        refine r_div H rfl (fun H => ?_)
        exact r_reti H rfl rfl ⟨Nat.zero_le _, Nat.zero_le _⟩
      · rw [if_neg h13] at H; rcases Decidable.em (t2 = (4 : Int32)) with h21 | h21
        · rw [if_pos h21] at H; refine r_tab (t := 38) rfl (by rw [h21]; rfl) ?_
          refine r_aln rfl rfl rfl ?_
          refine r_gR H rfl kd_6_4 (fun r22 H => ?_)
          refine r_iln rfl rfl rfl ?_
          refine r_aI' H rfl (fun t23 H => ?_)
          refine r_ic (v := 2) rfl ci_2 ?_
          refine r_aln rfl rfl rfl ?_
          refine r_gR H rfl kd_6_2 (fun r24 H => ?_)
          refine r_iln rfl rfl rfl ?_
          refine r_aI' H rfl (fun t25 H => ?_)
          refine r_mul rfl ?_
          refine r_sub rfl ?_
          refine r_stI (rest := []) H rfl rfl (s_X7_held (t23 - ((2 : Int32) * t25))) rfl rfl ⟨rfl, rfl⟩ rfl (fun t26 h27 H => ?_)
          exact r_reti H rfl rfl ⟨Nat.zero_le _, Nat.zero_le _⟩
        · rw [if_neg h21] at H; rcases Decidable.em (t2 = (5 : Int32)) with h28 | h28
          · rw [if_pos h28] at H; refine r_tab (t := 51) rfl (by rw [h28]; rfl) ?_
            refine r_bi (v := 99) rfl cb_99 ?_
            refine r_iln rfl rfl rfl ?_
            refine r_sub rfl ?_
            exact r_reti H rfl rfl ⟨Nat.zero_le _, Nat.zero_le _⟩
          · rw [if_neg h28] at H; refine r_tab (t := 55) rfl (by have g0 := sw_ne h3 (v := 1) rfl; have g1 := sw_ne h8 (v := 2) rfl; have g2 := sw_ne h13 (v := 3) rfl; have g3 := sw_ne h21 (v := 4) rfl; have g4 := sw_ne h28 (v := 5) rfl; exact (sw_out (by omega)).trans rfl) ?_
            refine r_iln rfl rfl rfl ?_
            exact r_reti H rfl rfl ⟨Nat.zero_le _, Nat.zero_le _⟩
def f_X7_meanOf (a0 : Nat) (a1 : Int32) (a2 : Int32) : M Int32 := loopK NF (fun (s1 : Int32 × Int32) k2 => bnd (gI 6 8 a0) fun t3 => if t3 ≤ s1.2 then if ¬ a2 = (0 : Int32) then bnd (f_X7_bits a2) fun t4 => bnd (divM s1.1 t4) fun t6 => rt t6 else bnd (gR 6 4 a0) fun r7 => bnd (aI r7 a1) fun t8 => rt t8 else bnd (f_X7_has a2 s1.2) fun t9 => if t9 = (0 : Int32) then k2 ((s1.1 + (0 : Int32)), (s1.2 + (1 : Int32))) else bnd (gR 6 3 a0) fun r11 => bnd (aI r11 a1) fun t12 => bnd (cv 6 a0 (f_X7_saidOf a0 s1.2 t12)) fun t13 => k2 ((s1.1 + t13), (s1.2 + (1 : Int32)))) ((0 : Int32), (0 : Int32))
set_option maxRecDepth 20000 in
theorem s_X7_meanOf (a0 : Nat) (a1 : Int32) (a2 : Int32) : Sm eX7_meanOf [.ref a0, .int a1, .int a2] eI (f_X7_meanOf a0 a1 a2) := by
  intro hp vr hr H
  unfold f_X7_meanOf at H
  show Rn none 0 0 eX7_meanOf 0 [some (.ref a0), some (.int a1), some (.int a2), none, none] [] hp (eI vr, hr)
  refine r_ic (v := 0) rfl ci_0 ?_
  refine r_isn (L' := [some (.ref a0), some (.int a1), some (.int a2), some (.int (0 : Int32)), none]) rfl rfl (Nat.le_of_ble_eq_true rfl) rfl ?_
  refine r_ic (v := 0) rfl ci_0 ?_
  refine r_is (L' := [some (.ref a0), some (.int a1), some (.int a2), some (.int (0 : Int32)), some (.int (0 : Int32))]) rfl (Nat.le_of_ble_eq_true rfl) rfl ?_
  refine (r_loop (P := (fun (s1 : Int32 × Int32) hq => ∀ ys1_0 : Int32, ∀ ys1_1 : Int32, s1 = (ys1_0, ys1_1) → Rn none 0 0 eX7_meanOf 4 [some (.ref a0), some (.int a1), some (.int a2), some (.int ys1_0), some (.int ys1_1)] [] hq (eI vr, hr))) ?_ NF _ _ H) _ _ rfl
  intro k2 K2 s1 hs1 H ys1_0 ys1_1 es1 
  subst es1
  refine r_il rfl rfl ?_
  refine r_aln rfl rfl rfl ?_
  refine r_gI' H rfl kl_6_8 (fun t3 H => ?_)
  refine r_cmp H rfl rfl (fun H => ?_) (fun H => ?_)
  · refine r_iln rfl rfl rfl ?_
    refine r_if H rfl rfl (fun H => ?_) (fun H => ?_)
    · refine r_iln rfl rfl rfl ?_
      refine r_iln rfl rfl rfl ?_
      refine r_stI (rest := [.int ys1_0]) H rfl rfl (s_X7_bits a2) rfl rfl ⟨rfl, rfl⟩ rfl (fun t4 h5 H => ?_)
      refine r_div H rfl (fun H => ?_)
      exact r_reti H rfl rfl ⟨Nat.zero_le _, Nat.zero_le _⟩
    · refine r_aln rfl rfl rfl ?_
      refine r_gR H rfl kd_6_4 (fun r7 H => ?_)
      refine r_iln rfl rfl rfl ?_
      refine r_aI' H rfl (fun t8 H => ?_)
      refine r_go rfl ?_
      exact r_reti H rfl rfl ⟨Nat.zero_le _, Nat.zero_le _⟩
  · refine r_iln rfl rfl rfl ?_
    refine r_iln rfl rfl rfl ?_
    refine r_il rfl rfl ?_
    refine r_stI (rest := [.int ys1_0]) H rfl rfl (s_X7_has a2 ys1_1) rfl rfl ⟨rfl, rfl⟩ rfl (fun t9 h10 H => ?_)
    refine r_if H rfl rfl (fun H => ?_) (fun H => ?_)
    · refine r_ic (v := 0) rfl ci_0 ?_
      refine r_add rfl ?_
      refine r_isn (L' := [some (.ref a0), some (.int a1), some (.int a2), some (.int (ys1_0 + (0 : Int32))), some (.int ys1_1)]) rfl rfl (Nat.le_of_ble_eq_true rfl) rfl ?_
      refine r_inc (v := 1) (L' := [some (.ref a0), some (.int a1), some (.int a2), some (.int (ys1_0 + (0 : Int32))), some (.int (ys1_1 + (1 : Int32)))]) rfl rfl ci_1 rfl ?_
      refine r_go rfl ?_
      have q := K2 _ _ H _ _ rfl
      exact q
    · refine r_aln rfl rfl rfl ?_
      refine r_il rfl rfl ?_
      refine r_aln rfl rfl rfl ?_
      refine r_gR H rfl kd_6_3 (fun r11 H => ?_)
      refine r_iln rfl rfl rfl ?_
      refine r_aI' H rfl (fun t12 H => ?_)
      refine r_vtI (rest := [.int ys1_0]) H rfl rfl rfl (s_X7_saidOf a0 ys1_1 t12) rfl rfl ⟨rfl, rfl⟩ rfl (fun t13 h14 H => ?_)
      refine r_go rfl ?_
      refine r_add rfl ?_
      refine r_isn (L' := [some (.ref a0), some (.int a1), some (.int a2), some (.int (ys1_0 + t13)), some (.int ys1_1)]) rfl rfl (Nat.le_of_ble_eq_true rfl) rfl ?_
      refine r_inc (v := 1) (L' := [some (.ref a0), some (.int a1), some (.int a2), some (.int (ys1_0 + t13)), some (.int (ys1_1 + (1 : Int32)))]) rfl rfl ci_1 rfl ?_
      refine r_go rfl ?_
      have q := K2 _ _ H _ _ rfl
      exact q
def f_X7_goesWeek (a0 : Nat) : M Int32 := loopK NF (fun (s1 : Int32) k2 => bnd (gI 6 8 a0) fun t3 => if t3 ≤ s1 then loopK NF (fun (s4 : Int32 × Int32) k5 => bnd (gI 6 8 a0) fun t6 => if t6 ≤ s4.2 then bnd (gI 6 9 a0) fun t7 => bnd (pI 6 9 a0 (t7 + (1 : Int32))) fun _ => rt s4.1 else bnd (gR 6 22 a0) fun r8 => bnd (aI r8 s4.2) fun t9 => bnd (gR 6 4 a0) fun r10 => bnd (aI r10 s4.2) fun t11 => jn (fun k13 => if ¬ t9 = t11 then k13 (1 : Int32) else k13 (0 : Int32)) (fun (s12 : Int32) => bnd (gR 6 4 a0) fun r14 => bnd (gR 6 22 a0) fun r15 => bnd (aI r15 s4.2) fun t16 => bnd (sI r14 s4.2 t16) fun _ => k5 ((s4.1 + s12), (s4.2 + (1 : Int32))))) ((0 : Int32), (0 : Int32)) else bnd (gR 6 22 a0) fun r17 => bnd (gR 6 5 a0) fun r18 => bnd (aI r18 s1) fun t19 => bnd (cv 6 a0 (f_X7_meanOf a0 s1 t19)) fun t20 => bnd (sI r17 s1 t20) fun _ => k2 (s1 + (1 : Int32))) (0 : Int32)
set_option maxRecDepth 20000 in
theorem s_X7_goesWeek (a0 : Nat) : Sm eX7_goesWeek [.ref a0] eI (f_X7_goesWeek a0) := by
  intro hp vr hr H
  unfold f_X7_goesWeek at H
  show Rn none 0 0 eX7_goesWeek 0 [some (.ref a0), none, none] [] hp (eI vr, hr)
  refine r_ic (v := 0) rfl ci_0 ?_
  refine r_isn (L' := [some (.ref a0), some (.int (0 : Int32)), none]) rfl rfl (Nat.le_of_ble_eq_true rfl) rfl ?_
  refine r_ic (v := 0) rfl ci_0 ?_
  refine r_isn (L' := [some (.ref a0), some (.int (0 : Int32)), some (.int (0 : Int32))]) rfl rfl (Nat.le_of_ble_eq_true rfl) rfl ?_
  refine (r_loop (P := (fun (s1 : Int32) hq => Rn none 0 0 eX7_goesWeek 4 [some (.ref a0), some (.int (0 : Int32)), some (.int s1)] [] hq (eI vr, hr))) ?_ NF _ _ H)
  intro k2 K2 s1 hs1 H 
  refine r_iln rfl rfl rfl ?_
  refine r_aln rfl rfl rfl ?_
  refine r_gI' H rfl kl_6_8 (fun t3 H => ?_)
  refine r_cmp H rfl rfl (fun H => ?_) (fun H => ?_)
  · refine r_ic (v := 0) rfl ci_0 ?_
    refine r_isn (L' := [some (.ref a0), some (.int (0 : Int32)), some (.int (0 : Int32))]) rfl rfl (Nat.le_of_ble_eq_true rfl) rfl ?_
    refine (r_loop (P := (fun (s4 : Int32 × Int32) hq => ∀ ys4_0 : Int32, ∀ ys4_1 : Int32, s4 = (ys4_0, ys4_1) → Rn none 0 0 eX7_goesWeek 23 [some (.ref a0), some (.int ys4_0), some (.int ys4_1)] [] hq (eI vr, hr))) ?_ NF _ _ H) _ _ rfl
    intro k5 K5 s4 hs4 H ys4_0 ys4_1 es4 
    subst es4
    refine r_iln rfl rfl rfl ?_
    refine r_aln rfl rfl rfl ?_
    refine r_gI' H rfl kl_6_8 (fun t6 H => ?_)
    refine r_cmp H rfl rfl (fun H => ?_) (fun H => ?_)
    · refine r_aln rfl rfl rfl ?_
      refine r_dupr rfl ?_
      refine r_gI' H rfl kl_6_9 (fun t7 H => ?_)
      refine r_ic (v := 1) rfl ci_1 ?_
      refine r_add rfl ?_
      refine r_pI H rfl kd_6_9 (fun H => ?_)
      refine r_iln rfl rfl rfl ?_
      exact r_reti H rfl rfl ⟨Nat.zero_le _, Nat.zero_le _⟩
    · refine r_iln rfl rfl rfl ?_
      refine r_aln rfl rfl rfl ?_
      refine r_gR H rfl kd_6_22 (fun r8 H => ?_)
      refine r_iln rfl rfl rfl ?_
      refine r_aI' H rfl (fun t9 H => ?_)
      refine r_aln rfl rfl rfl ?_
      refine r_gR H rfl kd_6_4 (fun r10 H => ?_)
      refine r_iln rfl rfl rfl ?_
      refine r_aI' H rfl (fun t11 H => ?_)
      refine r_jn (P := (fun (s12 : Int32) hq => Rn none 0 0 eX7_goesWeek 40 [some (.ref a0), some (.int ys4_0), some (.int ys4_1)] [.int s12, .int ys4_0] hq (eI vr, hr))) H (fun s12 hs12 H  => ?_) (fun k13 K13 H => ?_)
      · refine r_add rfl ?_
        refine r_isn (L' := [some (.ref a0), some (.int (ys4_0 + s12)), some (.int ys4_1)]) rfl rfl (Nat.le_of_ble_eq_true rfl) rfl ?_
        refine r_aln rfl rfl rfl ?_
        refine r_gR H rfl kd_6_4 (fun r14 H => ?_)
        refine r_iln rfl rfl rfl ?_
        refine r_aln rfl rfl rfl ?_
        refine r_gR H rfl kd_6_22 (fun r15 H => ?_)
        refine r_iln rfl rfl rfl ?_
        refine r_aI' H rfl (fun t16 H => ?_)
        refine r_sI H rfl (fun H => ?_)
        refine r_inc (v := 1) (L' := [some (.ref a0), some (.int (ys4_0 + s12)), some (.int (ys4_1 + (1 : Int32)))]) rfl rfl ci_1 rfl ?_
        refine r_go rfl ?_
        have q := K5 _ _ H _ _ rfl
        exact q
      · refine r_cmp H rfl rfl (fun H => ?_) (fun H => ?_)
        · refine r_ic (v := 1) rfl ci_1 ?_
          have q := K13 _ _ H
          exact q
        · refine r_ic (v := 0) rfl ci_0 ?_
          refine r_go rfl ?_
          have q := K13 _ _ H
          exact q
  · refine r_aln rfl rfl rfl ?_
    refine r_gR H rfl kd_6_22 (fun r17 H => ?_)
    refine r_iln rfl rfl rfl ?_
    refine r_aln rfl rfl rfl ?_
    refine r_iln rfl rfl rfl ?_
    refine r_aln rfl rfl rfl ?_
    refine r_gR H rfl kd_6_5 (fun r18 H => ?_)
    refine r_iln rfl rfl rfl ?_
    refine r_aI' H rfl (fun t19 H => ?_)
    refine r_vtI (rest := [.int s1, .ref r17]) H rfl rfl rfl (s_X7_meanOf a0 s1 t19) rfl rfl ⟨rfl, rfl⟩ rfl (fun t20 h21 H => ?_)
    refine r_sI H rfl (fun H => ?_)
    refine r_inc (v := 1) (L' := [some (.ref a0), some (.int (0 : Int32)), some (.int (s1 + (1 : Int32)))]) rfl rfl ci_1 rfl ?_
    refine r_go rfl ?_
    have q := K2 _ _ H
    exact q
def f_X7_comes (a0 : Nat) (a1 : Int32) : M Int32 := bnd (gR 6 13 a0) fun r1 => bnd (aI r1 ((3 : Int32) * a1)) fun t2 => bnd (gR 6 13 a0) fun r3 => bnd (aI r3 (((3 : Int32) * a1) + (1 : Int32))) fun t4 => bnd (gR 6 11 a0) fun r5 => bnd (aI r5 a1) fun t6 => if t6 = (97 : Int32) then bnd (cv 6 a0 (f_X7_areTwo a0 t2 t4)) fun t8 => if ¬ t8 = (0 : Int32) then bnd (gR 6 5 a0) fun r10 => bnd (aI r10 t2) fun t11 => bnd (sI r10 t2 (t11 ^^^ ((1 : Int32) <<< (t4 &&& (31 : Int32))))) fun _ => retZ (1 : Int32) else retZ (0 : Int32) else if t6 = (98 : Int32) then bnd (cv 6 a0 (f_X7_isPerson a0 t2)) fun t13 => if ¬ t13 = (0 : Int32) then bnd (gR 6 4 a0) fun r15 => bnd (sI r15 t2 t4) fun _ => retZ (1 : Int32) else retZ (0 : Int32) else if t6 = (103 : Int32) then bnd (f_X7_isPlace t2) fun t17 => if t17 = (0 : Int32) then retZ (0 : Int32) else if t4 ≤ (3 : Int32) then bnd (gR 6 7 a0) fun r19 => bnd (sI r19 t2 t4) fun _ => retZ (1 : Int32) else retZ (0 : Int32) else if t6 = (112 : Int32) then if (5 : Int32) < t2 then retZ (0 : Int32) else bnd (gI 6 8 a0) fun t21 => if ¬ t21 = (7 : Int32) then bnd (gR 6 13 a0) fun r22 => bnd (aI r22 (((3 : Int32) * a1) + (2 : Int32))) fun t23 => bnd (cv 6 a0 (f_X7_adds a0 t2 t4 t23)) fun _ => retZ (1 : Int32) else retZ (0 : Int32) else if t6 = (119 : Int32) then bnd (f_X7_isPlace t2) fun t27 => if t27 = (0 : Int32) then retZ (0 : Int32) else bnd (f_X7_isPlace t4) fun t29 => if t29 = (0 : Int32) then retZ (0 : Int32) else if ¬ t2 = t4 then bnd (cv 6 a0 (f_X7_turnsWay a0 t2 t4)) fun _ => retZ (1 : Int32) else retZ (0 : Int32) else bnd (gI 6 9 a0) fun t33 => if (t33 + t2) ≤ (999 : Int32) then loopK NF (fun (s34 : Int32) k35 => if t2 ≤ s34 then retZ (1 : Int32) else bnd (cv 6 a0 (f_X7_goesWeek a0)) fun t36 => k35 (s34 + (1 : Int32))) (0 : Int32) else retZ (0 : Int32)
set_option maxRecDepth 20000 in
theorem s_X7_comes (a0 : Nat) (a1 : Int32) : Sm eX7_comes [.ref a0, .int a1] eI (f_X7_comes a0 a1) := by
  intro hp vr hr H
  unfold f_X7_comes at H
  show Rn none 0 0 eX7_comes 0 [some (.ref a0), some (.int a1), none, none, none] [] hp (eI vr, hr)
  refine r_aln rfl rfl rfl ?_
  refine r_gR H rfl kd_6_13 (fun r1 H => ?_)
  refine r_ic (v := 3) rfl ci_3 ?_
  refine r_iln rfl rfl rfl ?_
  refine r_mul rfl ?_
  refine r_aI' H rfl (fun t2 H => ?_)
  refine r_isn (L' := [some (.ref a0), some (.int a1), some (.int t2), none, none]) rfl rfl (Nat.le_of_ble_eq_true rfl) rfl ?_
  refine r_aln rfl rfl rfl ?_
  refine r_gR H rfl kd_6_13 (fun r3 H => ?_)
  refine r_ic (v := 3) rfl ci_3 ?_
  refine r_iln rfl rfl rfl ?_
  refine r_mul rfl ?_
  refine r_ic (v := 1) rfl ci_1 ?_
  refine r_add rfl ?_
  refine r_aI' H rfl (fun t4 H => ?_)
  refine r_isn (L' := [some (.ref a0), some (.int a1), some (.int t2), some (.int t4), none]) rfl rfl (Nat.le_of_ble_eq_true rfl) rfl ?_
  refine r_aln rfl rfl rfl ?_
  refine r_gR H rfl kd_6_11 (fun r5 H => ?_)
  refine r_iln rfl rfl rfl ?_
  refine r_aI' H rfl (fun t6 H => ?_)
  rcases Decidable.em (t6 = (97 : Int32)) with h7 | h7
  · rw [if_pos h7] at H; refine r_look (t := 44) rfl (by rw [h7]; rfl) ?_
    refine r_aln rfl rfl rfl ?_
    refine r_iln rfl rfl rfl ?_
    refine r_iln rfl rfl rfl ?_
    refine r_vtI (rest := []) H rfl rfl rfl (s_X7_areTwo a0 t2 t4) rfl rfl ⟨rfl, rfl⟩ rfl (fun t8 h9 H => ?_)
    refine r_if H rfl rfl (fun H => ?_) (fun H => ?_)
    · refine r_aln rfl rfl rfl ?_
      refine r_gR H rfl kd_6_5 (fun r10 H => ?_)
      refine r_iln rfl rfl rfl ?_
      refine r_dup2 rfl ?_
      refine r_aI' H rfl (fun t11 H => ?_)
      refine r_ic (v := 1) rfl ci_1 ?_
      refine r_iln rfl rfl rfl ?_
      refine r_shl rfl ?_
      refine r_xor rfl ?_
      refine r_sI H rfl (fun H => ?_)
      refine r_ic (v := 1) rfl ci_1 ?_
      exact r_retz H rfl rfl ⟨Nat.zero_le _, Nat.zero_le _⟩
    · refine r_ic (v := 0) rfl ci_0 ?_
      exact r_retz H rfl rfl ⟨Nat.zero_le _, Nat.zero_le _⟩
  · rw [if_neg h7] at H; rcases Decidable.em (t6 = (98 : Int32)) with h12 | h12
    · rw [if_pos h12] at H; refine r_look (t := 63) rfl (by rw [h12]; rfl) ?_
      refine r_aln rfl rfl rfl ?_
      refine r_iln rfl rfl rfl ?_
      refine r_vtI (rest := []) H rfl rfl rfl (s_X7_isPerson a0 t2) rfl rfl ⟨rfl, rfl⟩ rfl (fun t13 h14 H => ?_)
      refine r_if H rfl rfl (fun H => ?_) (fun H => ?_)
      · refine r_aln rfl rfl rfl ?_
        refine r_gR H rfl kd_6_4 (fun r15 H => ?_)
        refine r_iln rfl rfl rfl ?_
        refine r_iln rfl rfl rfl ?_
        refine r_sI H rfl (fun H => ?_)
        refine r_ic (v := 1) rfl ci_1 ?_
        exact r_retz H rfl rfl ⟨Nat.zero_le _, Nat.zero_le _⟩
      · refine r_ic (v := 0) rfl ci_0 ?_
        exact r_retz H rfl rfl ⟨Nat.zero_le _, Nat.zero_le _⟩
    · rw [if_neg h12] at H; rcases Decidable.em (t6 = (103 : Int32)) with h16 | h16
      · rw [if_pos h16] at H; refine r_look (t := 93) rfl (by rw [h16]; rfl) ?_
        refine r_iln rfl rfl rfl ?_
        refine r_stI (rest := []) H rfl rfl (s_X7_isPlace t2) rfl rfl ⟨rfl, rfl⟩ rfl (fun t17 h18 H => ?_)
        refine r_if H rfl rfl (fun H => ?_) (fun H => ?_)
        · refine r_ic (v := 0) rfl ci_0 ?_
          exact r_retz H rfl rfl ⟨Nat.zero_le _, Nat.zero_le _⟩
        · refine r_iln rfl rfl rfl ?_
          refine r_ic (v := 3) rfl ci_3 ?_
          refine r_cmp H rfl rfl (fun H => ?_) (fun H => ?_)
          · refine r_aln rfl rfl rfl ?_
            refine r_gR H rfl kd_6_7 (fun r19 H => ?_)
            refine r_iln rfl rfl rfl ?_
            refine r_iln rfl rfl rfl ?_
            refine r_sI H rfl (fun H => ?_)
            refine r_ic (v := 1) rfl ci_1 ?_
            exact r_retz H rfl rfl ⟨Nat.zero_le _, Nat.zero_le _⟩
          · refine r_ic (v := 0) rfl ci_0 ?_
            exact r_retz H rfl rfl ⟨Nat.zero_le _, Nat.zero_le _⟩
      · rw [if_neg h16] at H; rcases Decidable.em (t6 = (112 : Int32)) with h20 | h20
        · rw [if_pos h20] at H; refine r_look (t := 21) rfl (by rw [h20]; rfl) ?_
          refine r_iln rfl rfl rfl ?_
          refine r_ic (v := 5) rfl ci_5 ?_
          refine r_cmp H rfl rfl (fun H => ?_) (fun H => ?_)
          · refine r_ic (v := 0) rfl ci_0 ?_
            exact r_retz H rfl rfl ⟨Nat.zero_le _, Nat.zero_le _⟩
          · refine r_aln rfl rfl rfl ?_
            refine r_gI' H rfl kl_6_8 (fun t21 H => ?_)
            refine r_bi (v := 7) rfl cb_7 ?_
            refine r_cmp H rfl rfl (fun H => ?_) (fun H => ?_)
            · refine r_aln rfl rfl rfl ?_
              refine r_iln rfl rfl rfl ?_
              refine r_iln rfl rfl rfl ?_
              refine r_aln rfl rfl rfl ?_
              refine r_gR H rfl kd_6_13 (fun r22 H => ?_)
              refine r_ic (v := 3) rfl ci_3 ?_
              refine r_iln rfl rfl rfl ?_
              refine r_mul rfl ?_
              refine r_ic (v := 2) rfl ci_2 ?_
              refine r_add rfl ?_
              refine r_aI' H rfl (fun t23 H => ?_)
              refine r_vtU (rest := []) H rfl rfl rfl (s_X7_adds a0 t2 t4 t23) rfl rfl ⟨rfl, rfl⟩ rfl (fun t24 h25 H => ?_)
              refine r_ic (v := 1) rfl ci_1 ?_
              exact r_retz H rfl rfl ⟨Nat.zero_le _, Nat.zero_le _⟩
            · refine r_ic (v := 0) rfl ci_0 ?_
              exact r_retz H rfl rfl ⟨Nat.zero_le _, Nat.zero_le _⟩
        · rw [if_neg h20] at H; rcases Decidable.em (t6 = (119 : Int32)) with h26 | h26
          · rw [if_pos h26] at H; refine r_look (t := 76) rfl (by rw [h26]; rfl) ?_
            refine r_iln rfl rfl rfl ?_
            refine r_stI (rest := []) H rfl rfl (s_X7_isPlace t2) rfl rfl ⟨rfl, rfl⟩ rfl (fun t27 h28 H => ?_)
            refine r_if H rfl rfl (fun H => ?_) (fun H => ?_)
            · refine r_ic (v := 0) rfl ci_0 ?_
              exact r_retz H rfl rfl ⟨Nat.zero_le _, Nat.zero_le _⟩
            · refine r_iln rfl rfl rfl ?_
              refine r_stI (rest := []) H rfl rfl (s_X7_isPlace t4) rfl rfl ⟨rfl, rfl⟩ rfl (fun t29 h30 H => ?_)
              refine r_if H rfl rfl (fun H => ?_) (fun H => ?_)
              · refine r_ic (v := 0) rfl ci_0 ?_
                exact r_retz H rfl rfl ⟨Nat.zero_le _, Nat.zero_le _⟩
              · refine r_iln rfl rfl rfl ?_
                refine r_iln rfl rfl rfl ?_
                refine r_cmp H rfl rfl (fun H => ?_) (fun H => ?_)
                · refine r_aln rfl rfl rfl ?_
                  refine r_iln rfl rfl rfl ?_
                  refine r_iln rfl rfl rfl ?_
                  refine r_vtU (rest := []) H rfl rfl rfl (s_X7_turnsWay a0 t2 t4) rfl rfl ⟨rfl, rfl⟩ rfl (fun t31 h32 H => ?_)
                  refine r_ic (v := 1) rfl ci_1 ?_
                  exact r_retz H rfl rfl ⟨Nat.zero_le _, Nat.zero_le _⟩
                · refine r_ic (v := 0) rfl ci_0 ?_
                  exact r_retz H rfl rfl ⟨Nat.zero_le _, Nat.zero_le _⟩
          · rw [if_neg h26] at H; refine r_look (t := 108) rfl (by have g0 := sw_ne h7 (v := 97) rfl; have g1 := sw_ne h12 (v := 98) rfl; have g2 := sw_ne h16 (v := 103) rfl; have g3 := sw_ne h20 (v := 112) rfl; have g4 := sw_ne h26 (v := 119) rfl; show lookTo [97, 98, 103, 112, 119] _ _ = _; simp only [lookTo, if_neg g0, if_neg g1, if_neg g2, if_neg g3, if_neg g4]) ?_
            refine r_aln rfl rfl rfl ?_
            refine r_gI' H rfl kl_6_9 (fun t33 H => ?_)
            refine r_iln rfl rfl rfl ?_
            refine r_add rfl ?_
            refine r_si (v := 999) rfl cs_999 ?_
            refine r_cmp H rfl rfl (fun H => ?_) (fun H => ?_)
            · refine r_ic (v := 0) rfl ci_0 ?_
              refine r_is (L' := [some (.ref a0), some (.int a1), some (.int t2), some (.int t4), some (.int (0 : Int32))]) rfl (Nat.le_of_ble_eq_true rfl) rfl ?_
              refine (r_loop (P := (fun (s34 : Int32) hq => Rn none 0 0 eX7_comes 118 [some (.ref a0), some (.int a1), some (.int t2), some (.int t4), some (.int s34)] [] hq (eI vr, hr))) ?_ NF _ _ H)
              intro k35 K35 s34 hs34 H 
              refine r_il rfl rfl ?_
              refine r_iln rfl rfl rfl ?_
              refine r_cmp H rfl rfl (fun H => ?_) (fun H => ?_)
              · refine r_ic (v := 1) rfl ci_1 ?_
                exact r_retz H rfl rfl ⟨Nat.zero_le _, Nat.zero_le _⟩
              · refine r_aln rfl rfl rfl ?_
                refine r_vtI (rest := []) H rfl rfl rfl (s_X7_goesWeek a0) rfl rfl ⟨rfl, rfl⟩ rfl (fun t36 h37 H => ?_)
                refine r_popi rfl ?_
                refine r_inc (v := 1) (L' := [some (.ref a0), some (.int a1), some (.int t2), some (.int t4), some (.int (s34 + (1 : Int32)))]) rfl rfl ci_1 rfl ?_
                refine r_go rfl ?_
                have q := K35 _ _ H
                exact q
            · refine r_ic (v := 0) rfl ci_0 ?_
              exact r_retz H rfl rfl ⟨Nat.zero_le _, Nat.zero_le _⟩
def f_X7_passes (a0 : Nat) (a1 : Nat) : M Unit := loopK NF (fun (s1 : Int32) k2 => bnd (len a1) fun t3 => if t3 ≤ s1 then rt () else bnd (gI 6 19 a0) fun t4 => jn (fun k6 => if t4 = (0 : Int32) then bnd (gR 6 17 a0) fun r8 => bnd (gI 6 20 a0) fun t9 => bnd (aI r8 t9) fun t10 => bnd (sI a1 s1 t10) fun _ => k6 () else bnd (gR 6 17 a0) fun r11 => bnd (gI 6 20 a0) fun t12 => bnd (aI a1 s1) fun t13 => bnd (sI r11 t12 t13) fun _ => k6 ()) (fun (s5 : Unit) => bnd (gI 6 20 a0) fun t7 => bnd (pI 6 20 a0 (t7 + (1 : Int32))) fun _ => k2 (s1 + (1 : Int32)))) (0 : Int32)
set_option maxRecDepth 20000 in
theorem s_X7_passes (a0 : Nat) (a1 : Nat) : Sm eX7_passes [.ref a0, .ref a1] eU (f_X7_passes a0 a1) := by
  intro hp vr hr H
  unfold f_X7_passes at H
  show Rn none 0 0 eX7_passes 0 [some (.ref a0), some (.ref a1), none] [] hp (eU vr, hr)
  refine r_ic (v := 0) rfl ci_0 ?_
  refine r_isn (L' := [some (.ref a0), some (.ref a1), some (.int (0 : Int32))]) rfl rfl (Nat.le_of_ble_eq_true rfl) rfl ?_
  refine (r_loop (P := (fun (s1 : Int32) hq => Rn none 0 0 eX7_passes 2 [some (.ref a0), some (.ref a1), some (.int s1)] [] hq (eU vr, hr))) ?_ NF _ _ H)
  intro k2 K2 s1 hs1 H 
  refine r_iln rfl rfl rfl ?_
  refine r_aln rfl rfl rfl ?_
  refine r_len H rfl (fun t3 H => ?_)
  refine r_cmp H rfl rfl (fun H => ?_) (fun H => ?_)
  · exact r_retv H rfl rfl ⟨Nat.zero_le _, Nat.zero_le _⟩
  · refine r_aln rfl rfl rfl ?_
    refine r_gI' H rfl kl_6_19 (fun t4 H => ?_)
    refine r_jn (P := (fun (s5 : Unit) hq => Rn none 0 0 eX7_passes 26 [some (.ref a0), some (.ref a1), some (.int s1)] [] hq (eU vr, hr))) H (fun s5 hs5 H  => ?_) (fun k6 K6 H => ?_)
    · refine r_aln rfl rfl rfl ?_
      refine r_dupr rfl ?_
      refine r_gI' H rfl kl_6_20 (fun t7 H => ?_)
      refine r_ic (v := 1) rfl ci_1 ?_
      refine r_add rfl ?_
      refine r_pI H rfl kd_6_20 (fun H => ?_)
      refine r_inc (v := 1) (L' := [some (.ref a0), some (.ref a1), some (.int (s1 + (1 : Int32)))]) rfl rfl ci_1 rfl ?_
      refine r_go rfl ?_
      have q := K2 _ _ H
      exact q
    · refine r_if H rfl rfl (fun H => ?_) (fun H => ?_)
      · refine r_aln rfl rfl rfl ?_
        refine r_iln rfl rfl rfl ?_
        refine r_aln rfl rfl rfl ?_
        refine r_gR H rfl kd_6_17 (fun r8 H => ?_)
        refine r_aln rfl rfl rfl ?_
        refine r_gI' H rfl kl_6_20 (fun t9 H => ?_)
        refine r_aI' H rfl (fun t10 H => ?_)
        refine r_sI H rfl (fun H => ?_)
        have q := K6 _ _ H
        exact q
      · refine r_aln rfl rfl rfl ?_
        refine r_gR H rfl kd_6_17 (fun r11 H => ?_)
        refine r_aln rfl rfl rfl ?_
        refine r_gI' H rfl kl_6_20 (fun t12 H => ?_)
        refine r_aln rfl rfl rfl ?_
        refine r_iln rfl rfl rfl ?_
        refine r_aI' H rfl (fun t13 H => ?_)
        refine r_sI H rfl (fun H => ?_)
        refine r_go rfl ?_
        have q := K6 _ _ H
        exact q
def f_X7_passOne (a0 : Nat) (a1 : Int32) : M Int32 := bnd (gI 6 19 a0) fun t1 => jn (fun k3 => if t1 = (0 : Int32) then bnd (gR 6 17 a0) fun r9 => bnd (gI 6 20 a0) fun t10 => bnd (aI r9 t10) fun t11 => k3 t11 else k3 a1) (fun (s2 : Int32) => bnd (gI 6 19 a0) fun t4 => if t4 = (0 : Int32) then bnd (gI 6 20 a0) fun t5 => bnd (pI 6 20 a0 (t5 + (1 : Int32))) fun _ => rt s2 else bnd (gR 6 17 a0) fun r6 => bnd (gI 6 20 a0) fun t7 => bnd (sI r6 t7 a1) fun _ => bnd (gI 6 20 a0) fun t8 => bnd (pI 6 20 a0 (t8 + (1 : Int32))) fun _ => rt s2)
set_option maxRecDepth 20000 in
theorem s_X7_passOne (a0 : Nat) (a1 : Int32) : Sm eX7_passOne [.ref a0, .int a1] eI (f_X7_passOne a0 a1) := by
  intro hp vr hr H
  unfold f_X7_passOne at H
  show Rn none 0 0 eX7_passOne 0 [some (.ref a0), some (.int a1), none] [] hp (eI vr, hr)
  refine r_aln rfl rfl rfl ?_
  refine r_gI' H rfl kl_6_19 (fun t1 H => ?_)
  refine r_jn (P := (fun (s2 : Int32) hq => Rn none 0 0 eX7_passOne 10 [some (.ref a0), some (.int a1), none] [.int s2] hq (eI vr, hr))) H (fun s2 hs2 H  => ?_) (fun k3 K3 H => ?_)
  · refine r_isn (L' := [some (.ref a0), some (.int a1), some (.int s2)]) rfl rfl (Nat.le_of_ble_eq_true rfl) rfl ?_
    refine r_aln rfl rfl rfl ?_
    refine r_gI' H rfl kl_6_19 (fun t4 H => ?_)
    refine r_if H rfl rfl (fun H => ?_) (fun H => ?_)
    · refine r_aln rfl rfl rfl ?_
      refine r_dupr rfl ?_
      refine r_gI' H rfl kl_6_20 (fun t5 H => ?_)
      refine r_ic (v := 1) rfl ci_1 ?_
      refine r_add rfl ?_
      refine r_pI H rfl kd_6_20 (fun H => ?_)
      refine r_iln rfl rfl rfl ?_
      exact r_reti H rfl rfl ⟨Nat.zero_le _, Nat.zero_le _⟩
    · refine r_aln rfl rfl rfl ?_
      refine r_gR H rfl kd_6_17 (fun r6 H => ?_)
      refine r_aln rfl rfl rfl ?_
      refine r_gI' H rfl kl_6_20 (fun t7 H => ?_)
      refine r_iln rfl rfl rfl ?_
      refine r_sI H rfl (fun H => ?_)
      refine r_aln rfl rfl rfl ?_
      refine r_dupr rfl ?_
      refine r_gI' H rfl kl_6_20 (fun t8 H => ?_)
      refine r_ic (v := 1) rfl ci_1 ?_
      refine r_add rfl ?_
      refine r_pI H rfl kd_6_20 (fun H => ?_)
      refine r_iln rfl rfl rfl ?_
      exact r_reti H rfl rfl ⟨Nat.zero_le _, Nat.zero_le _⟩
  · refine r_if H rfl rfl (fun H => ?_) (fun H => ?_)
    · refine r_aln rfl rfl rfl ?_
      refine r_gR H rfl kd_6_17 (fun r9 H => ?_)
      refine r_aln rfl rfl rfl ?_
      refine r_gI' H rfl kl_6_20 (fun t10 H => ?_)
      refine r_aI' H rfl (fun t11 H => ?_)
      have q := K3 _ _ H
      exact q
    · refine r_iln rfl rfl rfl ?_
      refine r_go rfl ?_
      have q := K3 _ _ H
      exact q
def f_X7_passesAll (a0 : Nat) (a1 : Int32) (a2 : Int32) : M Unit := bnd (pI 6 20 a0 ((55 : Int32) * a1)) fun _ => bnd (pZ 6 19 a0 a2) fun _ => bnd (gR 6 1 a0) fun r1 => bnd (cv 6 a0 (f_X7_passes a0 r1)) fun _ => bnd (gR 6 2 a0) fun r4 => bnd (cv 6 a0 (f_X7_passes a0 r4)) fun _ => bnd (gR 6 3 a0) fun r7 => bnd (cv 6 a0 (f_X7_passes a0 r7)) fun _ => bnd (gR 6 4 a0) fun r10 => bnd (cv 6 a0 (f_X7_passes a0 r10)) fun _ => bnd (gR 6 5 a0) fun r13 => bnd (cv 6 a0 (f_X7_passes a0 r13)) fun _ => bnd (gR 6 6 a0) fun r16 => bnd (cv 6 a0 (f_X7_passes a0 r16)) fun _ => bnd (gR 6 7 a0) fun r19 => bnd (cv 6 a0 (f_X7_passes a0 r19)) fun _ => bnd (gI 6 8 a0) fun t22 => bnd (cv 6 a0 (f_X7_passOne a0 t22)) fun t23 => bnd (pI 6 8 a0 t23) fun _ => bnd (gI 6 9 a0) fun t25 => bnd (cv 6 a0 (f_X7_passOne a0 t25)) fun t26 => bnd (pI 6 9 a0 t26) fun _ => rt ()
set_option maxRecDepth 20000 in
theorem s_X7_passesAll (a0 : Nat) (a1 : Int32) (a2 : Int32) : Sm eX7_passesAll [.ref a0, .int a1, .int a2] eU (f_X7_passesAll a0 a1 a2) := by
  intro hp vr hr H
  unfold f_X7_passesAll at H
  show Rn none 0 0 eX7_passesAll 0 [some (.ref a0), some (.int a1), some (.int a2)] [] hp (eU vr, hr)
  refine r_aln rfl rfl rfl ?_
  refine r_bi (v := 55) rfl cb_55 ?_
  refine r_iln rfl rfl rfl ?_
  refine r_mul rfl ?_
  refine r_pI H rfl kd_6_20 (fun H => ?_)
  refine r_aln rfl rfl rfl ?_
  refine r_iln rfl rfl rfl ?_
  refine r_pZ H rfl kd_6_19 (fun H => ?_)
  refine r_aln rfl rfl rfl ?_
  refine r_aln rfl rfl rfl ?_
  refine r_gR H rfl kd_6_1 (fun r1 H => ?_)
  refine r_vtU (rest := []) H rfl rfl rfl (s_X7_passes a0 r1) rfl rfl ⟨rfl, rfl⟩ rfl (fun t2 h3 H => ?_)
  refine r_aln rfl rfl rfl ?_
  refine r_aln rfl rfl rfl ?_
  refine r_gR H rfl kd_6_2 (fun r4 H => ?_)
  refine r_vtU (rest := []) H rfl rfl rfl (s_X7_passes a0 r4) rfl rfl ⟨rfl, rfl⟩ rfl (fun t5 h6 H => ?_)
  refine r_aln rfl rfl rfl ?_
  refine r_aln rfl rfl rfl ?_
  refine r_gR H rfl kd_6_3 (fun r7 H => ?_)
  refine r_vtU (rest := []) H rfl rfl rfl (s_X7_passes a0 r7) rfl rfl ⟨rfl, rfl⟩ rfl (fun t8 h9 H => ?_)
  refine r_aln rfl rfl rfl ?_
  refine r_aln rfl rfl rfl ?_
  refine r_gR H rfl kd_6_4 (fun r10 H => ?_)
  refine r_vtU (rest := []) H rfl rfl rfl (s_X7_passes a0 r10) rfl rfl ⟨rfl, rfl⟩ rfl (fun t11 h12 H => ?_)
  refine r_aln rfl rfl rfl ?_
  refine r_aln rfl rfl rfl ?_
  refine r_gR H rfl kd_6_5 (fun r13 H => ?_)
  refine r_vtU (rest := []) H rfl rfl rfl (s_X7_passes a0 r13) rfl rfl ⟨rfl, rfl⟩ rfl (fun t14 h15 H => ?_)
  refine r_aln rfl rfl rfl ?_
  refine r_aln rfl rfl rfl ?_
  refine r_gR H rfl kd_6_6 (fun r16 H => ?_)
  refine r_vtU (rest := []) H rfl rfl rfl (s_X7_passes a0 r16) rfl rfl ⟨rfl, rfl⟩ rfl (fun t17 h18 H => ?_)
  refine r_aln rfl rfl rfl ?_
  refine r_aln rfl rfl rfl ?_
  refine r_gR H rfl kd_6_7 (fun r19 H => ?_)
  refine r_vtU (rest := []) H rfl rfl rfl (s_X7_passes a0 r19) rfl rfl ⟨rfl, rfl⟩ rfl (fun t20 h21 H => ?_)
  refine r_aln rfl rfl rfl ?_
  refine r_aln rfl rfl rfl ?_
  refine r_aln rfl rfl rfl ?_
  refine r_gI' H rfl kl_6_8 (fun t22 H => ?_)
  refine r_vtI (rest := [.ref a0]) H rfl rfl rfl (s_X7_passOne a0 t22) rfl rfl ⟨rfl, rfl⟩ rfl (fun t23 h24 H => ?_)
  refine r_pI H rfl kd_6_8 (fun H => ?_)
  refine r_aln rfl rfl rfl ?_
  refine r_aln rfl rfl rfl ?_
  refine r_aln rfl rfl rfl ?_
  refine r_gI' H rfl kl_6_9 (fun t25 H => ?_)
  refine r_vtI (rest := [.ref a0]) H rfl rfl rfl (s_X7_passOne a0 t25) rfl rfl ⟨rfl, rfl⟩ rfl (fun t26 h27 H => ?_)
  refine r_pI H rfl kd_6_9 (fun H => ?_)
  exact r_retv H rfl rfl ⟨Nat.zero_le _, Nat.zero_le _⟩
def f_X7_town (a0 : Nat) : M Int32 := bnd (pI 6 15 a0 (0 : Int32)) fun _ => bnd (pI 6 16 a0 (0 : Int32)) fun _ => loopK NF (fun (s1 : Int32) k2 => jn (fun k4 => if s1 = (0 : Int32) then k4 () else bnd (gI 6 15 a0) fun t18 => bnd (gI 6 14 a0) fun t19 => jn (fun k21 => if t18 < t19 then k21 () else bnd (gI 6 16 a0) fun t25 => if ¬ t25 = (0 : Int32) then k4 () else k21 ()) (fun (s20 : Unit) => bnd (cv 6 a0 (f_X7_statement a0)) fun t22 => bnd (gI 6 16 a0) fun t24 => if t22 = (0 : Int32) then bnd (pI 6 16 a0 (t24 + (0 : Int32))) fun _ => k2 t22 else bnd (pI 6 16 a0 (t24 + (1 : Int32))) fun _ => k2 t22)) (fun (s3 : Unit) => bnd (pI 6 14 a0 (0 : Int32)) fun _ => if ¬ s1 = (0 : Int32) then bnd (cv 6 a0 (f_X7_passesAll a0 (1 : Int32) (1 : Int32))) fun _ => loopK NF (fun (s7 : Int32) k8 => bnd (gI 6 16 a0) fun t9 => if t9 ≤ s7 then bnd (pI 6 21 a0 (0 : Int32)) fun _ => bnd (gI 6 16 a0) fun t10 => rt t10 else bnd (cv 6 a0 (f_X7_comes a0 s7)) fun t11 => if t11 = (0 : Int32) then bnd (cv 6 a0 (f_X7_passesAll a0 (1 : Int32) (0 : Int32))) fun _ => bnd (gR 6 12 a0) fun r15 => bnd (aI r15 s7) fun t16 => rt ((-2000 : Int32) - t16) else k8 (s7 + (1 : Int32))) (0 : Int32) else bnd (gI 6 15 a0) fun t17 => rt ((-1000 : Int32) - t17))) (1 : Int32)
set_option maxRecDepth 20000 in
theorem s_X7_town (a0 : Nat) : Sm eX7_town [.ref a0] eI (f_X7_town a0) := by
  intro hp vr hr H
  unfold f_X7_town at H
  show Rn none 0 0 eX7_town 0 [some (.ref a0), none, none] [] hp (eI vr, hr)
  refine r_aln rfl rfl rfl ?_
  refine r_ic (v := 0) rfl ci_0 ?_
  refine r_pI H rfl kd_6_15 (fun H => ?_)
  refine r_aln rfl rfl rfl ?_
  refine r_ic (v := 0) rfl ci_0 ?_
  refine r_pI H rfl kd_6_16 (fun H => ?_)
  refine r_ic (v := 1) rfl ci_1 ?_
  refine r_isn (L' := [some (.ref a0), some (.int (1 : Int32)), none]) rfl rfl (Nat.le_of_ble_eq_true rfl) rfl ?_
  refine (r_loop (P := (fun (s1 : Int32) hq => Rn none 0 0 eX7_town 8 [some (.ref a0), some (.int s1), none] [] hq (eI vr, hr))) ?_ NF _ _ H)
  intro k2 K2 s1 hs1 H 
  refine r_iln rfl rfl rfl ?_
  refine r_jn (P := (fun (s3 : Unit) hq => Rn none 0 0 eX7_town 32 [some (.ref a0), some (.int s1), none] [] hq (eI vr, hr))) H (fun s3 hs3 H  => ?_) (fun k4 K4 H => ?_)
  · refine r_aln rfl rfl rfl ?_
    refine r_ic (v := 0) rfl ci_0 ?_
    refine r_pI H rfl kd_6_14 (fun H => ?_)
    refine r_iln rfl rfl rfl ?_
    refine r_if H rfl rfl (fun H => ?_) (fun H => ?_)
    · refine r_aln rfl rfl rfl ?_
      refine r_ic (v := 1) rfl ci_1 ?_
      refine r_ic (v := 1) rfl ci_1 ?_
      refine r_vtU (rest := []) H rfl rfl rfl (s_X7_passesAll a0 (1 : Int32) (1 : Int32)) rfl rfl ⟨rfl, rfl⟩ rfl (fun t5 h6 H => ?_)
      refine r_ic (v := 0) rfl ci_0 ?_
      refine r_isn (L' := [some (.ref a0), some (.int s1), some (.int (0 : Int32))]) rfl rfl (Nat.le_of_ble_eq_true rfl) rfl ?_
      refine (r_loop (P := (fun (s7 : Int32) hq => Rn none 0 0 eX7_town 48 [some (.ref a0), some (.int s1), some (.int s7)] [] hq (eI vr, hr))) ?_ NF _ _ H)
      intro k8 K8 s7 hs7 H 
      refine r_iln rfl rfl rfl ?_
      refine r_aln rfl rfl rfl ?_
      refine r_gI' H rfl kl_6_16 (fun t9 H => ?_)
      refine r_cmp H rfl rfl (fun H => ?_) (fun H => ?_)
      · refine r_aln rfl rfl rfl ?_
        refine r_ic (v := 0) rfl ci_0 ?_
        refine r_pI H rfl kd_6_21 (fun H => ?_)
        refine r_aln rfl rfl rfl ?_
        refine r_gI' H rfl kl_6_16 (fun t10 H => ?_)
        exact r_reti H rfl rfl ⟨Nat.zero_le _, Nat.zero_le _⟩
      · refine r_aln rfl rfl rfl ?_
        refine r_iln rfl rfl rfl ?_
        refine r_vtI (rest := []) H rfl rfl rfl (s_X7_comes a0 s7) rfl rfl ⟨rfl, rfl⟩ rfl (fun t11 h12 H => ?_)
        refine r_if H rfl rfl (fun H => ?_) (fun H => ?_)
        · refine r_aln rfl rfl rfl ?_
          refine r_ic (v := 1) rfl ci_1 ?_
          refine r_ic (v := 0) rfl ci_0 ?_
          refine r_vtU (rest := []) H rfl rfl rfl (s_X7_passesAll a0 (1 : Int32) (0 : Int32)) rfl rfl ⟨rfl, rfl⟩ rfl (fun t13 h14 H => ?_)
          refine r_si (v := -2000) rfl cs_m2000 ?_
          refine r_aln rfl rfl rfl ?_
          refine r_gR H rfl kd_6_12 (fun r15 H => ?_)
          refine r_iln rfl rfl rfl ?_
          refine r_aI' H rfl (fun t16 H => ?_)
          refine r_sub rfl ?_
          exact r_reti H rfl rfl ⟨Nat.zero_le _, Nat.zero_le _⟩
        · refine r_go rfl ?_
          refine r_inc (v := 1) (L' := [some (.ref a0), some (.int s1), some (.int (s7 + (1 : Int32)))]) rfl rfl ci_1 rfl ?_
          refine r_go rfl ?_
          have q := K8 _ _ H
          exact q
    · refine r_si (v := -1000) rfl cs_m1000 ?_
      refine r_aln rfl rfl rfl ?_
      refine r_gI' H rfl kl_6_15 (fun t17 H => ?_)
      refine r_sub rfl ?_
      exact r_reti H rfl rfl ⟨Nat.zero_le _, Nat.zero_le _⟩
  · refine r_if H rfl rfl (fun H => ?_) (fun H => ?_)
    · have q := K4 _ _ H
      exact q
    · refine r_aln rfl rfl rfl ?_
      refine r_gI' H rfl kl_6_15 (fun t18 H => ?_)
      refine r_aln rfl rfl rfl ?_
      refine r_gI' H rfl kl_6_14 (fun t19 H => ?_)
      refine r_jn (P := (fun (s20 : Unit) hq => Rn none 0 0 eX7_town 18 [some (.ref a0), some (.int s1), none] [] hq (eI vr, hr))) H (fun s20 hs20 H  => ?_) (fun k21 K21 H => ?_)
      · refine r_aln rfl rfl rfl ?_
        refine r_vtI (rest := []) H rfl rfl rfl (s_X7_statement a0) rfl rfl ⟨rfl, rfl⟩ rfl (fun t22 h23 H => ?_)
        refine r_isn (L' := [some (.ref a0), some (.int t22), none]) rfl rfl (Nat.le_of_ble_eq_true rfl) rfl ?_
        refine r_aln rfl rfl rfl ?_
        refine r_dupr rfl ?_
        refine r_gI' H rfl kl_6_16 (fun t24 H => ?_)
        refine r_iln rfl rfl rfl ?_
        refine r_if H rfl rfl (fun H => ?_) (fun H => ?_)
        · refine r_ic (v := 0) rfl ci_0 ?_
          refine r_add rfl ?_
          refine r_pI H rfl kd_6_16 (fun H => ?_)
          refine r_go rfl ?_
          have q := K2 _ _ H
          exact q
        · refine r_ic (v := 1) rfl ci_1 ?_
          refine r_go rfl ?_
          refine r_add rfl ?_
          refine r_pI H rfl kd_6_16 (fun H => ?_)
          refine r_go rfl ?_
          have q := K2 _ _ H
          exact q
      · refine r_cmp H rfl rfl (fun H => ?_) (fun H => ?_)
        · have q := K21 _ _ H
          exact q
        · refine r_aln rfl rfl rfl ?_
          refine r_gI' H rfl kl_6_16 (fun t25 H => ?_)
          refine r_if H rfl rfl (fun H => ?_) (fun H => ?_)
          · have q := K4 _ _ H
            exact q
          · have q := K21 _ _ H
            exact q
def f_X7_thinks (a0 : Nat) : M Unit := bnd (cv 6 a0 (f_X7_passesAll a0 (2 : Int32) (1 : Int32))) fun _ => rt ()
set_option maxRecDepth 20000 in
theorem s_X7_thinks (a0 : Nat) : Sm eX7_thinks [.ref a0] eU (f_X7_thinks a0) := by
  intro hp vr hr H
  unfold f_X7_thinks at H
  show Rn none 0 0 eX7_thinks 0 [some (.ref a0)] [] hp (eU vr, hr)
  refine r_aln rfl rfl rfl ?_
  refine r_ic (v := 2) rfl ci_2 ?_
  refine r_ic (v := 1) rfl ci_1 ?_
  refine r_vtU (rest := []) H rfl rfl rfl (s_X7_passesAll a0 (2 : Int32) (1 : Int32)) rfl rfl ⟨rfl, rfl⟩ rfl (fun t1 h2 H => ?_)
  exact r_retv H rfl rfl ⟨Nat.zero_le _, Nat.zero_le _⟩
def f_X7_forgets (a0 : Nat) : M Unit := bnd (cv 6 a0 (f_X7_passesAll a0 (2 : Int32) (0 : Int32))) fun _ => rt ()
set_option maxRecDepth 20000 in
theorem s_X7_forgets (a0 : Nat) : Sm eX7_forgets [.ref a0] eU (f_X7_forgets a0) := by
  intro hp vr hr H
  unfold f_X7_forgets at H
  show Rn none 0 0 eX7_forgets 0 [some (.ref a0)] [] hp (eU vr, hr)
  refine r_aln rfl rfl rfl ?_
  refine r_ic (v := 2) rfl ci_2 ?_
  refine r_ic (v := 0) rfl ci_0 ?_
  refine r_vtU (rest := []) H rfl rfl rfl (s_X7_passesAll a0 (2 : Int32) (0 : Int32)) rfl rfl ⟨rfl, rfl⟩ rfl (fun t1 h2 H => ?_)
  exact r_retv H rfl rfl ⟨Nat.zero_le _, Nat.zero_le _⟩
def f_X7_keepsBack (a0 : Nat) : M Unit := bnd (gI 6 21 a0) fun t1 => jn (fun k3 => if ¬ t1 = (8 : Int32) then k3 () else loopK NF (fun (s9 : Int32) k10 => if (550 : Int32) ≤ s9 then bnd (gI 6 21 a0) fun t11 => bnd (pI 6 21 a0 (t11 - (1 : Int32))) fun _ => k3 () else bnd (gR 6 17 a0) fun r12 => bnd (gR 6 17 a0) fun r13 => bnd (aI r13 (s9 + (55 : Int32))) fun t14 => bnd (sI r12 s9 t14) fun _ => k10 (s9 + (1 : Int32))) (165 : Int32)) (fun (s2 : Unit) => bnd (gI 6 21 a0) fun t5 => bnd (cv 6 a0 (f_X7_passesAll a0 ((3 : Int32) + t5) (1 : Int32))) fun _ => bnd (gI 6 21 a0) fun t8 => bnd (pI 6 21 a0 (t8 + (1 : Int32))) fun _ => rt ())
set_option maxRecDepth 20000 in
theorem s_X7_keepsBack (a0 : Nat) : Sm eX7_keepsBack [.ref a0] eU (f_X7_keepsBack a0) := by
  intro hp vr hr H
  unfold f_X7_keepsBack at H
  show Rn none 0 0 eX7_keepsBack 0 [some (.ref a0), none] [] hp (eU vr, hr)
  refine r_aln rfl rfl rfl ?_
  refine r_gI' H rfl kl_6_21 (fun t1 H => ?_)
  refine r_bi (v := 8) rfl cb_8 ?_
  refine r_jn (P := (fun (s2 : Unit) hq => ∀ x4 : Option Value, Rn none 0 0 eX7_keepsBack 27 [some (.ref a0), x4] [] hq (eU vr, hr))) H (fun s2 hs2 H x4 => ?_) (fun k3 K3 H => ?_)
  · refine r_aln rfl rfl rfl ?_
    refine r_ic (v := 3) rfl ci_3 ?_
    refine r_aln rfl rfl rfl ?_
    refine r_gI' H rfl kl_6_21 (fun t5 H => ?_)
    refine r_add rfl ?_
    refine r_ic (v := 1) rfl ci_1 ?_
    refine r_vtU (rest := []) H rfl rfl rfl (s_X7_passesAll a0 ((3 : Int32) + t5) (1 : Int32)) rfl rfl ⟨rfl, rfl⟩ rfl (fun t6 h7 H => ?_)
    refine r_aln rfl rfl rfl ?_
    refine r_dupr rfl ?_
    refine r_gI' H rfl kl_6_21 (fun t8 H => ?_)
    refine r_ic (v := 1) rfl ci_1 ?_
    refine r_add rfl ?_
    refine r_pI H rfl kd_6_21 (fun H => ?_)
    exact r_retv H rfl rfl ⟨Nat.zero_le _, Nat.zero_le _⟩
  · refine r_cmp H rfl rfl (fun H => ?_) (fun H => ?_)
    · have q := K3 _ _ H
      exact q _
    · refine r_si (v := 165) rfl cs_165 ?_
      refine r_isn (L' := [some (.ref a0), some (.int (165 : Int32))]) rfl rfl (Nat.le_of_ble_eq_true rfl) rfl ?_
      refine (r_loop (P := (fun (s9 : Int32) hq => Rn none 0 0 eX7_keepsBack 6 [some (.ref a0), some (.int s9)] [] hq (eU vr, hr))) ?_ NF _ _ H)
      intro k10 K10 s9 hs9 H 
      refine r_iln rfl rfl rfl ?_
      refine r_si (v := 550) rfl cs_550 ?_
      refine r_cmp H rfl rfl (fun H => ?_) (fun H => ?_)
      · refine r_aln rfl rfl rfl ?_
        refine r_dupr rfl ?_
        refine r_gI' H rfl kl_6_21 (fun t11 H => ?_)
        refine r_ic (v := 1) rfl ci_1 ?_
        refine r_sub rfl ?_
        refine r_pI H rfl kd_6_21 (fun H => ?_)
        have q := K3 _ _ H
        exact q _
      · refine r_aln rfl rfl rfl ?_
        refine r_gR H rfl kd_6_17 (fun r12 H => ?_)
        refine r_iln rfl rfl rfl ?_
        refine r_aln rfl rfl rfl ?_
        refine r_gR H rfl kd_6_17 (fun r13 H => ?_)
        refine r_iln rfl rfl rfl ?_
        refine r_bi (v := 55) rfl cb_55 ?_
        refine r_add rfl ?_
        refine r_aI' H rfl (fun t14 H => ?_)
        refine r_sI H rfl (fun H => ?_)
        refine r_inc (v := 1) (L' := [some (.ref a0), some (.int (s9 + (1 : Int32)))]) rfl rfl ci_1 rfl ?_
        refine r_go rfl ?_
        have q := K10 _ _ H
        exact q
def f_X7_back (a0 : Nat) : M Int32 := bnd (gI 6 21 a0) fun t1 => if ¬ t1 = (0 : Int32) then bnd (gI 6 21 a0) fun t2 => bnd (pI 6 21 a0 (t2 - (1 : Int32))) fun _ => bnd (gI 6 21 a0) fun t3 => bnd (cv 6 a0 (f_X7_passesAll a0 ((3 : Int32) + t3) (0 : Int32))) fun _ => bnd (gI 6 21 a0) fun t6 => rt t6 else bnd (cv 6 a0 (f_X7_no a0 (-3 : Int32))) fun t7 => rt t7
set_option maxRecDepth 20000 in
theorem s_X7_back (a0 : Nat) : Sm eX7_back [.ref a0] eI (f_X7_back a0) := by
  intro hp vr hr H
  unfold f_X7_back at H
  show Rn none 0 0 eX7_back 0 [some (.ref a0)] [] hp (eI vr, hr)
  refine r_aln rfl rfl rfl ?_
  refine r_gI' H rfl kl_6_21 (fun t1 H => ?_)
  refine r_if H rfl rfl (fun H => ?_) (fun H => ?_)
  · refine r_aln rfl rfl rfl ?_
    refine r_dupr rfl ?_
    refine r_gI' H rfl kl_6_21 (fun t2 H => ?_)
    refine r_ic (v := 1) rfl ci_1 ?_
    refine r_sub rfl ?_
    refine r_pI H rfl kd_6_21 (fun H => ?_)
    refine r_aln rfl rfl rfl ?_
    refine r_ic (v := 3) rfl ci_3 ?_
    refine r_aln rfl rfl rfl ?_
    refine r_gI' H rfl kl_6_21 (fun t3 H => ?_)
    refine r_add rfl ?_
    refine r_ic (v := 0) rfl ci_0 ?_
    refine r_vtU (rest := []) H rfl rfl rfl (s_X7_passesAll a0 ((3 : Int32) + t3) (0 : Int32)) rfl rfl ⟨rfl, rfl⟩ rfl (fun t4 h5 H => ?_)
    refine r_aln rfl rfl rfl ?_
    refine r_gI' H rfl kl_6_21 (fun t6 H => ?_)
    exact r_reti H rfl rfl ⟨Nat.zero_le _, Nat.zero_le _⟩
  · refine r_aln rfl rfl rfl ?_
    refine r_bi (v := -3) rfl cb_m3 ?_
    refine r_vtI (rest := []) H rfl rfl rfl (s_X7_no a0 (-3 : Int32)) rfl rfl ⟨rfl, rfl⟩ rfl (fun t7 h8 H => ?_)
    exact r_reti H rfl rfl ⟨Nat.zero_le _, Nat.zero_le _⟩
def f_X7_image (a0 : Nat) : M Int32 := bnd (pZ 6 18 a0 (1 : Int32)) fun _ => bnd (cv 6 a0 (f_X7_passesAll a0 (0 : Int32) (1 : Int32))) fun _ => bnd (gI 6 9 a0) fun t3 => rt t3
set_option maxRecDepth 20000 in
theorem s_X7_image (a0 : Nat) : Sm eX7_image [.ref a0] eI (f_X7_image a0) := by
  intro hp vr hr H
  unfold f_X7_image at H
  show Rn none 0 0 eX7_image 0 [some (.ref a0)] [] hp (eI vr, hr)
  refine r_aln rfl rfl rfl ?_
  refine r_ic (v := 1) rfl ci_1 ?_
  refine r_pZ H rfl kd_6_18 (fun H => ?_)
  refine r_aln rfl rfl rfl ?_
  refine r_ic (v := 0) rfl ci_0 ?_
  refine r_ic (v := 1) rfl ci_1 ?_
  refine r_vtU (rest := []) H rfl rfl rfl (s_X7_passesAll a0 (0 : Int32) (1 : Int32)) rfl rfl ⟨rfl, rfl⟩ rfl (fun t1 h2 H => ?_)
  refine r_aln rfl rfl rfl ?_
  refine r_gI' H rfl kl_6_9 (fun t3 H => ?_)
  exact r_reti H rfl rfl ⟨Nat.zero_le _, Nat.zero_le _⟩
def f_X7_restore (a0 : Nat) : M Int32 := bnd (gI 6 18 a0) fun t1 => if ¬ t1 = (0 : Int32) then bnd (cv 6 a0 (f_X7_passesAll a0 (0 : Int32) (0 : Int32))) fun _ => bnd (pI 6 21 a0 (0 : Int32)) fun _ => bnd (gI 6 9 a0) fun t4 => rt t4 else bnd (cv 6 a0 (f_X7_no a0 (-3 : Int32))) fun t5 => rt t5
set_option maxRecDepth 20000 in
theorem s_X7_restore (a0 : Nat) : Sm eX7_restore [.ref a0] eI (f_X7_restore a0) := by
  intro hp vr hr H
  unfold f_X7_restore at H
  show Rn none 0 0 eX7_restore 0 [some (.ref a0)] [] hp (eI vr, hr)
  refine r_aln rfl rfl rfl ?_
  refine r_gI' H rfl kl_6_18 (fun t1 H => ?_)
  refine r_if H rfl rfl (fun H => ?_) (fun H => ?_)
  · refine r_aln rfl rfl rfl ?_
    refine r_ic (v := 0) rfl ci_0 ?_
    refine r_ic (v := 0) rfl ci_0 ?_
    refine r_vtU (rest := []) H rfl rfl rfl (s_X7_passesAll a0 (0 : Int32) (0 : Int32)) rfl rfl ⟨rfl, rfl⟩ rfl (fun t2 h3 H => ?_)
    refine r_aln rfl rfl rfl ?_
    refine r_ic (v := 0) rfl ci_0 ?_
    refine r_pI H rfl kd_6_21 (fun H => ?_)
    refine r_aln rfl rfl rfl ?_
    refine r_gI' H rfl kl_6_9 (fun t4 H => ?_)
    exact r_reti H rfl rfl ⟨Nat.zero_le _, Nat.zero_le _⟩
  · refine r_aln rfl rfl rfl ?_
    refine r_bi (v := -3) rfl cb_m3 ?_
    refine r_vtI (rest := []) H rfl rfl rfl (s_X7_no a0 (-3 : Int32)) rfl rfl ⟨rfl, rfl⟩ rfl (fun t5 h6 H => ?_)
    exact r_reti H rfl rfl ⟨Nat.zero_le _, Nat.zero_le _⟩
def f_X7_person (a0 : Nat) (a1 : Int32) (a2 : Int32) : M Int32 := bnd (cv 6 a0 (f_X7_isPerson a0 a1)) fun t1 => if ¬ t1 = (0 : Int32) then if a2 = (0 : Int32) then bnd (gR 6 1 a0) fun r4 => bnd (aI r4 a1) fun t5 => rt t5 else if a2 = (1 : Int32) then bnd (gR 6 2 a0) fun r7 => bnd (aI r7 a1) fun t8 => rt t8 else if a2 = (2 : Int32) then bnd (gR 6 3 a0) fun r10 => bnd (aI r10 a1) fun t11 => rt t11 else if a2 = (3 : Int32) then bnd (gR 6 4 a0) fun r13 => bnd (aI r13 a1) fun t14 => rt t14 else if a2 = (4 : Int32) then bnd (gR 6 5 a0) fun r16 => bnd (aI r16 a1) fun t17 => rt t17 else bnd (cv 6 a0 (f_X7_no a0 (-2 : Int32))) fun t18 => rt t18 else bnd (cv 6 a0 (f_X7_no a0 (-1 : Int32))) fun t20 => rt t20
set_option maxRecDepth 20000 in
theorem s_X7_person (a0 : Nat) (a1 : Int32) (a2 : Int32) : Sm eX7_person [.ref a0, .int a1, .int a2] eI (f_X7_person a0 a1 a2) := by
  intro hp vr hr H
  unfold f_X7_person at H
  show Rn none 0 0 eX7_person 0 [some (.ref a0), some (.int a1), some (.int a2)] [] hp (eI vr, hr)
  refine r_aln rfl rfl rfl ?_
  refine r_iln rfl rfl rfl ?_
  refine r_vtI (rest := []) H rfl rfl rfl (s_X7_isPerson a0 a1) rfl rfl ⟨rfl, rfl⟩ rfl (fun t1 h2 H => ?_)
  refine r_if H rfl rfl (fun H => ?_) (fun H => ?_)
  · refine r_iln rfl rfl rfl ?_
    rcases Decidable.em (a2 = (0 : Int32)) with h3 | h3
    · rw [if_pos h3] at H; refine r_tab (t := 10) rfl (by rw [h3]; rfl) ?_
      refine r_aln rfl rfl rfl ?_
      refine r_gR H rfl kd_6_1 (fun r4 H => ?_)
      refine r_iln rfl rfl rfl ?_
      refine r_aI' H rfl (fun t5 H => ?_)
      exact r_reti H rfl rfl ⟨Nat.zero_le _, Nat.zero_le _⟩
    · rw [if_neg h3] at H; rcases Decidable.em (a2 = (1 : Int32)) with h6 | h6
      · rw [if_pos h6] at H; refine r_tab (t := 15) rfl (by rw [h6]; rfl) ?_
        refine r_aln rfl rfl rfl ?_
        refine r_gR H rfl kd_6_2 (fun r7 H => ?_)
        refine r_iln rfl rfl rfl ?_
        refine r_aI' H rfl (fun t8 H => ?_)
        exact r_reti H rfl rfl ⟨Nat.zero_le _, Nat.zero_le _⟩
      · rw [if_neg h6] at H; rcases Decidable.em (a2 = (2 : Int32)) with h9 | h9
        · rw [if_pos h9] at H; refine r_tab (t := 20) rfl (by rw [h9]; rfl) ?_
          refine r_aln rfl rfl rfl ?_
          refine r_gR H rfl kd_6_3 (fun r10 H => ?_)
          refine r_iln rfl rfl rfl ?_
          refine r_aI' H rfl (fun t11 H => ?_)
          exact r_reti H rfl rfl ⟨Nat.zero_le _, Nat.zero_le _⟩
        · rw [if_neg h9] at H; rcases Decidable.em (a2 = (3 : Int32)) with h12 | h12
          · rw [if_pos h12] at H; refine r_tab (t := 25) rfl (by rw [h12]; rfl) ?_
            refine r_aln rfl rfl rfl ?_
            refine r_gR H rfl kd_6_4 (fun r13 H => ?_)
            refine r_iln rfl rfl rfl ?_
            refine r_aI' H rfl (fun t14 H => ?_)
            exact r_reti H rfl rfl ⟨Nat.zero_le _, Nat.zero_le _⟩
          · rw [if_neg h12] at H; rcases Decidable.em (a2 = (4 : Int32)) with h15 | h15
            · rw [if_pos h15] at H; refine r_tab (t := 30) rfl (by rw [h15]; rfl) ?_
              refine r_aln rfl rfl rfl ?_
              refine r_gR H rfl kd_6_5 (fun r16 H => ?_)
              refine r_iln rfl rfl rfl ?_
              refine r_aI' H rfl (fun t17 H => ?_)
              exact r_reti H rfl rfl ⟨Nat.zero_le _, Nat.zero_le _⟩
            · rw [if_neg h15] at H; refine r_tab (t := 35) rfl (by have g0 := sw_ne h3 (v := 0) rfl; have g1 := sw_ne h6 (v := 1) rfl; have g2 := sw_ne h9 (v := 2) rfl; have g3 := sw_ne h12 (v := 3) rfl; have g4 := sw_ne h15 (v := 4) rfl; exact (sw_out (by omega)).trans rfl) ?_
              refine r_aln rfl rfl rfl ?_
              refine r_bi (v := -2) rfl cb_m2 ?_
              refine r_vtI (rest := []) H rfl rfl rfl (s_X7_no a0 (-2 : Int32)) rfl rfl ⟨rfl, rfl⟩ rfl (fun t18 h19 H => ?_)
              exact r_reti H rfl rfl ⟨Nat.zero_le _, Nat.zero_le _⟩
  · refine r_aln rfl rfl rfl ?_
    refine r_ic (v := -1) rfl ci_m1 ?_
    refine r_vtI (rest := []) H rfl rfl rfl (s_X7_no a0 (-1 : Int32)) rfl rfl ⟨rfl, rfl⟩ rfl (fun t20 h21 H => ?_)
    exact r_reti H rfl rfl ⟨Nat.zero_le _, Nat.zero_le _⟩
def f_X7_comes_ (a0 : Nat) (a1 : Int32) (a2 : Int32) (a3 : Int32) : M Int32 := bnd (f_X7_isIn a1 (0 : Int32) (5 : Int32)) fun t1 => jn (fun k4 => if ¬ t1 = (0 : Int32) then if a2 < (0 : Int32) then k4 (-4 : Int32) else if (0 : Int32) ≤ a3 then if (9 : Int32) < a2 then k4 (-6 : Int32) else if (99 : Int32) < a3 then k4 (-6 : Int32) else bnd (gI 6 8 a0) fun t10 => if ¬ t10 = (7 : Int32) then k4 (0 : Int32) else k4 (-6 : Int32) else k4 (-4 : Int32) else k4 (-2 : Int32)) (fun (s3 : Int32) => if s3 = (0 : Int32) then bnd (pI 6 21 a0 (0 : Int32)) fun _ => bnd (cv 6 a0 (f_X7_adds a0 a1 a2 a3)) fun _ => bnd (gI 6 8 a0) fun t7 => rt (t7 - (1 : Int32)) else bnd (cv 6 a0 (f_X7_no a0 s3)) fun t8 => rt t8)
set_option maxRecDepth 20000 in
theorem s_X7_comes_ (a0 : Nat) (a1 : Int32) (a2 : Int32) (a3 : Int32) : Sm eX7_comes_ [.ref a0, .int a1, .int a2, .int a3] eI (f_X7_comes_ a0 a1 a2 a3) := by
  intro hp vr hr H
  unfold f_X7_comes_ at H
  show Rn none 0 0 eX7_comes_ 0 [some (.ref a0), some (.int a1), some (.int a2), some (.int a3), none] [] hp (eI vr, hr)
  refine r_iln rfl rfl rfl ?_
  refine r_ic (v := 0) rfl ci_0 ?_
  refine r_ic (v := 5) rfl ci_5 ?_
  refine r_stI (rest := []) H rfl rfl (s_X7_isIn a1 (0 : Int32) (5 : Int32)) rfl rfl ⟨rfl, rfl⟩ rfl (fun t1 h2 H => ?_)
  refine r_jn (P := (fun (s3 : Int32) hq => Rn none 0 0 eX7_comes_ 26 [some (.ref a0), some (.int a1), some (.int a2), some (.int a3), none] [.int s3] hq (eI vr, hr))) H (fun s3 hs3 H  => ?_) (fun k4 K4 H => ?_)
  · refine r_is (L' := [some (.ref a0), some (.int a1), some (.int a2), some (.int a3), some (.int s3)]) rfl (Nat.le_of_ble_eq_true rfl) rfl ?_
    refine r_il rfl rfl ?_
    refine r_if H rfl rfl (fun H => ?_) (fun H => ?_)
    · refine r_aln rfl rfl rfl ?_
      refine r_ic (v := 0) rfl ci_0 ?_
      refine r_pI H rfl kd_6_21 (fun H => ?_)
      refine r_aln rfl rfl rfl ?_
      refine r_iln rfl rfl rfl ?_
      refine r_iln rfl rfl rfl ?_
      refine r_iln rfl rfl rfl ?_
      refine r_vtU (rest := []) H rfl rfl rfl (s_X7_adds a0 a1 a2 a3) rfl rfl ⟨rfl, rfl⟩ rfl (fun t5 h6 H => ?_)
      refine r_aln rfl rfl rfl ?_
      refine r_gI' H rfl kl_6_8 (fun t7 H => ?_)
      refine r_ic (v := 1) rfl ci_1 ?_
      refine r_sub rfl ?_
      exact r_reti H rfl rfl ⟨Nat.zero_le _, Nat.zero_le _⟩
    · refine r_aln rfl rfl rfl ?_
      refine r_il rfl rfl ?_
      refine r_vtI (rest := []) H rfl rfl rfl (s_X7_no a0 s3) rfl rfl ⟨rfl, rfl⟩ rfl (fun t8 h9 H => ?_)
      exact r_reti H rfl rfl ⟨Nat.zero_le _, Nat.zero_le _⟩
  · refine r_if H rfl rfl (fun H => ?_) (fun H => ?_)
    · refine r_iln rfl rfl rfl ?_
      refine r_if H rfl rfl (fun H => ?_) (fun H => ?_)
      · refine r_bi (v := -4) rfl cb_m4 ?_
        refine r_go rfl ?_
        have q := K4 _ _ H
        exact q
      · refine r_iln rfl rfl rfl ?_
        refine r_if H rfl rfl (fun H => ?_) (fun H => ?_)
        · refine r_iln rfl rfl rfl ?_
          refine r_bi (v := 9) rfl cb_9 ?_
          refine r_cmp H rfl rfl (fun H => ?_) (fun H => ?_)
          · refine r_bi (v := -6) rfl cb_m6 ?_
            refine r_go rfl ?_
            have q := K4 _ _ H
            exact q
          · refine r_iln rfl rfl rfl ?_
            refine r_bi (v := 99) rfl cb_99 ?_
            refine r_cmp H rfl rfl (fun H => ?_) (fun H => ?_)
            · refine r_bi (v := -6) rfl cb_m6 ?_
              refine r_go rfl ?_
              have q := K4 _ _ H
              exact q
            · refine r_aln rfl rfl rfl ?_
              refine r_gI' H rfl kl_6_8 (fun t10 H => ?_)
              refine r_bi (v := 7) rfl cb_7 ?_
              refine r_cmp H rfl rfl (fun H => ?_) (fun H => ?_)
              · refine r_ic (v := 0) rfl ci_0 ?_
                have q := K4 _ _ H
                exact q
              · refine r_bi (v := -6) rfl cb_m6 ?_
                refine r_go rfl ?_
                have q := K4 _ _ H
                exact q
        · refine r_bi (v := -4) rfl cb_m4 ?_
          refine r_go rfl ?_
          have q := K4 _ _ H
          exact q
    · refine r_bi (v := -2) rfl cb_m2 ?_
      refine r_go rfl ?_
      have q := K4 _ _ H
      exact q
def f_X7_asks (a0 : Nat) (a1 : Int32) (a2 : Int32) : M Int32 := bnd (cv 6 a0 (f_X7_areTwo a0 a1 a2)) fun t1 => if ¬ t1 = (0 : Int32) then bnd (cv 6 a0 (f_X7_keepsBack a0)) fun _ => bnd (gR 6 5 a0) fun r5 => bnd (aI r5 a1) fun t6 => bnd (sI r5 a1 (t6 ^^^ ((1 : Int32) <<< (a2 &&& (31 : Int32))))) fun _ => bnd (gR 6 5 a0) fun r7 => bnd (aI r7 a1) fun t8 => rt ((t8 >>> (a2 &&& (31 : Int32))) &&& (1 : Int32)) else bnd (cv 6 a0 (f_X7_no a0 (-1 : Int32))) fun t9 => rt t9
set_option maxRecDepth 20000 in
theorem s_X7_asks (a0 : Nat) (a1 : Int32) (a2 : Int32) : Sm eX7_asks [.ref a0, .int a1, .int a2] eI (f_X7_asks a0 a1 a2) := by
  intro hp vr hr H
  unfold f_X7_asks at H
  show Rn none 0 0 eX7_asks 0 [some (.ref a0), some (.int a1), some (.int a2)] [] hp (eI vr, hr)
  refine r_aln rfl rfl rfl ?_
  refine r_iln rfl rfl rfl ?_
  refine r_iln rfl rfl rfl ?_
  refine r_vtI (rest := []) H rfl rfl rfl (s_X7_areTwo a0 a1 a2) rfl rfl ⟨rfl, rfl⟩ rfl (fun t1 h2 H => ?_)
  refine r_if H rfl rfl (fun H => ?_) (fun H => ?_)
  · refine r_aln rfl rfl rfl ?_
    refine r_vtU (rest := []) H rfl rfl rfl (s_X7_keepsBack a0) rfl rfl ⟨rfl, rfl⟩ rfl (fun t3 h4 H => ?_)
    refine r_aln rfl rfl rfl ?_
    refine r_gR H rfl kd_6_5 (fun r5 H => ?_)
    refine r_iln rfl rfl rfl ?_
    refine r_dup2 rfl ?_
    refine r_aI' H rfl (fun t6 H => ?_)
    refine r_ic (v := 1) rfl ci_1 ?_
    refine r_iln rfl rfl rfl ?_
    refine r_shl rfl ?_
    refine r_xor rfl ?_
    refine r_sI H rfl (fun H => ?_)
    refine r_aln rfl rfl rfl ?_
    refine r_gR H rfl kd_6_5 (fun r7 H => ?_)
    refine r_iln rfl rfl rfl ?_
    refine r_aI' H rfl (fun t8 H => ?_)
    refine r_iln rfl rfl rfl ?_
    refine r_shr rfl ?_
    refine r_ic (v := 1) rfl ci_1 ?_
    refine r_and rfl ?_
    exact r_reti H rfl rfl ⟨Nat.zero_le _, Nat.zero_le _⟩
  · refine r_aln rfl rfl rfl ?_
    refine r_ic (v := -1) rfl ci_m1 ?_
    refine r_vtI (rest := []) H rfl rfl rfl (s_X7_no a0 (-1 : Int32)) rfl rfl ⟨rfl, rfl⟩ rfl (fun t9 h10 H => ?_)
    exact r_reti H rfl rfl ⟨Nat.zero_le _, Nat.zero_le _⟩
def f_X7_believes (a0 : Nat) (a1 : Int32) (a2 : Int32) : M Int32 := bnd (cv 6 a0 (f_X7_isPerson a0 a1)) fun t1 => jn (fun k4 => if ¬ t1 = (0 : Int32) then bnd (f_X7_bound a2 (0 : Int32) (99 : Int32)) fun t12 => k4 t12 else k4 (-1 : Int32)) (fun (s3 : Int32) => if s3 = (0 : Int32) then bnd (cv 6 a0 (f_X7_keepsBack a0)) fun _ => bnd (gR 6 4 a0) fun r7 => bnd (aI r7 a1) fun t8 => bnd (gR 6 4 a0) fun r9 => bnd (sI r9 a1 a2) fun _ => rt t8 else bnd (cv 6 a0 (f_X7_no a0 s3)) fun t10 => rt t10)
set_option maxRecDepth 20000 in
theorem s_X7_believes (a0 : Nat) (a1 : Int32) (a2 : Int32) : Sm eX7_believes [.ref a0, .int a1, .int a2] eI (f_X7_believes a0 a1 a2) := by
  intro hp vr hr H
  unfold f_X7_believes at H
  show Rn none 0 0 eX7_believes 0 [some (.ref a0), some (.int a1), some (.int a2), none, none] [] hp (eI vr, hr)
  refine r_aln rfl rfl rfl ?_
  refine r_iln rfl rfl rfl ?_
  refine r_vtI (rest := []) H rfl rfl rfl (s_X7_isPerson a0 a1) rfl rfl ⟨rfl, rfl⟩ rfl (fun t1 h2 H => ?_)
  refine r_jn (P := (fun (s3 : Int32) hq => Rn none 0 0 eX7_believes 10 [some (.ref a0), some (.int a1), some (.int a2), none, none] [.int s3] hq (eI vr, hr))) H (fun s3 hs3 H  => ?_) (fun k4 K4 H => ?_)
  · refine r_isn (L' := [some (.ref a0), some (.int a1), some (.int a2), some (.int s3), none]) rfl rfl (Nat.le_of_ble_eq_true rfl) rfl ?_
    refine r_iln rfl rfl rfl ?_
    refine r_if H rfl rfl (fun H => ?_) (fun H => ?_)
    · refine r_aln rfl rfl rfl ?_
      refine r_vtU (rest := []) H rfl rfl rfl (s_X7_keepsBack a0) rfl rfl ⟨rfl, rfl⟩ rfl (fun t5 h6 H => ?_)
      refine r_aln rfl rfl rfl ?_
      refine r_gR H rfl kd_6_4 (fun r7 H => ?_)
      refine r_iln rfl rfl rfl ?_
      refine r_aI' H rfl (fun t8 H => ?_)
      refine r_is (L' := [some (.ref a0), some (.int a1), some (.int a2), some (.int s3), some (.int t8)]) rfl (Nat.le_of_ble_eq_true rfl) rfl ?_
      refine r_aln rfl rfl rfl ?_
      refine r_gR H rfl kd_6_4 (fun r9 H => ?_)
      refine r_iln rfl rfl rfl ?_
      refine r_iln rfl rfl rfl ?_
      refine r_sI H rfl (fun H => ?_)
      refine r_il rfl rfl ?_
      exact r_reti H rfl rfl ⟨Nat.zero_le _, Nat.zero_le _⟩
    · refine r_aln rfl rfl rfl ?_
      refine r_iln rfl rfl rfl ?_
      refine r_vtI (rest := []) H rfl rfl rfl (s_X7_no a0 s3) rfl rfl ⟨rfl, rfl⟩ rfl (fun t10 h11 H => ?_)
      exact r_reti H rfl rfl ⟨Nat.zero_le _, Nat.zero_le _⟩
  · refine r_if H rfl rfl (fun H => ?_) (fun H => ?_)
    · refine r_iln rfl rfl rfl ?_
      refine r_ic (v := 0) rfl ci_0 ?_
      refine r_bi (v := 99) rfl cb_99 ?_
      refine r_stI (rest := []) H rfl rfl (s_X7_bound a2 (0 : Int32) (99 : Int32)) rfl rfl ⟨rfl, rfl⟩ rfl (fun t12 h13 H => ?_)
      have q := K4 _ _ H
      exact q
    · refine r_ic (v := -1) rfl ci_m1 ?_
      refine r_go rfl ?_
      have q := K4 _ _ H
      exact q
def f_X7_kind (a0 : Nat) (a1 : Int32) (a2 : Int32) (a3 : Int32) : M Int32 := bnd (cv 6 a0 (f_X7_isPerson a0 a1)) fun t1 => jn (fun k4 => if ¬ t1 = (0 : Int32) then bnd (f_X7_isIn a2 (0 : Int32) (5 : Int32)) fun t15 => if ¬ t15 = (0 : Int32) then bnd (f_X7_bound a3 (0 : Int32) (9 : Int32)) fun t17 => k4 t17 else k4 (-2 : Int32) else k4 (-1 : Int32)) (fun (s3 : Int32) => if s3 = (0 : Int32) then bnd (cv 6 a0 (f_X7_keepsBack a0)) fun _ => bnd (gR 6 1 a0) fun r7 => bnd (aI r7 a1) fun t8 => bnd (gR 6 2 a0) fun r9 => bnd (aI r9 a1) fun t10 => bnd (gR 6 1 a0) fun r11 => bnd (sI r11 a1 a2) fun _ => bnd (gR 6 2 a0) fun r12 => bnd (sI r12 a1 a3) fun _ => rt (((10 : Int32) * t8) + t10) else bnd (cv 6 a0 (f_X7_no a0 s3)) fun t13 => rt t13)
set_option maxRecDepth 20000 in
theorem s_X7_kind (a0 : Nat) (a1 : Int32) (a2 : Int32) (a3 : Int32) : Sm eX7_kind [.ref a0, .int a1, .int a2, .int a3] eI (f_X7_kind a0 a1 a2 a3) := by
  intro hp vr hr H
  unfold f_X7_kind at H
  show Rn none 0 0 eX7_kind 0 [some (.ref a0), some (.int a1), some (.int a2), some (.int a3), none, none] [] hp (eI vr, hr)
  refine r_aln rfl rfl rfl ?_
  refine r_iln rfl rfl rfl ?_
  refine r_vtI (rest := []) H rfl rfl rfl (s_X7_isPerson a0 a1) rfl rfl ⟨rfl, rfl⟩ rfl (fun t1 h2 H => ?_)
  refine r_jn (P := (fun (s3 : Int32) hq => Rn none 0 0 eX7_kind 17 [some (.ref a0), some (.int a1), some (.int a2), some (.int a3), none, none] [.int s3] hq (eI vr, hr))) H (fun s3 hs3 H  => ?_) (fun k4 K4 H => ?_)
  · refine r_is (L' := [some (.ref a0), some (.int a1), some (.int a2), some (.int a3), some (.int s3), none]) rfl (Nat.le_of_ble_eq_true rfl) rfl ?_
    refine r_il rfl rfl ?_
    refine r_if H rfl rfl (fun H => ?_) (fun H => ?_)
    · refine r_aln rfl rfl rfl ?_
      refine r_vtU (rest := []) H rfl rfl rfl (s_X7_keepsBack a0) rfl rfl ⟨rfl, rfl⟩ rfl (fun t5 h6 H => ?_)
      refine r_bi (v := 10) rfl cb_10 ?_
      refine r_aln rfl rfl rfl ?_
      refine r_gR H rfl kd_6_1 (fun r7 H => ?_)
      refine r_iln rfl rfl rfl ?_
      refine r_aI' H rfl (fun t8 H => ?_)
      refine r_mul rfl ?_
      refine r_aln rfl rfl rfl ?_
      refine r_gR H rfl kd_6_2 (fun r9 H => ?_)
      refine r_iln rfl rfl rfl ?_
      refine r_aI' H rfl (fun t10 H => ?_)
      refine r_add rfl ?_
      refine r_is (L' := [some (.ref a0), some (.int a1), some (.int a2), some (.int a3), some (.int s3), some (.int (((10 : Int32) * t8) + t10))]) rfl (Nat.le_of_ble_eq_true rfl) rfl ?_
      refine r_aln rfl rfl rfl ?_
      refine r_gR H rfl kd_6_1 (fun r11 H => ?_)
      refine r_iln rfl rfl rfl ?_
      refine r_iln rfl rfl rfl ?_
      refine r_sI H rfl (fun H => ?_)
      refine r_aln rfl rfl rfl ?_
      refine r_gR H rfl kd_6_2 (fun r12 H => ?_)
      refine r_iln rfl rfl rfl ?_
      refine r_iln rfl rfl rfl ?_
      refine r_sI H rfl (fun H => ?_)
      refine r_il rfl rfl ?_
      exact r_reti H rfl rfl ⟨Nat.zero_le _, Nat.zero_le _⟩
    · refine r_aln rfl rfl rfl ?_
      refine r_il rfl rfl ?_
      refine r_vtI (rest := []) H rfl rfl rfl (s_X7_no a0 s3) rfl rfl ⟨rfl, rfl⟩ rfl (fun t13 h14 H => ?_)
      exact r_reti H rfl rfl ⟨Nat.zero_le _, Nat.zero_le _⟩
  · refine r_if H rfl rfl (fun H => ?_) (fun H => ?_)
    · refine r_iln rfl rfl rfl ?_
      refine r_ic (v := 0) rfl ci_0 ?_
      refine r_ic (v := 5) rfl ci_5 ?_
      refine r_stI (rest := []) H rfl rfl (s_X7_isIn a2 (0 : Int32) (5 : Int32)) rfl rfl ⟨rfl, rfl⟩ rfl (fun t15 h16 H => ?_)
      refine r_if H rfl rfl (fun H => ?_) (fun H => ?_)
      · refine r_iln rfl rfl rfl ?_
        refine r_ic (v := 0) rfl ci_0 ?_
        refine r_bi (v := 9) rfl cb_9 ?_
        refine r_stI (rest := []) H rfl rfl (s_X7_bound a3 (0 : Int32) (9 : Int32)) rfl rfl ⟨rfl, rfl⟩ rfl (fun t17 h18 H => ?_)
        have q := K4 _ _ H
        exact q
      · refine r_bi (v := -2) rfl cb_m2 ?_
        refine r_go rfl ?_
        have q := K4 _ _ H
        exact q
    · refine r_ic (v := -1) rfl ci_m1 ?_
      refine r_go rfl ?_
      have q := K4 _ _ H
      exact q
def f_X7_way (a0 : Nat) (a1 : Int32) (a2 : Int32) : M Int32 := bnd (f_X7_isPlace a1) fun t1 => jn (fun k4 => if t1 = (0 : Int32) then k4 () else bnd (f_X7_isPlace a2) fun t7 => if t7 = (0 : Int32) then k4 () else if ¬ a1 = a2 then bnd (pI 6 21 a0 (0 : Int32)) fun _ => bnd (cv 6 a0 (f_X7_turnsWay a0 a1 a2)) fun _ => bnd (gR 6 6 a0) fun r11 => bnd (aI r11 a1) fun t12 => rt ((t12 >>> (a2 &&& (31 : Int32))) &&& (1 : Int32)) else k4 ()) (fun (s3 : Unit) => bnd (cv 6 a0 (f_X7_no a0 (-1 : Int32))) fun t5 => rt t5)
set_option maxRecDepth 20000 in
theorem s_X7_way (a0 : Nat) (a1 : Int32) (a2 : Int32) : Sm eX7_way [.ref a0, .int a1, .int a2] eI (f_X7_way a0 a1 a2) := by
  intro hp vr hr H
  unfold f_X7_way at H
  show Rn none 0 0 eX7_way 0 [some (.ref a0), some (.int a1), some (.int a2)] [] hp (eI vr, hr)
  refine r_iln rfl rfl rfl ?_
  refine r_stI (rest := []) H rfl rfl (s_X7_isPlace a1) rfl rfl ⟨rfl, rfl⟩ rfl (fun t1 h2 H => ?_)
  refine r_jn (P := (fun (s3 : Unit) hq => Rn none 0 0 eX7_way 9 [some (.ref a0), some (.int a1), some (.int a2)] [] hq (eI vr, hr))) H (fun s3 hs3 H  => ?_) (fun k4 K4 H => ?_)
  · refine r_aln rfl rfl rfl ?_
    refine r_ic (v := -1) rfl ci_m1 ?_
    refine r_vtI (rest := []) H rfl rfl rfl (s_X7_no a0 (-1 : Int32)) rfl rfl ⟨rfl, rfl⟩ rfl (fun t5 h6 H => ?_)
    exact r_reti H rfl rfl ⟨Nat.zero_le _, Nat.zero_le _⟩
  · refine r_if H rfl rfl (fun H => ?_) (fun H => ?_)
    · have q := K4 _ _ H
      exact q
    · refine r_iln rfl rfl rfl ?_
      refine r_stI (rest := []) H rfl rfl (s_X7_isPlace a2) rfl rfl ⟨rfl, rfl⟩ rfl (fun t7 h8 H => ?_)
      refine r_if H rfl rfl (fun H => ?_) (fun H => ?_)
      · have q := K4 _ _ H
        exact q
      · refine r_iln rfl rfl rfl ?_
        refine r_iln rfl rfl rfl ?_
        refine r_cmp H rfl rfl (fun H => ?_) (fun H => ?_)
        · refine r_aln rfl rfl rfl ?_
          refine r_ic (v := 0) rfl ci_0 ?_
          refine r_pI H rfl kd_6_21 (fun H => ?_)
          refine r_aln rfl rfl rfl ?_
          refine r_iln rfl rfl rfl ?_
          refine r_iln rfl rfl rfl ?_
          refine r_vtU (rest := []) H rfl rfl rfl (s_X7_turnsWay a0 a1 a2) rfl rfl ⟨rfl, rfl⟩ rfl (fun t9 h10 H => ?_)
          refine r_aln rfl rfl rfl ?_
          refine r_gR H rfl kd_6_6 (fun r11 H => ?_)
          refine r_iln rfl rfl rfl ?_
          refine r_aI' H rfl (fun t12 H => ?_)
          refine r_iln rfl rfl rfl ?_
          refine r_shr rfl ?_
          refine r_ic (v := 1) rfl ci_1 ?_
          refine r_and rfl ?_
          exact r_reti H rfl rfl ⟨Nat.zero_le _, Nat.zero_le _⟩
        · have q := K4 _ _ H
          exact q
def f_X7_hangs (a0 : Nat) (a1 : Int32) (a2 : Int32) : M Int32 := bnd (f_X7_isPlace a1) fun t1 => jn (fun k4 => if ¬ t1 = (0 : Int32) then bnd (f_X7_isIn a2 (0 : Int32) (3 : Int32)) fun t10 => if ¬ t10 = (0 : Int32) then k4 (0 : Int32) else k4 (-2 : Int32) else k4 (-1 : Int32)) (fun (s3 : Int32) => if s3 = (0 : Int32) then bnd (pI 6 21 a0 (0 : Int32)) fun _ => bnd (gR 6 7 a0) fun r5 => bnd (aI r5 a1) fun t6 => bnd (gR 6 7 a0) fun r7 => bnd (sI r7 a1 a2) fun _ => rt t6 else bnd (cv 6 a0 (f_X7_no a0 s3)) fun t8 => rt t8)
set_option maxRecDepth 20000 in
theorem s_X7_hangs (a0 : Nat) (a1 : Int32) (a2 : Int32) : Sm eX7_hangs [.ref a0, .int a1, .int a2] eI (f_X7_hangs a0 a1 a2) := by
  intro hp vr hr H
  unfold f_X7_hangs at H
  show Rn none 0 0 eX7_hangs 0 [some (.ref a0), some (.int a1), some (.int a2), none, none] [] hp (eI vr, hr)
  refine r_iln rfl rfl rfl ?_
  refine r_stI (rest := []) H rfl rfl (s_X7_isPlace a1) rfl rfl ⟨rfl, rfl⟩ rfl (fun t1 h2 H => ?_)
  refine r_jn (P := (fun (s3 : Int32) hq => Rn none 0 0 eX7_hangs 13 [some (.ref a0), some (.int a1), some (.int a2), none, none] [.int s3] hq (eI vr, hr))) H (fun s3 hs3 H  => ?_) (fun k4 K4 H => ?_)
  · refine r_isn (L' := [some (.ref a0), some (.int a1), some (.int a2), some (.int s3), none]) rfl rfl (Nat.le_of_ble_eq_true rfl) rfl ?_
    refine r_iln rfl rfl rfl ?_
    refine r_if H rfl rfl (fun H => ?_) (fun H => ?_)
    · refine r_aln rfl rfl rfl ?_
      refine r_ic (v := 0) rfl ci_0 ?_
      refine r_pI H rfl kd_6_21 (fun H => ?_)
      refine r_aln rfl rfl rfl ?_
      refine r_gR H rfl kd_6_7 (fun r5 H => ?_)
      refine r_iln rfl rfl rfl ?_
      refine r_aI' H rfl (fun t6 H => ?_)
      refine r_is (L' := [some (.ref a0), some (.int a1), some (.int a2), some (.int s3), some (.int t6)]) rfl (Nat.le_of_ble_eq_true rfl) rfl ?_
      refine r_aln rfl rfl rfl ?_
      refine r_gR H rfl kd_6_7 (fun r7 H => ?_)
      refine r_iln rfl rfl rfl ?_
      refine r_iln rfl rfl rfl ?_
      refine r_sI H rfl (fun H => ?_)
      refine r_il rfl rfl ?_
      exact r_reti H rfl rfl ⟨Nat.zero_le _, Nat.zero_le _⟩
    · refine r_aln rfl rfl rfl ?_
      refine r_iln rfl rfl rfl ?_
      refine r_vtI (rest := []) H rfl rfl rfl (s_X7_no a0 s3) rfl rfl ⟨rfl, rfl⟩ rfl (fun t8 h9 H => ?_)
      exact r_reti H rfl rfl ⟨Nat.zero_le _, Nat.zero_le _⟩
  · refine r_if H rfl rfl (fun H => ?_) (fun H => ?_)
    · refine r_iln rfl rfl rfl ?_
      refine r_ic (v := 0) rfl ci_0 ?_
      refine r_ic (v := 3) rfl ci_3 ?_
      refine r_stI (rest := []) H rfl rfl (s_X7_isIn a2 (0 : Int32) (3 : Int32)) rfl rfl ⟨rfl, rfl⟩ rfl (fun t10 h11 H => ?_)
      refine r_if H rfl rfl (fun H => ?_) (fun H => ?_)
      · refine r_ic (v := 0) rfl ci_0 ?_
        have q := K4 _ _ H
        exact q
      · refine r_bi (v := -2) rfl cb_m2 ?_
        refine r_go rfl ?_
        have q := K4 _ _ H
        exact q
    · refine r_ic (v := -1) rfl ci_m1 ?_
      refine r_go rfl ?_
      have q := K4 _ _ H
      exact q
def f_X7_week (a0 : Nat) : M Int32 := bnd (gI 6 9 a0) fun t1 => if ¬ t1 = (999 : Int32) then bnd (cv 6 a0 (f_X7_keepsBack a0)) fun _ => bnd (cv 6 a0 (f_X7_goesWeek a0)) fun t4 => rt t4 else bnd (cv 6 a0 (f_X7_no a0 (-6 : Int32))) fun t6 => rt t6
set_option maxRecDepth 20000 in
theorem s_X7_week (a0 : Nat) : Sm eX7_week [.ref a0] eI (f_X7_week a0) := by
  intro hp vr hr H
  unfold f_X7_week at H
  show Rn none 0 0 eX7_week 0 [some (.ref a0)] [] hp (eI vr, hr)
  refine r_aln rfl rfl rfl ?_
  refine r_gI' H rfl kl_6_9 (fun t1 H => ?_)
  refine r_si (v := 999) rfl cs_999 ?_
  refine r_cmp H rfl rfl (fun H => ?_) (fun H => ?_)
  · refine r_aln rfl rfl rfl ?_
    refine r_vtU (rest := []) H rfl rfl rfl (s_X7_keepsBack a0) rfl rfl ⟨rfl, rfl⟩ rfl (fun t2 h3 H => ?_)
    refine r_aln rfl rfl rfl ?_
    refine r_vtI (rest := []) H rfl rfl rfl (s_X7_goesWeek a0) rfl rfl ⟨rfl, rfl⟩ rfl (fun t4 h5 H => ?_)
    exact r_reti H rfl rfl ⟨Nat.zero_le _, Nat.zero_le _⟩
  · refine r_aln rfl rfl rfl ?_
    refine r_bi (v := -6) rfl cb_m6 ?_
    refine r_vtI (rest := []) H rfl rfl rfl (s_X7_no a0 (-6 : Int32)) rfl rfl ⟨rfl, rfl⟩ rfl (fun t6 h7 H => ?_)
    exact r_reti H rfl rfl ⟨Nat.zero_le _, Nat.zero_le _⟩
