def f_X6_outside_ (a0 : Int32) (a1 : Int32) (a2 : Int32) (a3 : Int32) (a4 : Int32) : M Int32 := if a0 < (0 : Int32) then rt (-4 : Int32) else if a3 ≤ a2 then if a1 < a0 then rt (-6 : Int32) else if a2 ≤ a4 then rt (0 : Int32) else rt (-6 : Int32) else rt (-4 : Int32)
set_option maxRecDepth 20000 in
theorem s_X6_outside_ (a0 : Int32) (a1 : Int32) (a2 : Int32) (a3 : Int32) (a4 : Int32) : Sm eX6_outside_ [.int a0, .int a1, .int a2, .int a3, .int a4] eI (f_X6_outside_ a0 a1 a2 a3 a4) := by
  intro hp vr hr H
  unfold f_X6_outside_ at H
  show Rn none 0 0 eX6_outside_ 0 [some (.int a0), some (.int a1), some (.int a2), some (.int a3), some (.int a4)] [] hp (eI vr, hr)
  refine r_iln rfl rfl rfl ?_
  refine r_if H rfl rfl (fun H => ?_) (fun H => ?_)
  · refine r_bi (v := -4) rfl cb_m4 ?_
    exact r_reti H rfl rfl ⟨Nat.zero_le _, Nat.zero_le _⟩
  · refine r_iln rfl rfl rfl ?_
    refine r_iln rfl rfl rfl ?_
    refine r_cmp H rfl rfl (fun H => ?_) (fun H => ?_)
    · refine r_iln rfl rfl rfl ?_
      refine r_iln rfl rfl rfl ?_
      refine r_cmp H rfl rfl (fun H => ?_) (fun H => ?_)
      · refine r_bi (v := -6) rfl cb_m6 ?_
        refine r_go rfl ?_
        exact r_reti H rfl rfl ⟨Nat.zero_le _, Nat.zero_le _⟩
      · refine r_iln rfl rfl rfl ?_
        refine r_il rfl rfl ?_
        refine r_cmp H rfl rfl (fun H => ?_) (fun H => ?_)
        · refine r_ic (v := 0) rfl ci_0 ?_
          exact r_reti H rfl rfl ⟨Nat.zero_le _, Nat.zero_le _⟩
        · refine r_bi (v := -6) rfl cb_m6 ?_
          refine r_go rfl ?_
          exact r_reti H rfl rfl ⟨Nat.zero_le _, Nat.zero_le _⟩
    · refine r_bi (v := -4) rfl cb_m4 ?_
      exact r_reti H rfl rfl ⟨Nat.zero_le _, Nat.zero_le _⟩
def f_X6_asksNobody (a0 : Nat) (a1 : Int32) : M Int32 := bnd (gR 5 0 a0) fun r1 => bnd (gR 4 0 r1) fun r2 => bnd (gR 0 7 r2) fun r3 => bnd (aI r3 a1) fun t4 => if ¬ t4 = (0 : Int32) then rt (0 : Int32) else rt (-3 : Int32)
set_option maxRecDepth 20000 in
theorem s_X6_asksNobody (a0 : Nat) (a1 : Int32) : Sm eX6_asksNobody [.ref a0, .int a1] eI (f_X6_asksNobody a0 a1) := by
  intro hp vr hr H
  unfold f_X6_asksNobody at H
  show Rn none 0 0 eX6_asksNobody 0 [some (.ref a0), some (.int a1)] [] hp (eI vr, hr)
  refine r_aln rfl rfl rfl ?_
  refine r_gR H rfl kd_5_0 (fun r1 H => ?_)
  refine r_gR H rfl kd_4_0 (fun r2 H => ?_)
  refine r_gR H rfl kd_0_7 (fun r3 H => ?_)
  refine r_iln rfl rfl rfl ?_
  refine r_aI' H rfl (fun t4 H => ?_)
  refine r_if H rfl rfl (fun H => ?_) (fun H => ?_)
  · refine r_ic (v := 0) rfl ci_0 ?_
    exact r_reti H rfl rfl ⟨Nat.zero_le _, Nat.zero_le _⟩
  · refine r_bi (v := -3) rfl cb_m3 ?_
    refine r_go rfl ?_
    exact r_reti H rfl rfl ⟨Nat.zero_le _, Nat.zero_le _⟩
def f_X6_rowTooLong (a0 : Nat) : M Int32 := bnd (gI 5 8 a0) fun t1 => bnd (gR 5 0 a0) fun r2 => bnd (gR 4 0 r2) fun r3 => bnd (gI 0 0 r3) fun t4 => if t1 ≤ t4 then rt (0 : Int32) else rt (-3 : Int32)
set_option maxRecDepth 20000 in
theorem s_X6_rowTooLong (a0 : Nat) : Sm eX6_rowTooLong [.ref a0] eI (f_X6_rowTooLong a0) := by
  intro hp vr hr H
  unfold f_X6_rowTooLong at H
  show Rn none 0 0 eX6_rowTooLong 0 [some (.ref a0)] [] hp (eI vr, hr)
  refine r_aln rfl rfl rfl ?_
  refine r_gI' H rfl kl_5_8 (fun t1 H => ?_)
  refine r_aln rfl rfl rfl ?_
  refine r_gR H rfl kd_5_0 (fun r2 H => ?_)
  refine r_gR H rfl kd_4_0 (fun r3 H => ?_)
  refine r_gI' H rfl kl_0_0 (fun t4 H => ?_)
  refine r_cmp H rfl rfl (fun H => ?_) (fun H => ?_)
  · refine r_ic (v := 0) rfl ci_0 ?_
    exact r_reti H rfl rfl ⟨Nat.zero_le _, Nat.zero_le _⟩
  · refine r_bi (v := -3) rfl cb_m3 ?_
    refine r_go rfl ?_
    exact r_reti H rfl rfl ⟨Nat.zero_le _, Nat.zero_le _⟩
def f_X6_fewer (a0 : Int32) (a1 : Int32) : M Int32 := bnd (f_J6_bitCount_0f7a4 a0) fun t1 => bnd (f_J6_bitCount_0f7a4 a1) fun t3 => if t3 ≤ t1 then retZ (0 : Int32) else retZ (1 : Int32)
set_option maxRecDepth 20000 in
theorem s_X6_fewer (a0 : Int32) (a1 : Int32) : Sm eX6_fewer [.int a0, .int a1] eI (f_X6_fewer a0 a1) := by
  intro hp vr hr H
  unfold f_X6_fewer at H
  show Rn none 0 0 eX6_fewer 0 [some (.int a0), some (.int a1)] [] hp (eI vr, hr)
  refine r_iln rfl rfl rfl ?_
  refine r_stI (rest := []) H rfl rfl (s_J6_bitCount_0f7a4 a0) rfl rfl ⟨rfl, rfl⟩ rfl (fun t1 h2 H => ?_)
  refine r_iln rfl rfl rfl ?_
  refine r_stI (rest := [.int t1]) H rfl rfl (s_J6_bitCount_0f7a4 a1) rfl rfl ⟨rfl, rfl⟩ rfl (fun t3 h4 H => ?_)
  refine r_cmp H rfl rfl (fun H => ?_) (fun H => ?_)
  · refine r_ic (v := 0) rfl ci_0 ?_
    exact r_retz H rfl rfl ⟨Nat.zero_le _, Nat.zero_le _⟩
  · refine r_ic (v := 1) rfl ci_1 ?_
    refine r_go rfl ?_
    exact r_retz H rfl rfl ⟨Nat.zero_le _, Nat.zero_le _⟩
def f_X6_leastOf (a0 : Int32) : M Int32 := loopK NF (fun (s1 : Int32) k2 => if (7 : Int32) ≤ s1 then rt (-9 : Int32) else bnd (f_X6_holds a0 s1) fun t3 => if t3 = (0 : Int32) then k2 (s1 + (1 : Int32)) else rt s1) (0 : Int32)
set_option maxRecDepth 20000 in
theorem s_X6_leastOf (a0 : Int32) : Sm eX6_leastOf [.int a0] eI (f_X6_leastOf a0) := by
  intro hp vr hr H
  unfold f_X6_leastOf at H
  show Rn none 0 0 eX6_leastOf 0 [some (.int a0), none] [] hp (eI vr, hr)
  refine r_ic (v := 0) rfl ci_0 ?_
  refine r_isn (L' := [some (.int a0), some (.int (0 : Int32))]) rfl rfl (Nat.le_of_ble_eq_true rfl) rfl ?_
  refine (r_loop (P := (fun (s1 : Int32) hq => Rn none 0 0 eX6_leastOf 2 [some (.int a0), some (.int s1)] [] hq (eI vr, hr))) ?_ NF _ _ H)
  intro k2 K2 s1 hs1 H 
  refine r_iln rfl rfl rfl ?_
  refine r_bi (v := 7) rfl cb_7 ?_
  refine r_cmp H rfl rfl (fun H => ?_) (fun H => ?_)
  · refine r_bi (v := -9) rfl cb_m9 ?_
    exact r_reti H rfl rfl ⟨Nat.zero_le _, Nat.zero_le _⟩
  · refine r_iln rfl rfl rfl ?_
    refine r_iln rfl rfl rfl ?_
    refine r_stI (rest := []) H rfl rfl (s_X6_holds a0 s1) rfl rfl ⟨rfl, rfl⟩ rfl (fun t3 h4 H => ?_)
    refine r_if H rfl rfl (fun H => ?_) (fun H => ?_)
    · refine r_inc (v := 1) (L' := [some (.int a0), some (.int (s1 + (1 : Int32)))]) rfl rfl ci_1 rfl ?_
      refine r_go rfl ?_
      have q := K2 _ _ H
      exact q
    · refine r_iln rfl rfl rfl ?_
      exact r_reti H rfl rfl ⟨Nat.zero_le _, Nat.zero_le _⟩
def f_X6_ahead (a0 : Nat) (a1 : Int32) : M Nat := bnd (gR 5 4 a0) fun r1 => bnd (gR 5 0 a0) fun r2 => bnd (gR 4 0 r2) fun r3 => bnd (cv 0 r1 (f_X0_copyFrom r1 r3)) fun _ => bnd (gR 5 4 a0) fun r6 => bnd (cv 0 r6 (f_X0_passWeeks r6 a1)) fun _ => bnd (gR 5 4 a0) fun r9 => rt r9
set_option maxRecDepth 20000 in
theorem s_X6_ahead (a0 : Nat) (a1 : Int32) : Sm eX6_ahead [.ref a0, .int a1] eR (f_X6_ahead a0 a1) := by
  intro hp vr hr H
  unfold f_X6_ahead at H
  show Rn none 0 0 eX6_ahead 0 [some (.ref a0), some (.int a1)] [] hp (eR vr, hr)
  refine r_aln rfl rfl rfl ?_
  refine r_gR H rfl kd_5_4 (fun r1 H => ?_)
  refine r_aln rfl rfl rfl ?_
  refine r_gR H rfl kd_5_0 (fun r2 H => ?_)
  refine r_gR H rfl kd_4_0 (fun r3 H => ?_)
  refine r_vtU (rest := []) H rfl rfl rfl (s_X0_copyFrom r1 r3) rfl rfl ⟨rfl, rfl⟩ rfl (fun t4 h5 H => ?_)
  refine r_aln rfl rfl rfl ?_
  refine r_gR H rfl kd_5_4 (fun r6 H => ?_)
  refine r_iln rfl rfl rfl ?_
  refine r_vtU (rest := []) H rfl rfl rfl (s_X0_passWeeks r6 a1) rfl rfl ⟨rfl, rfl⟩ rfl (fun t7 h8 H => ?_)
  refine r_aln rfl rfl rfl ?_
  refine r_gR H rfl kd_5_4 (fun r9 H => ?_)
  exact r_retr H rfl rfl ⟨Nat.zero_le _, Nat.zero_le _⟩
def f_X6_feed (a0 : Nat) (a1 : Int32) : M Int32 := bnd (f_X6_outside a1 (0 : Int32) (255 : Int32)) fun t1 => jn (fun k4 => if ¬ t1 = (0 : Int32) then k4 t1 else bnd (gR 5 6 a0) fun r10 => bnd (gI 1 0 r10) fun t11 => if t11 < (96 : Int32) then k4 t1 else k4 (-6 : Int32)) (fun (s3 : Int32) => if s3 = (0 : Int32) then bnd (gR 5 6 a0) fun r5 => bnd (cv 1 r5 (f_X1_add r5 a1)) fun t6 => rt t6 else bnd (cv 5 a0 (f_X6_refuse a0 s3)) fun t8 => rt t8)
set_option maxRecDepth 20000 in
theorem s_X6_feed (a0 : Nat) (a1 : Int32) : Sm eX6_feed [.ref a0, .int a1] eI (f_X6_feed a0 a1) := by
  intro hp vr hr H
  unfold f_X6_feed at H
  show Rn none 0 0 eX6_feed 0 [some (.ref a0), some (.int a1), none] [] hp (eI vr, hr)
  refine r_iln rfl rfl rfl ?_
  refine r_ic (v := 0) rfl ci_0 ?_
  refine r_si (v := 255) rfl cs_255 ?_
  refine r_stI (rest := []) H rfl rfl (s_X6_outside a1 (0 : Int32) (255 : Int32)) rfl rfl ⟨rfl, rfl⟩ rfl (fun t1 h2 H => ?_)
  refine r_isn (L' := [some (.ref a0), some (.int a1), some (.int t1)]) rfl rfl (Nat.le_of_ble_eq_true rfl) rfl ?_
  refine r_iln rfl rfl rfl ?_
  refine r_jn (P := (fun (s3 : Int32) hq => Rn none 0 0 eX6_feed 14 [some (.ref a0), some (.int a1), some (.int s3)] [] hq (eI vr, hr))) H (fun s3 hs3 H  => ?_) (fun k4 K4 H => ?_)
  · refine r_iln rfl rfl rfl ?_
    refine r_if H rfl rfl (fun H => ?_) (fun H => ?_)
    · refine r_aln rfl rfl rfl ?_
      refine r_gR H rfl kd_5_6 (fun r5 H => ?_)
      refine r_iln rfl rfl rfl ?_
      refine r_vtI (rest := []) H rfl rfl rfl (s_X1_add r5 a1) rfl rfl ⟨rfl, rfl⟩ rfl (fun t6 h7 H => ?_)
      exact r_reti H rfl rfl ⟨Nat.zero_le _, Nat.zero_le _⟩
    · refine r_aln rfl rfl rfl ?_
      refine r_iln rfl rfl rfl ?_
      refine r_vtI (rest := []) H rfl rfl rfl (s_X6_refuse a0 s3) rfl rfl ⟨rfl, rfl⟩ rfl (fun t8 h9 H => ?_)
      refine r_go rfl ?_
      exact r_reti H rfl rfl ⟨Nat.zero_le _, Nat.zero_le _⟩
  · refine r_if H rfl rfl (fun H => ?_) (fun H => ?_)
    · have q := K4 _ _ H
      exact q
    · refine r_aln rfl rfl rfl ?_
      refine r_gR H rfl kd_5_6 (fun r10 H => ?_)
      refine r_gI' H rfl kl_1_0 (fun t11 H => ?_)
      refine r_bi (v := 96) rfl cb_96 ?_
      refine r_cmp H rfl rfl (fun H => ?_) (fun H => ?_)
      · have q := K4 _ _ H
        exact q
      · refine r_bi (v := -6) rfl cb_m6 ?_
        refine r_isn (L' := [some (.ref a0), some (.int a1), some (.int (-6 : Int32))]) rfl rfl (Nat.le_of_ble_eq_true rfl) rfl ?_
        have q := K4 _ _ H
        exact q
def f_X6_town (a0 : Nat) : M Int32 := bnd (gR 5 1 a0) fun r1 => bnd (gR 5 0 a0) fun r2 => bnd (cv 4 r1 (f_X5_copyFrom r1 r2)) fun _ => bnd (gR 5 6 a0) fun r5 => bnd (gR 5 1 a0) fun r6 => bnd (cv 1 r5 (f_X1_read r5 r6)) fun t7 => bnd (gR 5 6 a0) fun r9 => bnd (pI 1 0 r9 (0 : Int32)) fun _ => if t7 ≤ (0 : Int32) then rt t7 else bnd (gR 5 0 a0) fun r10 => bnd (gR 5 1 a0) fun r11 => bnd (cv 4 r10 (f_X5_copyFrom r10 r11)) fun _ => bnd (gR 5 5 a0) fun r14 => bnd (pI 2 0 r14 (0 : Int32)) fun _ => rt t7
set_option maxRecDepth 20000 in
theorem s_X6_town (a0 : Nat) : Sm eX6_town [.ref a0] eI (f_X6_town a0) := by
  intro hp vr hr H
  unfold f_X6_town at H
  show Rn none 0 0 eX6_town 0 [some (.ref a0), none] [] hp (eI vr, hr)
  refine r_aln rfl rfl rfl ?_
  refine r_gR H rfl kd_5_1 (fun r1 H => ?_)
  refine r_aln rfl rfl rfl ?_
  refine r_gR H rfl kd_5_0 (fun r2 H => ?_)
  refine r_vtU (rest := []) H rfl rfl rfl (s_X5_copyFrom r1 r2) rfl rfl ⟨rfl, rfl⟩ rfl (fun t3 h4 H => ?_)
  refine r_aln rfl rfl rfl ?_
  refine r_gR H rfl kd_5_6 (fun r5 H => ?_)
  refine r_aln rfl rfl rfl ?_
  refine r_gR H rfl kd_5_1 (fun r6 H => ?_)
  refine r_vtI (rest := []) H rfl rfl rfl (s_X1_read r5 r6) rfl rfl ⟨rfl, rfl⟩ rfl (fun t7 h8 H => ?_)
  refine r_isn (L' := [some (.ref a0), some (.int t7)]) rfl rfl (Nat.le_of_ble_eq_true rfl) rfl ?_
  refine r_aln rfl rfl rfl ?_
  refine r_gR H rfl kd_5_6 (fun r9 H => ?_)
  refine r_ic (v := 0) rfl ci_0 ?_
  refine r_pI H rfl kd_1_0 (fun H => ?_)
  refine r_iln rfl rfl rfl ?_
  refine r_if H rfl rfl (fun H => ?_) (fun H => ?_)
  · refine r_iln rfl rfl rfl ?_
    exact r_reti H rfl rfl ⟨Nat.zero_le _, Nat.zero_le _⟩
  · refine r_aln rfl rfl rfl ?_
    refine r_gR H rfl kd_5_0 (fun r10 H => ?_)
    refine r_aln rfl rfl rfl ?_
    refine r_gR H rfl kd_5_1 (fun r11 H => ?_)
    refine r_vtU (rest := []) H rfl rfl rfl (s_X5_copyFrom r10 r11) rfl rfl ⟨rfl, rfl⟩ rfl (fun t12 h13 H => ?_)
    refine r_aln rfl rfl rfl ?_
    refine r_gR H rfl kd_5_5 (fun r14 H => ?_)
    refine r_ic (v := 0) rfl ci_0 ?_
    refine r_pI H rfl kd_2_0 (fun H => ?_)
    refine r_iln rfl rfl rfl ?_
    exact r_reti H rfl rfl ⟨Nat.zero_le _, Nat.zero_le _⟩
def f_X6_person (a0 : Nat) (a1 : Int32) (a2 : Int32) : M Int32 := bnd (cv 5 a0 (f_X6_noPerson a0 a1)) fun t1 => bnd (f_X6_noChoice a2 (5 : Int32)) fun t3 => bnd (f_X6_first t1 t3) fun t5 => if t5 = (0 : Int32) then bnd (gR 5 0 a0) fun r7 => bnd (gR 4 0 r7) fun r8 => if a2 = (0 : Int32) then bnd (gR 0 3 r8) fun r10 => bnd (aI r10 a1) fun t11 => rt t11 else if a2 = (1 : Int32) then bnd (gR 0 4 r8) fun r13 => bnd (aI r13 a1) fun t14 => rt t14 else if a2 = (2 : Int32) then bnd (gR 0 5 r8) fun r16 => bnd (aI r16 a1) fun t17 => rt t17 else if a2 = (3 : Int32) then bnd (gR 0 6 r8) fun r19 => bnd (aI r19 a1) fun t20 => rt t20 else bnd (gR 0 7 r8) fun r21 => bnd (aI r21 a1) fun t22 => rt t22 else bnd (cv 5 a0 (f_X6_refuse a0 t5)) fun t23 => rt t23
set_option maxRecDepth 20000 in
theorem s_X6_person (a0 : Nat) (a1 : Int32) (a2 : Int32) : Sm eX6_person [.ref a0, .int a1, .int a2] eI (f_X6_person a0 a1 a2) := by
  intro hp vr hr H
  unfold f_X6_person at H
  show Rn none 0 0 eX6_person 0 [some (.ref a0), some (.int a1), some (.int a2), none, none] [] hp (eI vr, hr)
  refine r_aln rfl rfl rfl ?_
  refine r_iln rfl rfl rfl ?_
  refine r_vtI (rest := []) H rfl rfl rfl (s_X6_noPerson a0 a1) rfl rfl ⟨rfl, rfl⟩ rfl (fun t1 h2 H => ?_)
  refine r_iln rfl rfl rfl ?_
  refine r_ic (v := 5) rfl ci_5 ?_
  refine r_stI (rest := [.int t1]) H rfl rfl (s_X6_noChoice a2 (5 : Int32)) rfl rfl ⟨rfl, rfl⟩ rfl (fun t3 h4 H => ?_)
  refine r_stI (rest := []) H rfl rfl (s_X6_first t1 t3) rfl rfl ⟨rfl, rfl⟩ rfl (fun t5 h6 H => ?_)
  refine r_isn (L' := [some (.ref a0), some (.int a1), some (.int a2), some (.int t5), none]) rfl rfl (Nat.le_of_ble_eq_true rfl) rfl ?_
  refine r_iln rfl rfl rfl ?_
  refine r_if H rfl rfl (fun H => ?_) (fun H => ?_)
  · refine r_aln rfl rfl rfl ?_
    refine r_gR H rfl kd_5_0 (fun r7 H => ?_)
    refine r_gR H rfl kd_4_0 (fun r8 H => ?_)
    refine r_as (L' := [some (.ref a0), some (.int a1), some (.int a2), some (.int t5), some (.ref r8)]) rfl (Nat.le_of_ble_eq_true rfl) rfl ?_
    refine r_iln rfl rfl rfl ?_
    rcases Decidable.em (a2 = (0 : Int32)) with h9 | h9
    · rw [if_pos h9] at H; refine r_tab (t := 20) rfl (by rw [h9]; rfl) ?_
      refine r_al rfl rfl ?_
      refine r_gR H rfl kd_0_3 (fun r10 H => ?_)
      refine r_iln rfl rfl rfl ?_
      refine r_aI' H rfl (fun t11 H => ?_)
      exact r_reti H rfl rfl ⟨Nat.zero_le _, Nat.zero_le _⟩
    · rw [if_neg h9] at H; rcases Decidable.em (a2 = (1 : Int32)) with h12 | h12
      · rw [if_pos h12] at H; refine r_tab (t := 25) rfl (by rw [h12]; rfl) ?_
        refine r_al rfl rfl ?_
        refine r_gR H rfl kd_0_4 (fun r13 H => ?_)
        refine r_iln rfl rfl rfl ?_
        refine r_aI' H rfl (fun t14 H => ?_)
        exact r_reti H rfl rfl ⟨Nat.zero_le _, Nat.zero_le _⟩
      · rw [if_neg h12] at H; rcases Decidable.em (a2 = (2 : Int32)) with h15 | h15
        · rw [if_pos h15] at H; refine r_tab (t := 30) rfl (by rw [h15]; rfl) ?_
          refine r_al rfl rfl ?_
          refine r_gR H rfl kd_0_5 (fun r16 H => ?_)
          refine r_iln rfl rfl rfl ?_
          refine r_aI' H rfl (fun t17 H => ?_)
          exact r_reti H rfl rfl ⟨Nat.zero_le _, Nat.zero_le _⟩
        · rw [if_neg h15] at H; rcases Decidable.em (a2 = (3 : Int32)) with h18 | h18
          · rw [if_pos h18] at H; refine r_tab (t := 35) rfl (by rw [h18]; rfl) ?_
            refine r_al rfl rfl ?_
            refine r_gR H rfl kd_0_6 (fun r19 H => ?_)
            refine r_iln rfl rfl rfl ?_
            refine r_aI' H rfl (fun t20 H => ?_)
            exact r_reti H rfl rfl ⟨Nat.zero_le _, Nat.zero_le _⟩
          · rw [if_neg h18] at H; refine r_tab (t := 40) rfl (by have g0 := sw_ne h9 (v := 0) rfl; have g1 := sw_ne h12 (v := 1) rfl; have g2 := sw_ne h15 (v := 2) rfl; have g3 := sw_ne h18 (v := 3) rfl; exact (sw_out (by omega)).trans rfl) ?_
            refine r_al rfl rfl ?_
            refine r_gR H rfl kd_0_7 (fun r21 H => ?_)
            refine r_iln rfl rfl rfl ?_
            refine r_aI' H rfl (fun t22 H => ?_)
            exact r_reti H rfl rfl ⟨Nat.zero_le _, Nat.zero_le _⟩
  · refine r_aln rfl rfl rfl ?_
    refine r_iln rfl rfl rfl ?_
    refine r_vtI (rest := []) H rfl rfl rfl (s_X6_refuse a0 t5) rfl rfl ⟨rfl, rfl⟩ rfl (fun t23 h24 H => ?_)
    exact r_reti H rfl rfl ⟨Nat.zero_le _, Nat.zero_le _⟩
def f_X6_comes (a0 : Nat) (a1 : Int32) (a2 : Int32) (a3 : Int32) : M Int32 := bnd (f_X6_noChoice a1 (6 : Int32)) fun t1 => bnd (f_X6_outside_ a2 (9 : Int32) a3 (0 : Int32) (99 : Int32)) fun t3 => bnd (f_X6_first t1 t3) fun t5 => jn (fun k8 => if ¬ t5 = (0 : Int32) then k8 t5 else bnd (gR 5 0 a0) fun r16 => bnd (gR 4 0 r16) fun r17 => bnd (gI 0 0 r17) fun t18 => if t18 < (7 : Int32) then k8 t5 else k8 (-6 : Int32)) (fun (s7 : Int32) => if s7 = (0 : Int32) then bnd (gR 5 5 a0) fun r9 => bnd (pI 2 0 r9 (0 : Int32)) fun _ => bnd (gR 5 0 a0) fun r10 => bnd (gR 4 0 r10) fun r11 => bnd (cv 0 r11 (f_X0_add r11 a1 a2 a3)) fun t12 => rt t12 else bnd (cv 5 a0 (f_X6_refuse a0 s7)) fun t14 => rt t14)
set_option maxRecDepth 20000 in
theorem s_X6_comes (a0 : Nat) (a1 : Int32) (a2 : Int32) (a3 : Int32) : Sm eX6_comes [.ref a0, .int a1, .int a2, .int a3] eI (f_X6_comes a0 a1 a2 a3) := by
  intro hp vr hr H
  unfold f_X6_comes at H
  show Rn none 0 0 eX6_comes 0 [some (.ref a0), some (.int a1), some (.int a2), some (.int a3), none] [] hp (eI vr, hr)
  refine r_iln rfl rfl rfl ?_
  refine r_bi (v := 6) rfl cb_6 ?_
  refine r_stI (rest := []) H rfl rfl (s_X6_noChoice a1 (6 : Int32)) rfl rfl ⟨rfl, rfl⟩ rfl (fun t1 h2 H => ?_)
  refine r_iln rfl rfl rfl ?_
  refine r_bi (v := 9) rfl cb_9 ?_
  refine r_iln rfl rfl rfl ?_
  refine r_ic (v := 0) rfl ci_0 ?_
  refine r_bi (v := 99) rfl cb_99 ?_
  refine r_stI (rest := [.int t1]) H rfl rfl (s_X6_outside_ a2 (9 : Int32) a3 (0 : Int32) (99 : Int32)) rfl rfl ⟨rfl, rfl⟩ rfl (fun t3 h4 H => ?_)
  refine r_stI (rest := []) H rfl rfl (s_X6_first t1 t3) rfl rfl ⟨rfl, rfl⟩ rfl (fun t5 h6 H => ?_)
  refine r_is (L' := [some (.ref a0), some (.int a1), some (.int a2), some (.int a3), some (.int t5)]) rfl (Nat.le_of_ble_eq_true rfl) rfl ?_
  refine r_il rfl rfl ?_
  refine r_jn (P := (fun (s7 : Int32) hq => Rn none 0 0 eX6_comes 21 [some (.ref a0), some (.int a1), some (.int a2), some (.int a3), some (.int s7)] [] hq (eI vr, hr))) H (fun s7 hs7 H  => ?_) (fun k8 K8 H => ?_)
  · refine r_il rfl rfl ?_
    refine r_if H rfl rfl (fun H => ?_) (fun H => ?_)
    · refine r_aln rfl rfl rfl ?_
      refine r_gR H rfl kd_5_5 (fun r9 H => ?_)
      refine r_ic (v := 0) rfl ci_0 ?_
      refine r_pI H rfl kd_2_0 (fun H => ?_)
      refine r_aln rfl rfl rfl ?_
      refine r_gR H rfl kd_5_0 (fun r10 H => ?_)
      refine r_gR H rfl kd_4_0 (fun r11 H => ?_)
      refine r_iln rfl rfl rfl ?_
      refine r_iln rfl rfl rfl ?_
      refine r_iln rfl rfl rfl ?_
      refine r_vtI (rest := []) H rfl rfl rfl (s_X0_add r11 a1 a2 a3) rfl rfl ⟨rfl, rfl⟩ rfl (fun t12 h13 H => ?_)
      exact r_reti H rfl rfl ⟨Nat.zero_le _, Nat.zero_le _⟩
    · refine r_aln rfl rfl rfl ?_
      refine r_il rfl rfl ?_
      refine r_vtI (rest := []) H rfl rfl rfl (s_X6_refuse a0 s7) rfl rfl ⟨rfl, rfl⟩ rfl (fun t14 h15 H => ?_)
      exact r_reti H rfl rfl ⟨Nat.zero_le _, Nat.zero_le _⟩
  · refine r_if H rfl rfl (fun H => ?_) (fun H => ?_)
    · have q := K8 _ _ H
      exact q
    · refine r_aln rfl rfl rfl ?_
      refine r_gR H rfl kd_5_0 (fun r16 H => ?_)
      refine r_gR H rfl kd_4_0 (fun r17 H => ?_)
      refine r_gI' H rfl kl_0_0 (fun t18 H => ?_)
      refine r_bi (v := 7) rfl cb_7 ?_
      refine r_cmp H rfl rfl (fun H => ?_) (fun H => ?_)
      · have q := K8 _ _ H
        exact q
      · refine r_bi (v := -6) rfl cb_m6 ?_
        refine r_is (L' := [some (.ref a0), some (.int a1), some (.int a2), some (.int a3), some (.int (-6 : Int32))]) rfl (Nat.le_of_ble_eq_true rfl) rfl ?_
        have q := K8 _ _ H
        exact q
def f_X6_asks (a0 : Nat) (a1 : Int32) (a2 : Int32) : M Int32 := bnd (cv 5 a0 (f_X6_noTwo a0 a1 a2)) fun t1 => if t1 = (0 : Int32) then bnd (gR 5 5 a0) fun r3 => bnd (gR 5 0 a0) fun r4 => bnd (gR 4 0 r4) fun r5 => bnd (cv 2 r3 (f_X3_keep r3 r5)) fun _ => bnd (gR 5 0 a0) fun r8 => bnd (gR 4 0 r8) fun r9 => bnd (gR 0 7 r9) fun r10 => bnd (aI r10 a1) fun t11 => bnd (sI r10 a1 (t11 ^^^ ((1 : Int32) <<< (a2 &&& (31 : Int32))))) fun _ => bnd (gR 5 0 a0) fun r12 => bnd (gR 4 0 r12) fun r13 => bnd (gR 0 7 r13) fun r14 => bnd (aI r14 a1) fun t15 => rt ((t15 >>> (a2 &&& (31 : Int32))) &&& (1 : Int32)) else bnd (cv 5 a0 (f_X6_refuse a0 t1)) fun t16 => rt t16
set_option maxRecDepth 20000 in
theorem s_X6_asks (a0 : Nat) (a1 : Int32) (a2 : Int32) : Sm eX6_asks [.ref a0, .int a1, .int a2] eI (f_X6_asks a0 a1 a2) := by
  intro hp vr hr H
  unfold f_X6_asks at H
  show Rn none 0 0 eX6_asks 0 [some (.ref a0), some (.int a1), some (.int a2), none] [] hp (eI vr, hr)
  refine r_aln rfl rfl rfl ?_
  refine r_iln rfl rfl rfl ?_
  refine r_iln rfl rfl rfl ?_
  refine r_vtI (rest := []) H rfl rfl rfl (s_X6_noTwo a0 a1 a2) rfl rfl ⟨rfl, rfl⟩ rfl (fun t1 h2 H => ?_)
  refine r_isn (L' := [some (.ref a0), some (.int a1), some (.int a2), some (.int t1)]) rfl rfl (Nat.le_of_ble_eq_true rfl) rfl ?_
  refine r_iln rfl rfl rfl ?_
  refine r_if H rfl rfl (fun H => ?_) (fun H => ?_)
  · refine r_aln rfl rfl rfl ?_
    refine r_gR H rfl kd_5_5 (fun r3 H => ?_)
    refine r_aln rfl rfl rfl ?_
    refine r_gR H rfl kd_5_0 (fun r4 H => ?_)
    refine r_gR H rfl kd_4_0 (fun r5 H => ?_)
    refine r_vtU (rest := []) H rfl rfl rfl (s_X3_keep r3 r5) rfl rfl ⟨rfl, rfl⟩ rfl (fun t6 h7 H => ?_)
    refine r_aln rfl rfl rfl ?_
    refine r_gR H rfl kd_5_0 (fun r8 H => ?_)
    refine r_gR H rfl kd_4_0 (fun r9 H => ?_)
    refine r_gR H rfl kd_0_7 (fun r10 H => ?_)
    refine r_iln rfl rfl rfl ?_
    refine r_dup2 rfl ?_
    refine r_aI' H rfl (fun t11 H => ?_)
    refine r_ic (v := 1) rfl ci_1 ?_
    refine r_iln rfl rfl rfl ?_
    refine r_shl rfl ?_
    refine r_xor rfl ?_
    refine r_sI H rfl (fun H => ?_)
    refine r_aln rfl rfl rfl ?_
    refine r_gR H rfl kd_5_0 (fun r12 H => ?_)
    refine r_gR H rfl kd_4_0 (fun r13 H => ?_)
    refine r_gR H rfl kd_0_7 (fun r14 H => ?_)
    refine r_iln rfl rfl rfl ?_
    refine r_aI' H rfl (fun t15 H => ?_)
    refine r_iln rfl rfl rfl ?_
    refine r_shr rfl ?_
    refine r_ic (v := 1) rfl ci_1 ?_
    refine r_and rfl ?_
    exact r_reti H rfl rfl ⟨Nat.zero_le _, Nat.zero_le _⟩
  · refine r_aln rfl rfl rfl ?_
    refine r_iln rfl rfl rfl ?_
    refine r_vtI (rest := []) H rfl rfl rfl (s_X6_refuse a0 t1) rfl rfl ⟨rfl, rfl⟩ rfl (fun t16 h17 H => ?_)
    exact r_reti H rfl rfl ⟨Nat.zero_le _, Nat.zero_le _⟩
def f_X6_believes (a0 : Nat) (a1 : Int32) (a2 : Int32) : M Int32 := bnd (cv 5 a0 (f_X6_noPerson a0 a1)) fun t1 => bnd (f_X6_outside a2 (0 : Int32) (99 : Int32)) fun t3 => bnd (f_X6_first t1 t3) fun t5 => if t5 = (0 : Int32) then bnd (gR 5 5 a0) fun r7 => bnd (gR 5 0 a0) fun r8 => bnd (gR 4 0 r8) fun r9 => bnd (cv 2 r7 (f_X3_keep r7 r9)) fun _ => bnd (gR 5 0 a0) fun r12 => bnd (gR 4 0 r12) fun r13 => bnd (gR 0 6 r13) fun r14 => bnd (aI r14 a1) fun t15 => bnd (gR 5 0 a0) fun r16 => bnd (gR 4 0 r16) fun r17 => bnd (gR 0 6 r17) fun r18 => bnd (sI r18 a1 a2) fun _ => rt t15 else bnd (cv 5 a0 (f_X6_refuse a0 t5)) fun t19 => rt t19
set_option maxRecDepth 20000 in
theorem s_X6_believes (a0 : Nat) (a1 : Int32) (a2 : Int32) : Sm eX6_believes [.ref a0, .int a1, .int a2] eI (f_X6_believes a0 a1 a2) := by
  intro hp vr hr H
  unfold f_X6_believes at H
  show Rn none 0 0 eX6_believes 0 [some (.ref a0), some (.int a1), some (.int a2), none, none] [] hp (eI vr, hr)
  refine r_aln rfl rfl rfl ?_
  refine r_iln rfl rfl rfl ?_
  refine r_vtI (rest := []) H rfl rfl rfl (s_X6_noPerson a0 a1) rfl rfl ⟨rfl, rfl⟩ rfl (fun t1 h2 H => ?_)
  refine r_iln rfl rfl rfl ?_
  refine r_ic (v := 0) rfl ci_0 ?_
  refine r_bi (v := 99) rfl cb_99 ?_
  refine r_stI (rest := [.int t1]) H rfl rfl (s_X6_outside a2 (0 : Int32) (99 : Int32)) rfl rfl ⟨rfl, rfl⟩ rfl (fun t3 h4 H => ?_)
  refine r_stI (rest := []) H rfl rfl (s_X6_first t1 t3) rfl rfl ⟨rfl, rfl⟩ rfl (fun t5 h6 H => ?_)
  refine r_isn (L' := [some (.ref a0), some (.int a1), some (.int a2), some (.int t5), none]) rfl rfl (Nat.le_of_ble_eq_true rfl) rfl ?_
  refine r_iln rfl rfl rfl ?_
  refine r_if H rfl rfl (fun H => ?_) (fun H => ?_)
  · refine r_aln rfl rfl rfl ?_
    refine r_gR H rfl kd_5_5 (fun r7 H => ?_)
    refine r_aln rfl rfl rfl ?_
    refine r_gR H rfl kd_5_0 (fun r8 H => ?_)
    refine r_gR H rfl kd_4_0 (fun r9 H => ?_)
    refine r_vtU (rest := []) H rfl rfl rfl (s_X3_keep r7 r9) rfl rfl ⟨rfl, rfl⟩ rfl (fun t10 h11 H => ?_)
    refine r_aln rfl rfl rfl ?_
    refine r_gR H rfl kd_5_0 (fun r12 H => ?_)
    refine r_gR H rfl kd_4_0 (fun r13 H => ?_)
    refine r_gR H rfl kd_0_6 (fun r14 H => ?_)
    refine r_iln rfl rfl rfl ?_
    refine r_aI' H rfl (fun t15 H => ?_)
    refine r_is (L' := [some (.ref a0), some (.int a1), some (.int a2), some (.int t5), some (.int t15)]) rfl (Nat.le_of_ble_eq_true rfl) rfl ?_
    refine r_aln rfl rfl rfl ?_
    refine r_gR H rfl kd_5_0 (fun r16 H => ?_)
    refine r_gR H rfl kd_4_0 (fun r17 H => ?_)
    refine r_gR H rfl kd_0_6 (fun r18 H => ?_)
    refine r_iln rfl rfl rfl ?_
    refine r_iln rfl rfl rfl ?_
    refine r_sI H rfl (fun H => ?_)
    refine r_il rfl rfl ?_
    exact r_reti H rfl rfl ⟨Nat.zero_le _, Nat.zero_le _⟩
  · refine r_aln rfl rfl rfl ?_
    refine r_iln rfl rfl rfl ?_
    refine r_vtI (rest := []) H rfl rfl rfl (s_X6_refuse a0 t5) rfl rfl ⟨rfl, rfl⟩ rfl (fun t19 h20 H => ?_)
    exact r_reti H rfl rfl ⟨Nat.zero_le _, Nat.zero_le _⟩
def f_X6_kind (a0 : Nat) (a1 : Int32) (a2 : Int32) (a3 : Int32) : M Int32 := bnd (cv 5 a0 (f_X6_noPerson a0 a1)) fun t1 => bnd (f_X6_noChoice a2 (6 : Int32)) fun t3 => bnd (f_X6_outside a3 (0 : Int32) (9 : Int32)) fun t5 => bnd (f_X6_first t3 t5) fun t7 => bnd (f_X6_first t1 t7) fun t9 => if t9 = (0 : Int32) then bnd (gR 5 5 a0) fun r11 => bnd (gR 5 0 a0) fun r12 => bnd (gR 4 0 r12) fun r13 => bnd (cv 2 r11 (f_X3_keep r11 r13)) fun _ => bnd (gR 5 0 a0) fun r16 => bnd (gR 4 0 r16) fun r17 => bnd (gR 0 3 r17) fun r18 => bnd (aI r18 a1) fun t19 => bnd (gR 5 0 a0) fun r20 => bnd (gR 4 0 r20) fun r21 => bnd (gR 0 4 r21) fun r22 => bnd (aI r22 a1) fun t23 => bnd (gR 5 0 a0) fun r24 => bnd (gR 4 0 r24) fun r25 => bnd (gR 0 3 r25) fun r26 => bnd (sI r26 a1 a2) fun _ => bnd (gR 5 0 a0) fun r27 => bnd (gR 4 0 r27) fun r28 => bnd (gR 0 4 r28) fun r29 => bnd (sI r29 a1 a3) fun _ => rt (((10 : Int32) * t19) + t23) else bnd (cv 5 a0 (f_X6_refuse a0 t9)) fun t30 => rt t30
set_option maxRecDepth 20000 in
theorem s_X6_kind (a0 : Nat) (a1 : Int32) (a2 : Int32) (a3 : Int32) : Sm eX6_kind [.ref a0, .int a1, .int a2, .int a3] eI (f_X6_kind a0 a1 a2 a3) := by
  intro hp vr hr H
  unfold f_X6_kind at H
  show Rn none 0 0 eX6_kind 0 [some (.ref a0), some (.int a1), some (.int a2), some (.int a3), none, none] [] hp (eI vr, hr)
  refine r_aln rfl rfl rfl ?_
  refine r_iln rfl rfl rfl ?_
  refine r_vtI (rest := []) H rfl rfl rfl (s_X6_noPerson a0 a1) rfl rfl ⟨rfl, rfl⟩ rfl (fun t1 h2 H => ?_)
  refine r_iln rfl rfl rfl ?_
  refine r_bi (v := 6) rfl cb_6 ?_
  refine r_stI (rest := [.int t1]) H rfl rfl (s_X6_noChoice a2 (6 : Int32)) rfl rfl ⟨rfl, rfl⟩ rfl (fun t3 h4 H => ?_)
  refine r_iln rfl rfl rfl ?_
  refine r_ic (v := 0) rfl ci_0 ?_
  refine r_bi (v := 9) rfl cb_9 ?_
  refine r_stI (rest := [.int t3, .int t1]) H rfl rfl (s_X6_outside a3 (0 : Int32) (9 : Int32)) rfl rfl ⟨rfl, rfl⟩ rfl (fun t5 h6 H => ?_)
  refine r_stI (rest := [.int t1]) H rfl rfl (s_X6_first t3 t5) rfl rfl ⟨rfl, rfl⟩ rfl (fun t7 h8 H => ?_)
  refine r_stI (rest := []) H rfl rfl (s_X6_first t1 t7) rfl rfl ⟨rfl, rfl⟩ rfl (fun t9 h10 H => ?_)
  refine r_is (L' := [some (.ref a0), some (.int a1), some (.int a2), some (.int a3), some (.int t9), none]) rfl (Nat.le_of_ble_eq_true rfl) rfl ?_
  refine r_il rfl rfl ?_
  refine r_if H rfl rfl (fun H => ?_) (fun H => ?_)
  · refine r_aln rfl rfl rfl ?_
    refine r_gR H rfl kd_5_5 (fun r11 H => ?_)
    refine r_aln rfl rfl rfl ?_
    refine r_gR H rfl kd_5_0 (fun r12 H => ?_)
    refine r_gR H rfl kd_4_0 (fun r13 H => ?_)
    refine r_vtU (rest := []) H rfl rfl rfl (s_X3_keep r11 r13) rfl rfl ⟨rfl, rfl⟩ rfl (fun t14 h15 H => ?_)
    refine r_bi (v := 10) rfl cb_10 ?_
    refine r_aln rfl rfl rfl ?_
    refine r_gR H rfl kd_5_0 (fun r16 H => ?_)
    refine r_gR H rfl kd_4_0 (fun r17 H => ?_)
    refine r_gR H rfl kd_0_3 (fun r18 H => ?_)
    refine r_iln rfl rfl rfl ?_
    refine r_aI' H rfl (fun t19 H => ?_)
    refine r_mul rfl ?_
    refine r_aln rfl rfl rfl ?_
    refine r_gR H rfl kd_5_0 (fun r20 H => ?_)
    refine r_gR H rfl kd_4_0 (fun r21 H => ?_)
    refine r_gR H rfl kd_0_4 (fun r22 H => ?_)
    refine r_iln rfl rfl rfl ?_
    refine r_aI' H rfl (fun t23 H => ?_)
    refine r_add rfl ?_
    refine r_is (L' := [some (.ref a0), some (.int a1), some (.int a2), some (.int a3), some (.int t9), some (.int (((10 : Int32) * t19) + t23))]) rfl (Nat.le_of_ble_eq_true rfl) rfl ?_
    refine r_aln rfl rfl rfl ?_
    refine r_gR H rfl kd_5_0 (fun r24 H => ?_)
    refine r_gR H rfl kd_4_0 (fun r25 H => ?_)
    refine r_gR H rfl kd_0_3 (fun r26 H => ?_)
    refine r_iln rfl rfl rfl ?_
    refine r_iln rfl rfl rfl ?_
    refine r_sI H rfl (fun H => ?_)
    refine r_aln rfl rfl rfl ?_
    refine r_gR H rfl kd_5_0 (fun r27 H => ?_)
    refine r_gR H rfl kd_4_0 (fun r28 H => ?_)
    refine r_gR H rfl kd_0_4 (fun r29 H => ?_)
    refine r_iln rfl rfl rfl ?_
    refine r_iln rfl rfl rfl ?_
    refine r_sI H rfl (fun H => ?_)
    refine r_il rfl rfl ?_
    exact r_reti H rfl rfl ⟨Nat.zero_le _, Nat.zero_le _⟩
  · refine r_aln rfl rfl rfl ?_
    refine r_il rfl rfl ?_
    refine r_vtI (rest := []) H rfl rfl rfl (s_X6_refuse a0 t9) rfl rfl ⟨rfl, rfl⟩ rfl (fun t30 h31 H => ?_)
    exact r_reti H rfl rfl ⟨Nat.zero_le _, Nat.zero_le _⟩
def f_X6_way (a0 : Nat) (a1 : Int32) (a2 : Int32) : M Int32 := jn (fun k2 => if ¬ a1 = a2 then bnd (f_X6_noPlaces a1 a2) fun t10 => k2 t10 else k2 (-1 : Int32)) (fun (s1 : Int32) => if s1 = (0 : Int32) then bnd (gR 5 5 a0) fun r3 => bnd (pI 2 0 r3 (0 : Int32)) fun _ => bnd (gR 5 0 a0) fun r4 => bnd (gR 4 1 r4) fun r5 => bnd (cv 3 r5 (f_X4_join r5 a1 a2)) fun t6 => rt t6 else bnd (cv 5 a0 (f_X6_refuse a0 s1)) fun t8 => rt t8)
set_option maxRecDepth 20000 in
theorem s_X6_way (a0 : Nat) (a1 : Int32) (a2 : Int32) : Sm eX6_way [.ref a0, .int a1, .int a2] eI (f_X6_way a0 a1 a2) := by
  intro hp vr hr H
  unfold f_X6_way at H
  show Rn none 0 0 eX6_way 0 [some (.ref a0), some (.int a1), some (.int a2), none] [] hp (eI vr, hr)
  refine r_iln rfl rfl rfl ?_
  refine r_iln rfl rfl rfl ?_
  refine r_jn (P := (fun (s1 : Int32) hq => Rn none 0 0 eX6_way 8 [some (.ref a0), some (.int a1), some (.int a2), none] [.int s1] hq (eI vr, hr))) H (fun s1 hs1 H  => ?_) (fun k2 K2 H => ?_)
  · refine r_isn (L' := [some (.ref a0), some (.int a1), some (.int a2), some (.int s1)]) rfl rfl (Nat.le_of_ble_eq_true rfl) rfl ?_
    refine r_iln rfl rfl rfl ?_
    refine r_if H rfl rfl (fun H => ?_) (fun H => ?_)
    · refine r_aln rfl rfl rfl ?_
      refine r_gR H rfl kd_5_5 (fun r3 H => ?_)
      refine r_ic (v := 0) rfl ci_0 ?_
      refine r_pI H rfl kd_2_0 (fun H => ?_)
      refine r_aln rfl rfl rfl ?_
      refine r_gR H rfl kd_5_0 (fun r4 H => ?_)
      refine r_gR H rfl kd_4_1 (fun r5 H => ?_)
      refine r_iln rfl rfl rfl ?_
      refine r_iln rfl rfl rfl ?_
      refine r_vtI (rest := []) H rfl rfl rfl (s_X4_join r5 a1 a2) rfl rfl ⟨rfl, rfl⟩ rfl (fun t6 h7 H => ?_)
      exact r_reti H rfl rfl ⟨Nat.zero_le _, Nat.zero_le _⟩
    · refine r_aln rfl rfl rfl ?_
      refine r_iln rfl rfl rfl ?_
      refine r_vtI (rest := []) H rfl rfl rfl (s_X6_refuse a0 s1) rfl rfl ⟨rfl, rfl⟩ rfl (fun t8 h9 H => ?_)
      exact r_reti H rfl rfl ⟨Nat.zero_le _, Nat.zero_le _⟩
  · refine r_cmp H rfl rfl (fun H => ?_) (fun H => ?_)
    · refine r_iln rfl rfl rfl ?_
      refine r_iln rfl rfl rfl ?_
      refine r_stI (rest := []) H rfl rfl (s_X6_noPlaces a1 a2) rfl rfl ⟨rfl, rfl⟩ rfl (fun t10 h11 H => ?_)
      have q := K2 _ _ H
      exact q
    · refine r_ic (v := -1) rfl ci_m1 ?_
      refine r_go rfl ?_
      have q := K2 _ _ H
      exact q
def f_X6_hangs (a0 : Nat) (a1 : Int32) (a2 : Int32) : M Int32 := bnd (f_X6_noPlace a1) fun t1 => bnd (f_X6_noChoice a2 (4 : Int32)) fun t3 => bnd (f_X6_first t1 t3) fun t5 => if t5 = (0 : Int32) then bnd (gR 5 5 a0) fun r7 => bnd (pI 2 0 r7 (0 : Int32)) fun _ => bnd (gR 5 0 a0) fun r8 => bnd (gR 4 1 r8) fun r9 => bnd (gR 3 1 r9) fun r10 => bnd (aI r10 a1) fun t11 => bnd (gR 5 0 a0) fun r12 => bnd (gR 4 1 r12) fun r13 => bnd (gR 3 1 r13) fun r14 => bnd (sI r14 a1 a2) fun _ => rt t11 else bnd (cv 5 a0 (f_X6_refuse a0 t5)) fun t15 => rt t15
set_option maxRecDepth 20000 in
theorem s_X6_hangs (a0 : Nat) (a1 : Int32) (a2 : Int32) : Sm eX6_hangs [.ref a0, .int a1, .int a2] eI (f_X6_hangs a0 a1 a2) := by
  intro hp vr hr H
  unfold f_X6_hangs at H
  show Rn none 0 0 eX6_hangs 0 [some (.ref a0), some (.int a1), some (.int a2), none, none] [] hp (eI vr, hr)
  refine r_iln rfl rfl rfl ?_
  refine r_stI (rest := []) H rfl rfl (s_X6_noPlace a1) rfl rfl ⟨rfl, rfl⟩ rfl (fun t1 h2 H => ?_)
  refine r_iln rfl rfl rfl ?_
  refine r_ic (v := 4) rfl ci_4 ?_
  refine r_stI (rest := [.int t1]) H rfl rfl (s_X6_noChoice a2 (4 : Int32)) rfl rfl ⟨rfl, rfl⟩ rfl (fun t3 h4 H => ?_)
  refine r_stI (rest := []) H rfl rfl (s_X6_first t1 t3) rfl rfl ⟨rfl, rfl⟩ rfl (fun t5 h6 H => ?_)
  refine r_isn (L' := [some (.ref a0), some (.int a1), some (.int a2), some (.int t5), none]) rfl rfl (Nat.le_of_ble_eq_true rfl) rfl ?_
  refine r_iln rfl rfl rfl ?_
  refine r_if H rfl rfl (fun H => ?_) (fun H => ?_)
  · refine r_aln rfl rfl rfl ?_
    refine r_gR H rfl kd_5_5 (fun r7 H => ?_)
    refine r_ic (v := 0) rfl ci_0 ?_
    refine r_pI H rfl kd_2_0 (fun H => ?_)
    refine r_aln rfl rfl rfl ?_
    refine r_gR H rfl kd_5_0 (fun r8 H => ?_)
    refine r_gR H rfl kd_4_1 (fun r9 H => ?_)
    refine r_gR H rfl kd_3_1 (fun r10 H => ?_)
    refine r_iln rfl rfl rfl ?_
    refine r_aI' H rfl (fun t11 H => ?_)
    refine r_is (L' := [some (.ref a0), some (.int a1), some (.int a2), some (.int t5), some (.int t11)]) rfl (Nat.le_of_ble_eq_true rfl) rfl ?_
    refine r_aln rfl rfl rfl ?_
    refine r_gR H rfl kd_5_0 (fun r12 H => ?_)
    refine r_gR H rfl kd_4_1 (fun r13 H => ?_)
    refine r_gR H rfl kd_3_1 (fun r14 H => ?_)
    refine r_iln rfl rfl rfl ?_
    refine r_iln rfl rfl rfl ?_
    refine r_sI H rfl (fun H => ?_)
    refine r_il rfl rfl ?_
    exact r_reti H rfl rfl ⟨Nat.zero_le _, Nat.zero_le _⟩
  · refine r_aln rfl rfl rfl ?_
    refine r_iln rfl rfl rfl ?_
    refine r_vtI (rest := []) H rfl rfl rfl (s_X6_refuse a0 t5) rfl rfl ⟨rfl, rfl⟩ rfl (fun t15 h16 H => ?_)
    exact r_reti H rfl rfl ⟨Nat.zero_le _, Nat.zero_le _⟩
def f_X6_week (a0 : Nat) : M Int32 := bnd (gR 5 0 a0) fun r1 => bnd (gR 4 0 r1) fun r2 => bnd (gI 0 1 r2) fun t3 => if t3 < (999 : Int32) then bnd (gR 5 5 a0) fun r4 => bnd (gR 5 0 a0) fun r5 => bnd (gR 4 0 r5) fun r6 => bnd (cv 2 r4 (f_X3_keep r4 r6)) fun _ => bnd (gR 5 0 a0) fun r9 => bnd (gR 4 0 r9) fun r10 => bnd (cv 0 r10 (f_X0_passWeek r10)) fun t11 => rt t11 else bnd (cv 5 a0 (f_X6_refuse a0 (-6 : Int32))) fun t13 => rt t13
set_option maxRecDepth 20000 in
theorem s_X6_week (a0 : Nat) : Sm eX6_week [.ref a0] eI (f_X6_week a0) := by
  intro hp vr hr H
  unfold f_X6_week at H
  show Rn none 0 0 eX6_week 0 [some (.ref a0)] [] hp (eI vr, hr)
  refine r_aln rfl rfl rfl ?_
  refine r_gR H rfl kd_5_0 (fun r1 H => ?_)
  refine r_gR H rfl kd_4_0 (fun r2 H => ?_)
  refine r_gI' H rfl kl_0_1 (fun t3 H => ?_)
  refine r_si (v := 999) rfl cs_999 ?_
  refine r_cmp H rfl rfl (fun H => ?_) (fun H => ?_)
  · refine r_aln rfl rfl rfl ?_
    refine r_gR H rfl kd_5_5 (fun r4 H => ?_)
    refine r_aln rfl rfl rfl ?_
    refine r_gR H rfl kd_5_0 (fun r5 H => ?_)
    refine r_gR H rfl kd_4_0 (fun r6 H => ?_)
    refine r_vtU (rest := []) H rfl rfl rfl (s_X3_keep r4 r6) rfl rfl ⟨rfl, rfl⟩ rfl (fun t7 h8 H => ?_)
    refine r_aln rfl rfl rfl ?_
    refine r_gR H rfl kd_5_0 (fun r9 H => ?_)
    refine r_gR H rfl kd_4_0 (fun r10 H => ?_)
    refine r_vtI (rest := []) H rfl rfl rfl (s_X0_passWeek r10) rfl rfl ⟨rfl, rfl⟩ rfl (fun t11 h12 H => ?_)
    exact r_reti H rfl rfl ⟨Nat.zero_le _, Nat.zero_le _⟩
  · refine r_aln rfl rfl rfl ?_
    refine r_bi (v := -6) rfl cb_m6 ?_
    refine r_vtI (rest := []) H rfl rfl rfl (s_X6_refuse a0 (-6 : Int32)) rfl rfl ⟨rfl, rfl⟩ rfl (fun t13 h14 H => ?_)
    exact r_reti H rfl rfl ⟨Nat.zero_le _, Nat.zero_le _⟩
def f_X6_back (a0 : Nat) : M Int32 := bnd (gR 5 5 a0) fun r1 => bnd (gI 2 0 r1) fun t2 => if ¬ t2 = (0 : Int32) then bnd (gR 5 5 a0) fun r3 => bnd (gR 5 0 a0) fun r4 => bnd (gR 4 0 r4) fun r5 => bnd (cv 2 r3 (f_X3_takeBack r3 r5)) fun t6 => rt t6 else bnd (cv 5 a0 (f_X6_refuse a0 (-3 : Int32))) fun t8 => rt t8
set_option maxRecDepth 20000 in
theorem s_X6_back (a0 : Nat) : Sm eX6_back [.ref a0] eI (f_X6_back a0) := by
  intro hp vr hr H
  unfold f_X6_back at H
  show Rn none 0 0 eX6_back 0 [some (.ref a0)] [] hp (eI vr, hr)
  refine r_aln rfl rfl rfl ?_
  refine r_gR H rfl kd_5_5 (fun r1 H => ?_)
  refine r_gI' H rfl kl_2_0 (fun t2 H => ?_)
  refine r_if H rfl rfl (fun H => ?_) (fun H => ?_)
  · refine r_aln rfl rfl rfl ?_
    refine r_gR H rfl kd_5_5 (fun r3 H => ?_)
    refine r_aln rfl rfl rfl ?_
    refine r_gR H rfl kd_5_0 (fun r4 H => ?_)
    refine r_gR H rfl kd_4_0 (fun r5 H => ?_)
    refine r_vtI (rest := []) H rfl rfl rfl (s_X3_takeBack r3 r5) rfl rfl ⟨rfl, rfl⟩ rfl (fun t6 h7 H => ?_)
    exact r_reti H rfl rfl ⟨Nat.zero_le _, Nat.zero_le _⟩
  · refine r_aln rfl rfl rfl ?_
    refine r_bi (v := -3) rfl cb_m3 ?_
    refine r_vtI (rest := []) H rfl rfl rfl (s_X6_refuse a0 (-3 : Int32)) rfl rfl ⟨rfl, rfl⟩ rfl (fun t8 h9 H => ?_)
    refine r_go rfl ?_
    exact r_reti H rfl rfl ⟨Nat.zero_le _, Nat.zero_le _⟩
def f_X6_says (a0 : Nat) (a1 : Int32) (a2 : Int32) : M Int32 := bnd (cv 5 a0 (f_X6_noTwo a0 a1 a2)) fun t1 => if t1 = (0 : Int32) then bnd (gR 5 0 a0) fun r3 => bnd (gR 4 0 r3) fun r4 => bnd (gR 5 0 a0) fun r5 => bnd (gR 4 0 r5) fun r6 => bnd (gR 0 5 r6) fun r7 => bnd (aI r7 a2) fun t8 => bnd (cv 0 r4 (f_X0_word r4 a1 t8)) fun t9 => rt t9 else bnd (cv 5 a0 (f_X6_refuse a0 t1)) fun t11 => rt t11
set_option maxRecDepth 20000 in
theorem s_X6_says (a0 : Nat) (a1 : Int32) (a2 : Int32) : Sm eX6_says [.ref a0, .int a1, .int a2] eI (f_X6_says a0 a1 a2) := by
  intro hp vr hr H
  unfold f_X6_says at H
  show Rn none 0 0 eX6_says 0 [some (.ref a0), some (.int a1), some (.int a2), none] [] hp (eI vr, hr)
  refine r_aln rfl rfl rfl ?_
  refine r_iln rfl rfl rfl ?_
  refine r_iln rfl rfl rfl ?_
  refine r_vtI (rest := []) H rfl rfl rfl (s_X6_noTwo a0 a1 a2) rfl rfl ⟨rfl, rfl⟩ rfl (fun t1 h2 H => ?_)
  refine r_isn (L' := [some (.ref a0), some (.int a1), some (.int a2), some (.int t1)]) rfl rfl (Nat.le_of_ble_eq_true rfl) rfl ?_
  refine r_iln rfl rfl rfl ?_
  refine r_if H rfl rfl (fun H => ?_) (fun H => ?_)
  · refine r_aln rfl rfl rfl ?_
    refine r_gR H rfl kd_5_0 (fun r3 H => ?_)
    refine r_gR H rfl kd_4_0 (fun r4 H => ?_)
    refine r_iln rfl rfl rfl ?_
    refine r_aln rfl rfl rfl ?_
    refine r_gR H rfl kd_5_0 (fun r5 H => ?_)
    refine r_gR H rfl kd_4_0 (fun r6 H => ?_)
    refine r_gR H rfl kd_0_5 (fun r7 H => ?_)
    refine r_iln rfl rfl rfl ?_
    refine r_aI' H rfl (fun t8 H => ?_)
    refine r_vtI (rest := []) H rfl rfl rfl (s_X0_word r4 a1 t8) rfl rfl ⟨rfl, rfl⟩ rfl (fun t9 h10 H => ?_)
    exact r_reti H rfl rfl ⟨Nat.zero_le _, Nat.zero_le _⟩
  · refine r_aln rfl rfl rfl ?_
    refine r_iln rfl rfl rfl ?_
    refine r_vtI (rest := []) H rfl rfl rfl (s_X6_refuse a0 t1) rfl rfl ⟨rfl, rfl⟩ rfl (fun t11 h12 H => ?_)
    refine r_go rfl ?_
    exact r_reti H rfl rfl ⟨Nat.zero_le _, Nat.zero_le _⟩
def f_X6_saysOf (a0 : Nat) (a1 : Int32) (a2 : Int32) : M Int32 := bnd (cv 5 a0 (f_X6_noPerson a0 a1)) fun t1 => bnd (f_X6_outside a2 (0 : Int32) (99 : Int32)) fun t3 => bnd (f_X6_first t1 t3) fun t5 => if t5 = (0 : Int32) then bnd (gR 5 0 a0) fun r7 => bnd (gR 4 0 r7) fun r8 => bnd (cv 0 r8 (f_X0_word r8 a1 a2)) fun t9 => rt t9 else bnd (cv 5 a0 (f_X6_refuse a0 t5)) fun t11 => rt t11
set_option maxRecDepth 20000 in
theorem s_X6_saysOf (a0 : Nat) (a1 : Int32) (a2 : Int32) : Sm eX6_saysOf [.ref a0, .int a1, .int a2] eI (f_X6_saysOf a0 a1 a2) := by
  intro hp vr hr H
  unfold f_X6_saysOf at H
  show Rn none 0 0 eX6_saysOf 0 [some (.ref a0), some (.int a1), some (.int a2), none] [] hp (eI vr, hr)
  refine r_aln rfl rfl rfl ?_
  refine r_iln rfl rfl rfl ?_
  refine r_vtI (rest := []) H rfl rfl rfl (s_X6_noPerson a0 a1) rfl rfl ⟨rfl, rfl⟩ rfl (fun t1 h2 H => ?_)
  refine r_iln rfl rfl rfl ?_
  refine r_ic (v := 0) rfl ci_0 ?_
  refine r_bi (v := 99) rfl cb_99 ?_
  refine r_stI (rest := [.int t1]) H rfl rfl (s_X6_outside a2 (0 : Int32) (99 : Int32)) rfl rfl ⟨rfl, rfl⟩ rfl (fun t3 h4 H => ?_)
  refine r_stI (rest := []) H rfl rfl (s_X6_first t1 t3) rfl rfl ⟨rfl, rfl⟩ rfl (fun t5 h6 H => ?_)
  refine r_isn (L' := [some (.ref a0), some (.int a1), some (.int a2), some (.int t5)]) rfl rfl (Nat.le_of_ble_eq_true rfl) rfl ?_
  refine r_iln rfl rfl rfl ?_
  refine r_if H rfl rfl (fun H => ?_) (fun H => ?_)
  · refine r_aln rfl rfl rfl ?_
    refine r_gR H rfl kd_5_0 (fun r7 H => ?_)
    refine r_gR H rfl kd_4_0 (fun r8 H => ?_)
    refine r_iln rfl rfl rfl ?_
    refine r_iln rfl rfl rfl ?_
    refine r_vtI (rest := []) H rfl rfl rfl (s_X0_word r8 a1 a2) rfl rfl ⟨rfl, rfl⟩ rfl (fun t9 h10 H => ?_)
    exact r_reti H rfl rfl ⟨Nat.zero_le _, Nat.zero_le _⟩
  · refine r_aln rfl rfl rfl ?_
    refine r_iln rfl rfl rfl ?_
    refine r_vtI (rest := []) H rfl rfl rfl (s_X6_refuse a0 t5) rfl rfl ⟨rfl, rfl⟩ rfl (fun t11 h12 H => ?_)
    refine r_go rfl ?_
    exact r_reti H rfl rfl ⟨Nat.zero_le _, Nat.zero_le _⟩
def f_X6_belief (a0 : Nat) (a1 : Int32) (a2 : Int32) : M Int32 := bnd (cv 5 a0 (f_X6_noPerson a0 a1)) fun t1 => bnd (f_X6_outside a2 (0 : Int32) (60 : Int32)) fun t3 => bnd (f_X6_first t1 t3) fun t5 => if t5 = (0 : Int32) then bnd (cv 5 a0 (f_X6_ahead a0 a2)) fun t7 => bnd (gR 0 6 t7) fun r9 => bnd (aI r9 a1) fun t10 => rt t10 else bnd (cv 5 a0 (f_X6_refuse a0 t5)) fun t11 => rt t11
set_option maxRecDepth 20000 in
theorem s_X6_belief (a0 : Nat) (a1 : Int32) (a2 : Int32) : Sm eX6_belief [.ref a0, .int a1, .int a2] eI (f_X6_belief a0 a1 a2) := by
  intro hp vr hr H
  unfold f_X6_belief at H
  show Rn none 0 0 eX6_belief 0 [some (.ref a0), some (.int a1), some (.int a2), none] [] hp (eI vr, hr)
  refine r_aln rfl rfl rfl ?_
  refine r_iln rfl rfl rfl ?_
  refine r_vtI (rest := []) H rfl rfl rfl (s_X6_noPerson a0 a1) rfl rfl ⟨rfl, rfl⟩ rfl (fun t1 h2 H => ?_)
  refine r_iln rfl rfl rfl ?_
  refine r_ic (v := 0) rfl ci_0 ?_
  refine r_bi (v := 60) rfl cb_60 ?_
  refine r_stI (rest := [.int t1]) H rfl rfl (s_X6_outside a2 (0 : Int32) (60 : Int32)) rfl rfl ⟨rfl, rfl⟩ rfl (fun t3 h4 H => ?_)
  refine r_stI (rest := []) H rfl rfl (s_X6_first t1 t3) rfl rfl ⟨rfl, rfl⟩ rfl (fun t5 h6 H => ?_)
  refine r_isn (L' := [some (.ref a0), some (.int a1), some (.int a2), some (.int t5)]) rfl rfl (Nat.le_of_ble_eq_true rfl) rfl ?_
  refine r_iln rfl rfl rfl ?_
  refine r_if H rfl rfl (fun H => ?_) (fun H => ?_)
  · refine r_aln rfl rfl rfl ?_
    refine r_iln rfl rfl rfl ?_
    refine r_vtR (rest := []) H rfl rfl rfl (s_X6_ahead a0 a2) rfl rfl ⟨rfl, rfl⟩ rfl (fun t7 h8 H => ?_)
    refine r_gR H rfl kd_0_6 (fun r9 H => ?_)
    refine r_iln rfl rfl rfl ?_
    refine r_aI' H rfl (fun t10 H => ?_)
    exact r_reti H rfl rfl ⟨Nat.zero_le _, Nat.zero_le _⟩
  · refine r_aln rfl rfl rfl ?_
    refine r_iln rfl rfl rfl ?_
    refine r_vtI (rest := []) H rfl rfl rfl (s_X6_refuse a0 t5) rfl rfl ⟨rfl, rfl⟩ rfl (fun t11 h12 H => ?_)
    refine r_go rfl ?_
    exact r_reti H rfl rfl ⟨Nat.zero_le _, Nat.zero_le _⟩
def f_X6_fooled (a0 : Nat) (a1 : Int32) (a2 : Int32) : M Int32 := bnd (f_X6_outside_ a1 (60 : Int32) a2 (0 : Int32) (99 : Int32)) fun t1 => if t1 = (0 : Int32) then bnd (cv 5 a0 (f_X6_ahead a0 a1)) fun t3 => bnd (cv 0 t3 (f_X0_fooledBy t3 a2)) fun t5 => rt t5 else bnd (cv 5 a0 (f_X6_refuse a0 t1)) fun t7 => rt t7
set_option maxRecDepth 20000 in
theorem s_X6_fooled (a0 : Nat) (a1 : Int32) (a2 : Int32) : Sm eX6_fooled [.ref a0, .int a1, .int a2] eI (f_X6_fooled a0 a1 a2) := by
  intro hp vr hr H
  unfold f_X6_fooled at H
  show Rn none 0 0 eX6_fooled 0 [some (.ref a0), some (.int a1), some (.int a2), none] [] hp (eI vr, hr)
  refine r_iln rfl rfl rfl ?_
  refine r_bi (v := 60) rfl cb_60 ?_
  refine r_iln rfl rfl rfl ?_
  refine r_ic (v := 0) rfl ci_0 ?_
  refine r_bi (v := 99) rfl cb_99 ?_
  refine r_stI (rest := []) H rfl rfl (s_X6_outside_ a1 (60 : Int32) a2 (0 : Int32) (99 : Int32)) rfl rfl ⟨rfl, rfl⟩ rfl (fun t1 h2 H => ?_)
  refine r_isn (L' := [some (.ref a0), some (.int a1), some (.int a2), some (.int t1)]) rfl rfl (Nat.le_of_ble_eq_true rfl) rfl ?_
  refine r_iln rfl rfl rfl ?_
  refine r_if H rfl rfl (fun H => ?_) (fun H => ?_)
  · refine r_aln rfl rfl rfl ?_
    refine r_iln rfl rfl rfl ?_
    refine r_vtR (rest := []) H rfl rfl rfl (s_X6_ahead a0 a1) rfl rfl ⟨rfl, rfl⟩ rfl (fun t3 h4 H => ?_)
    refine r_iln rfl rfl rfl ?_
    refine r_vtI (rest := []) H rfl rfl rfl (s_X0_fooledBy t3 a2) rfl rfl ⟨rfl, rfl⟩ rfl (fun t5 h6 H => ?_)
    exact r_reti H rfl rfl ⟨Nat.zero_le _, Nat.zero_le _⟩
  · refine r_aln rfl rfl rfl ?_
    refine r_iln rfl rfl rfl ?_
    refine r_vtI (rest := []) H rfl rfl rfl (s_X6_refuse a0 t1) rfl rfl ⟨rfl, rfl⟩ rfl (fun t7 h8 H => ?_)
    refine r_go rfl ?_
    exact r_reti H rfl rfl ⟨Nat.zero_le _, Nat.zero_le _⟩
def f_X6_error (a0 : Nat) (a1 : Int32) : M Int32 := bnd (f_X6_outside a1 (0 : Int32) (60 : Int32)) fun t1 => if t1 = (0 : Int32) then bnd (cv 5 a0 (f_X6_ahead a0 a1)) fun t3 => bnd (cv 0 t3 (f_X0_allErrors t3)) fun t5 => rt t5 else bnd (cv 5 a0 (f_X6_refuse a0 t1)) fun t7 => rt t7
set_option maxRecDepth 20000 in
theorem s_X6_error (a0 : Nat) (a1 : Int32) : Sm eX6_error [.ref a0, .int a1] eI (f_X6_error a0 a1) := by
  intro hp vr hr H
  unfold f_X6_error at H
  show Rn none 0 0 eX6_error 0 [some (.ref a0), some (.int a1), none] [] hp (eI vr, hr)
  refine r_iln rfl rfl rfl ?_
  refine r_ic (v := 0) rfl ci_0 ?_
  refine r_bi (v := 60) rfl cb_60 ?_
  refine r_stI (rest := []) H rfl rfl (s_X6_outside a1 (0 : Int32) (60 : Int32)) rfl rfl ⟨rfl, rfl⟩ rfl (fun t1 h2 H => ?_)
  refine r_isn (L' := [some (.ref a0), some (.int a1), some (.int t1)]) rfl rfl (Nat.le_of_ble_eq_true rfl) rfl ?_
  refine r_iln rfl rfl rfl ?_
  refine r_if H rfl rfl (fun H => ?_) (fun H => ?_)
  · refine r_aln rfl rfl rfl ?_
    refine r_iln rfl rfl rfl ?_
    refine r_vtR (rest := []) H rfl rfl rfl (s_X6_ahead a0 a1) rfl rfl ⟨rfl, rfl⟩ rfl (fun t3 h4 H => ?_)
    refine r_vtI (rest := []) H rfl rfl rfl (s_X0_allErrors t3) rfl rfl ⟨rfl, rfl⟩ rfl (fun t5 h6 H => ?_)
    exact r_reti H rfl rfl ⟨Nat.zero_le _, Nat.zero_le _⟩
  · refine r_aln rfl rfl rfl ?_
    refine r_iln rfl rfl rfl ?_
    refine r_vtI (rest := []) H rfl rfl rfl (s_X6_refuse a0 t1) rfl rfl ⟨rfl, rfl⟩ rfl (fun t7 h8 H => ?_)
    refine r_go rfl ?_
    exact r_reti H rfl rfl ⟨Nat.zero_le _, Nat.zero_le _⟩
def f_X6_clash (a0 : Nat) (a1 : Int32) (a2 : Int32) : M Int32 := bnd (f_X6_outside a1 (0 : Int32) (99 : Int32)) fun t1 => bnd (f_X6_noChoice a2 (2 : Int32)) fun t3 => bnd (f_X6_first t1 t3) fun t5 => if t5 = (0 : Int32) then bnd (cv 5 a0 (f_X6_ahead a0 (0 : Int32))) fun t7 => loopK NF (fun (s9 : Int32) k10 => if (60 : Int32) < s9 then rt (-9 : Int32) else bnd (cv 0 t7 (f_X0_fooledBy t7 a1)) fun t12 => if t12 = (0 : Int32) then bnd (cv 0 t7 (f_X0_passWeek t7)) fun t14 => k10 (s9 + (1 : Int32)) else if ¬ a2 = (0 : Int32) then bnd (f_X6_leastOf t12) fun t16 => rt t16 else rt s9) (0 : Int32) else bnd (cv 5 a0 (f_X6_refuse a0 t5)) fun t18 => rt t18
set_option maxRecDepth 20000 in
theorem s_X6_clash (a0 : Nat) (a1 : Int32) (a2 : Int32) : Sm eX6_clash [.ref a0, .int a1, .int a2] eI (f_X6_clash a0 a1 a2) := by
  intro hp vr hr H
  unfold f_X6_clash at H
  show Rn none 0 0 eX6_clash 0 [some (.ref a0), some (.int a1), some (.int a2), none, none, none, none] [] hp (eI vr, hr)
  refine r_iln rfl rfl rfl ?_
  refine r_ic (v := 0) rfl ci_0 ?_
  refine r_bi (v := 99) rfl cb_99 ?_
  refine r_stI (rest := []) H rfl rfl (s_X6_outside a1 (0 : Int32) (99 : Int32)) rfl rfl ⟨rfl, rfl⟩ rfl (fun t1 h2 H => ?_)
  refine r_iln rfl rfl rfl ?_
  refine r_ic (v := 2) rfl ci_2 ?_
  refine r_stI (rest := [.int t1]) H rfl rfl (s_X6_noChoice a2 (2 : Int32)) rfl rfl ⟨rfl, rfl⟩ rfl (fun t3 h4 H => ?_)
  refine r_stI (rest := []) H rfl rfl (s_X6_first t1 t3) rfl rfl ⟨rfl, rfl⟩ rfl (fun t5 h6 H => ?_)
  refine r_isn (L' := [some (.ref a0), some (.int a1), some (.int a2), some (.int t5), none, none, none]) rfl rfl (Nat.le_of_ble_eq_true rfl) rfl ?_
  refine r_iln rfl rfl rfl ?_
  refine r_if H rfl rfl (fun H => ?_) (fun H => ?_)
  · refine r_aln rfl rfl rfl ?_
    refine r_ic (v := 0) rfl ci_0 ?_
    refine r_vtR (rest := []) H rfl rfl rfl (s_X6_ahead a0 (0 : Int32)) rfl rfl ⟨rfl, rfl⟩ rfl (fun t7 h8 H => ?_)
    refine r_as (L' := [some (.ref a0), some (.int a1), some (.int a2), some (.int t5), some (.ref t7), none, none]) rfl (Nat.le_of_ble_eq_true rfl) rfl ?_
    refine r_ic (v := 0) rfl ci_0 ?_
    refine r_is (L' := [some (.ref a0), some (.int a1), some (.int a2), some (.int t5), some (.ref t7), some (.int (0 : Int32)), none]) rfl (Nat.le_of_ble_eq_true rfl) rfl ?_
    refine (r_loop (P := (fun (s9 : Int32) hq => ∀ x11 : Option Value, Rn none 0 0 eX6_clash 21 [some (.ref a0), some (.int a1), some (.int a2), some (.int t5), some (.ref t7), some (.int s9), x11] [] hq (eI vr, hr))) ?_ NF _ _ H) _
    intro k10 K10 s9 hs9 H x11
    refine r_il rfl rfl ?_
    refine r_bi (v := 60) rfl cb_60 ?_
    refine r_cmp H rfl rfl (fun H => ?_) (fun H => ?_)
    · refine r_bi (v := -9) rfl cb_m9 ?_
      exact r_reti H rfl rfl ⟨Nat.zero_le _, Nat.zero_le _⟩
    · refine r_al rfl rfl ?_
      refine r_iln rfl rfl rfl ?_
      refine r_vtI (rest := []) H rfl rfl rfl (s_X0_fooledBy t7 a1) rfl rfl ⟨rfl, rfl⟩ rfl (fun t12 h13 H => ?_)
      refine r_is (L' := [some (.ref a0), some (.int a1), some (.int a2), some (.int t5), some (.ref t7), some (.int s9), some (.int t12)]) rfl (Nat.le_of_ble_eq_true rfl) rfl ?_
      refine r_il rfl rfl ?_
      refine r_if H rfl rfl (fun H => ?_) (fun H => ?_)
      · refine r_al rfl rfl ?_
        refine r_vtI (rest := []) H rfl rfl rfl (s_X0_passWeek t7) rfl rfl ⟨rfl, rfl⟩ rfl (fun t14 h15 H => ?_)
        refine r_popi rfl ?_
        refine r_inc (v := 1) (L' := [some (.ref a0), some (.int a1), some (.int a2), some (.int t5), some (.ref t7), some (.int (s9 + (1 : Int32))), some (.int t12)]) rfl rfl ci_1 rfl ?_
        refine r_go rfl ?_
        have q := K10 _ _ H
        exact q _
      · refine r_iln rfl rfl rfl ?_
        refine r_if H rfl rfl (fun H => ?_) (fun H => ?_)
        · refine r_il rfl rfl ?_
          refine r_stI (rest := []) H rfl rfl (s_X6_leastOf t12) rfl rfl ⟨rfl, rfl⟩ rfl (fun t16 h17 H => ?_)
          exact r_reti H rfl rfl ⟨Nat.zero_le _, Nat.zero_le _⟩
        · refine r_il rfl rfl ?_
          refine r_go rfl ?_
          exact r_reti H rfl rfl ⟨Nat.zero_le _, Nat.zero_le _⟩
  · refine r_aln rfl rfl rfl ?_
    refine r_iln rfl rfl rfl ?_
    refine r_vtI (rest := []) H rfl rfl rfl (s_X6_refuse a0 t5) rfl rfl ⟨rfl, rfl⟩ rfl (fun t18 h19 H => ?_)
    exact r_reti H rfl rfl ⟨Nat.zero_le _, Nat.zero_le _⟩
def f_X6_settles (a0 : Nat) : M Int32 := bnd (cv 5 a0 (f_X6_ahead a0 (0 : Int32))) fun t1 => loopK NF (fun (s3 : Int32) k4 => if (60 : Int32) < s3 then rt (-9 : Int32) else bnd (cv 0 t1 (f_X0_passWeek t1)) fun t5 => if ¬ t5 = (0 : Int32) then k4 (s3 + (1 : Int32)) else rt s3) (0 : Int32)
set_option maxRecDepth 20000 in
theorem s_X6_settles (a0 : Nat) : Sm eX6_settles [.ref a0] eI (f_X6_settles a0) := by
  intro hp vr hr H
  unfold f_X6_settles at H
  show Rn none 0 0 eX6_settles 0 [some (.ref a0), none, none] [] hp (eI vr, hr)
  refine r_aln rfl rfl rfl ?_
  refine r_ic (v := 0) rfl ci_0 ?_
  refine r_vtR (rest := []) H rfl rfl rfl (s_X6_ahead a0 (0 : Int32)) rfl rfl ⟨rfl, rfl⟩ rfl (fun t1 h2 H => ?_)
  refine r_asn (L' := [some (.ref a0), some (.ref t1), none]) rfl rfl (Nat.le_of_ble_eq_true rfl) rfl ?_
  refine r_ic (v := 0) rfl ci_0 ?_
  refine r_isn (L' := [some (.ref a0), some (.ref t1), some (.int (0 : Int32))]) rfl rfl (Nat.le_of_ble_eq_true rfl) rfl ?_
  refine (r_loop (P := (fun (s3 : Int32) hq => Rn none 0 0 eX6_settles 6 [some (.ref a0), some (.ref t1), some (.int s3)] [] hq (eI vr, hr))) ?_ NF _ _ H)
  intro k4 K4 s3 hs3 H 
  refine r_iln rfl rfl rfl ?_
  refine r_bi (v := 60) rfl cb_60 ?_
  refine r_cmp H rfl rfl (fun H => ?_) (fun H => ?_)
  · refine r_bi (v := -9) rfl cb_m9 ?_
    exact r_reti H rfl rfl ⟨Nat.zero_le _, Nat.zero_le _⟩
  · refine r_aln rfl rfl rfl ?_
    refine r_vtI (rest := []) H rfl rfl rfl (s_X0_passWeek t1) rfl rfl ⟨rfl, rfl⟩ rfl (fun t5 h6 H => ?_)
    refine r_if H rfl rfl (fun H => ?_) (fun H => ?_)
    · refine r_inc (v := 1) (L' := [some (.ref a0), some (.ref t1), some (.int (s3 + (1 : Int32)))]) rfl rfl ci_1 rfl ?_
      refine r_go rfl ?_
      have q := K4 _ _ H
      exact q
    · refine r_iln rfl rfl rfl ?_
      exact r_reti H rfl rfl ⟨Nat.zero_le _, Nat.zero_le _⟩
def f_X6_round (a0 : Nat) : M Int32 := bnd (cv 5 a0 (f_X6_ahead a0 (60 : Int32))) fun t1 => bnd (gR 5 1 a0) fun r3 => bnd (gR 4 0 r3) fun r4 => bnd (cv 0 r4 (f_X0_copyFrom r4 t1)) fun _ => loopK NF (fun (s7 : Int32) k8 => if (60 : Int32) < s7 then rt (-9 : Int32) else bnd (cv 0 t1 (f_X0_passWeek t1)) fun t9 => bnd (gR 5 1 a0) fun r11 => bnd (gR 4 0 r11) fun r12 => bnd (cv 0 t1 (f_X0_unlike t1 r12)) fun t13 => if ¬ t13 = (0 : Int32) then k8 (s7 + (1 : Int32)) else rt s7) (1 : Int32)
set_option maxRecDepth 20000 in
theorem s_X6_round (a0 : Nat) : Sm eX6_round [.ref a0] eI (f_X6_round a0) := by
  intro hp vr hr H
  unfold f_X6_round at H
  show Rn none 0 0 eX6_round 0 [some (.ref a0), none, none] [] hp (eI vr, hr)
  refine r_aln rfl rfl rfl ?_
  refine r_bi (v := 60) rfl cb_60 ?_
  refine r_vtR (rest := []) H rfl rfl rfl (s_X6_ahead a0 (60 : Int32)) rfl rfl ⟨rfl, rfl⟩ rfl (fun t1 h2 H => ?_)
  refine r_asn (L' := [some (.ref a0), some (.ref t1), none]) rfl rfl (Nat.le_of_ble_eq_true rfl) rfl ?_
  refine r_aln rfl rfl rfl ?_
  refine r_gR H rfl kd_5_1 (fun r3 H => ?_)
  refine r_gR H rfl kd_4_0 (fun r4 H => ?_)
  refine r_aln rfl rfl rfl ?_
  refine r_vtU (rest := []) H rfl rfl rfl (s_X0_copyFrom r4 t1) rfl rfl ⟨rfl, rfl⟩ rfl (fun t5 h6 H => ?_)
  refine r_ic (v := 1) rfl ci_1 ?_
  refine r_isn (L' := [some (.ref a0), some (.ref t1), some (.int (1 : Int32))]) rfl rfl (Nat.le_of_ble_eq_true rfl) rfl ?_
  refine (r_loop (P := (fun (s7 : Int32) hq => Rn none 0 0 eX6_round 11 [some (.ref a0), some (.ref t1), some (.int s7)] [] hq (eI vr, hr))) ?_ NF _ _ H)
  intro k8 K8 s7 hs7 H 
  refine r_iln rfl rfl rfl ?_
  refine r_bi (v := 60) rfl cb_60 ?_
  refine r_cmp H rfl rfl (fun H => ?_) (fun H => ?_)
  · refine r_bi (v := -9) rfl cb_m9 ?_
    exact r_reti H rfl rfl ⟨Nat.zero_le _, Nat.zero_le _⟩
  · refine r_aln rfl rfl rfl ?_
    refine r_vtI (rest := []) H rfl rfl rfl (s_X0_passWeek t1) rfl rfl ⟨rfl, rfl⟩ rfl (fun t9 h10 H => ?_)
    refine r_popi rfl ?_
    refine r_aln rfl rfl rfl ?_
    refine r_aln rfl rfl rfl ?_
    refine r_gR H rfl kd_5_1 (fun r11 H => ?_)
    refine r_gR H rfl kd_4_0 (fun r12 H => ?_)
    refine r_vtI (rest := []) H rfl rfl rfl (s_X0_unlike t1 r12) rfl rfl ⟨rfl, rfl⟩ rfl (fun t13 h14 H => ?_)
    refine r_if H rfl rfl (fun H => ?_) (fun H => ?_)
    · refine r_inc (v := 1) (L' := [some (.ref a0), some (.ref t1), some (.int (s7 + (1 : Int32)))]) rfl rfl ci_1 rfl ?_
      refine r_go rfl ?_
      have q := K8 _ _ H
      exact q
    · refine r_iln rfl rfl rfl ?_
      exact r_reti H rfl rfl ⟨Nat.zero_le _, Nat.zero_le _⟩
def f_X6_knows (a0 : Nat) (a1 : Int32) : M Int32 := bnd (cv 5 a0 (f_X6_noPerson a0 a1)) fun t1 => if t1 = (0 : Int32) then bnd (gR 5 0 a0) fun r3 => bnd (gR 4 0 r3) fun r4 => bnd (gR 0 6 r4) fun r5 => bnd (aI r5 a1) fun t6 => bnd (gR 0 5 r4) fun r7 => bnd (aI r7 a1) fun t8 => if ¬ t6 = t8 then bnd (cv 0 r4 (f_X0_others r4 a1)) fun t9 => loopK NF (fun (s11 : Int32 × Int32) k12 => if t9 < s11.2 then rt s11.1 else jn (fun k15 => if ¬ (s11.2 &&& (t9 ^^^ (-1 : Int32))) = (0 : Int32) then k15 (0 : Int32) else bnd (gR 0 5 r4) fun r18 => bnd (aI r18 a1) fun t19 => bnd (cv 0 r4 (f_X0_mean r4 s11.2 t19)) fun t20 => bnd (gR 0 5 r4) fun r22 => bnd (aI r22 a1) fun t23 => if ¬ t20 = t23 then k15 (0 : Int32) else k15 (1 : Int32)) (fun (s14 : Int32) => if s14 = (0 : Int32) then k12 (s11.1, (s11.2 + (1 : Int32))) else if s11.1 = (-9 : Int32) then k12 (s11.2, (s11.2 + (1 : Int32))) else bnd (f_X6_fewer s11.2 s11.1) fun t16 => if t16 = (0 : Int32) then k12 (s11.1, (s11.2 + (1 : Int32))) else k12 (s11.2, (s11.2 + (1 : Int32))))) ((-9 : Int32), (1 : Int32)) else rt (0 : Int32) else bnd (cv 5 a0 (f_X6_refuse a0 t1)) fun t24 => rt t24
set_option maxRecDepth 20000 in
theorem s_X6_knows (a0 : Nat) (a1 : Int32) : Sm eX6_knows [.ref a0, .int a1] eI (f_X6_knows a0 a1) := by
  intro hp vr hr H
  unfold f_X6_knows at H
  show Rn none 0 0 eX6_knows 0 [some (.ref a0), some (.int a1), none, none, none, none, none, none] [] hp (eI vr, hr)
  refine r_aln rfl rfl rfl ?_
  refine r_iln rfl rfl rfl ?_
  refine r_vtI (rest := []) H rfl rfl rfl (s_X6_noPerson a0 a1) rfl rfl ⟨rfl, rfl⟩ rfl (fun t1 h2 H => ?_)
  refine r_isn (L' := [some (.ref a0), some (.int a1), some (.int t1), none, none, none, none, none]) rfl rfl (Nat.le_of_ble_eq_true rfl) rfl ?_
  refine r_iln rfl rfl rfl ?_
  refine r_if H rfl rfl (fun H => ?_) (fun H => ?_)
  · refine r_aln rfl rfl rfl ?_
    refine r_gR H rfl kd_5_0 (fun r3 H => ?_)
    refine r_gR H rfl kd_4_0 (fun r4 H => ?_)
    refine r_asn (L' := [some (.ref a0), some (.int a1), some (.int t1), some (.ref r4), none, none, none, none]) rfl rfl (Nat.le_of_ble_eq_true rfl) rfl ?_
    refine r_aln rfl rfl rfl ?_
    refine r_gR H rfl kd_0_6 (fun r5 H => ?_)
    refine r_iln rfl rfl rfl ?_
    refine r_aI' H rfl (fun t6 H => ?_)
    refine r_aln rfl rfl rfl ?_
    refine r_gR H rfl kd_0_5 (fun r7 H => ?_)
    refine r_iln rfl rfl rfl ?_
    refine r_aI' H rfl (fun t8 H => ?_)
    refine r_cmp H rfl rfl (fun H => ?_) (fun H => ?_)
    · refine r_bi (v := -9) rfl cb_m9 ?_
      refine r_is (L' := [some (.ref a0), some (.int a1), some (.int t1), some (.ref r4), some (.int (-9 : Int32)), none, none, none]) rfl (Nat.le_of_ble_eq_true rfl) rfl ?_
      refine r_aln rfl rfl rfl ?_
      refine r_iln rfl rfl rfl ?_
      refine r_vtI (rest := []) H rfl rfl rfl (s_X0_others r4 a1) rfl rfl ⟨rfl, rfl⟩ rfl (fun t9 h10 H => ?_)
      refine r_is (L' := [some (.ref a0), some (.int a1), some (.int t1), some (.ref r4), some (.int (-9 : Int32)), some (.int t9), none, none]) rfl (Nat.le_of_ble_eq_true rfl) rfl ?_
      refine r_ic (v := 1) rfl ci_1 ?_
      refine r_is (L' := [some (.ref a0), some (.int a1), some (.int t1), some (.ref r4), some (.int (-9 : Int32)), some (.int t9), some (.int (1 : Int32)), none]) rfl (Nat.le_of_ble_eq_true rfl) rfl ?_
      refine (r_loop (P := (fun (s11 : Int32 × Int32) hq => ∀ ys11_0 : Int32, ∀ ys11_1 : Int32, s11 = (ys11_0, ys11_1) → ∀ x13 : Option Value, Rn none 0 0 eX6_knows 33 [some (.ref a0), some (.int a1), some (.int t1), some (.ref r4), some (.int ys11_0), some (.int t9), some (.int ys11_1), x13] [] hq (eI vr, hr))) ?_ NF _ _ H) _ _ rfl _
      intro k12 K12 s11 hs11 H ys11_0 ys11_1 es11 x13
      subst es11
      refine r_il rfl rfl ?_
      refine r_il rfl rfl ?_
      refine r_cmp H rfl rfl (fun H => ?_) (fun H => ?_)
      · refine r_il rfl rfl ?_
        exact r_reti H rfl rfl ⟨Nat.zero_le _, Nat.zero_le _⟩
      · refine r_il rfl rfl ?_
        refine r_il rfl rfl ?_
        refine r_ic (v := -1) rfl ci_m1 ?_
        refine r_xor rfl ?_
        refine r_and rfl ?_
        refine r_jn (P := (fun (s14 : Int32) hq => Rn none 0 0 eX6_knows 57 [some (.ref a0), some (.int a1), some (.int t1), some (.ref r4), some (.int ys11_0), some (.int t9), some (.int ys11_1), x13] [.int s14] hq (eI vr, hr))) H (fun s14 hs14 H  => ?_) (fun k15 K15 H => ?_)
        · refine r_is (L' := [some (.ref a0), some (.int a1), some (.int t1), some (.ref r4), some (.int ys11_0), some (.int t9), some (.int ys11_1), some (.int s14)]) rfl (Nat.le_of_ble_eq_true rfl) rfl ?_
          refine r_il rfl rfl ?_
          refine r_if H rfl rfl (fun H => ?_) (fun H => ?_)
          · refine r_inc (v := 1) (L' := [some (.ref a0), some (.int a1), some (.int t1), some (.ref r4), some (.int ys11_0), some (.int t9), some (.int (ys11_1 + (1 : Int32))), some (.int s14)]) rfl rfl ci_1 rfl ?_
            refine r_go rfl ?_
            have q := K12 _ _ H _ _ rfl
            exact q _
          · refine r_il rfl rfl ?_
            refine r_bi (v := -9) rfl cb_m9 ?_
            refine r_cmp H rfl rfl (fun H => ?_) (fun H => ?_)
            · refine r_il rfl rfl ?_
              refine r_is (L' := [some (.ref a0), some (.int a1), some (.int t1), some (.ref r4), some (.int ys11_1), some (.int t9), some (.int ys11_1), some (.int s14)]) rfl (Nat.le_of_ble_eq_true rfl) rfl ?_
              refine r_inc (v := 1) (L' := [some (.ref a0), some (.int a1), some (.int t1), some (.ref r4), some (.int ys11_1), some (.int t9), some (.int (ys11_1 + (1 : Int32))), some (.int s14)]) rfl rfl ci_1 rfl ?_
              refine r_go rfl ?_
              have q := K12 _ _ H _ _ rfl
              exact q _
            · refine r_il rfl rfl ?_
              refine r_il rfl rfl ?_
              refine r_stI (rest := []) H rfl rfl (s_X6_fewer ys11_1 ys11_0) rfl rfl ⟨rfl, rfl⟩ rfl (fun t16 h17 H => ?_)
              refine r_if H rfl rfl (fun H => ?_) (fun H => ?_)
              · refine r_inc (v := 1) (L' := [some (.ref a0), some (.int a1), some (.int t1), some (.ref r4), some (.int ys11_0), some (.int t9), some (.int (ys11_1 + (1 : Int32))), some (.int s14)]) rfl rfl ci_1 rfl ?_
                refine r_go rfl ?_
                have q := K12 _ _ H _ _ rfl
                exact q _
              · refine r_il rfl rfl ?_
                refine r_is (L' := [some (.ref a0), some (.int a1), some (.int t1), some (.ref r4), some (.int ys11_1), some (.int t9), some (.int ys11_1), some (.int s14)]) rfl (Nat.le_of_ble_eq_true rfl) rfl ?_
                refine r_inc (v := 1) (L' := [some (.ref a0), some (.int a1), some (.int t1), some (.ref r4), some (.int ys11_1), some (.int t9), some (.int (ys11_1 + (1 : Int32))), some (.int s14)]) rfl rfl ci_1 rfl ?_
                refine r_go rfl ?_
                have q := K12 _ _ H _ _ rfl
                exact q _
        · refine r_if H rfl rfl (fun H => ?_) (fun H => ?_)
          · refine r_ic (v := 0) rfl ci_0 ?_
            have q := K15 _ _ H
            exact q
          · refine r_aln rfl rfl rfl ?_
            refine r_il rfl rfl ?_
            refine r_aln rfl rfl rfl ?_
            refine r_gR H rfl kd_0_5 (fun r18 H => ?_)
            refine r_iln rfl rfl rfl ?_
            refine r_aI' H rfl (fun t19 H => ?_)
            refine r_vtI (rest := []) H rfl rfl rfl (s_X0_mean r4 ys11_1 t19) rfl rfl ⟨rfl, rfl⟩ rfl (fun t20 h21 H => ?_)
            refine r_aln rfl rfl rfl ?_
            refine r_gR H rfl kd_0_5 (fun r22 H => ?_)
            refine r_iln rfl rfl rfl ?_
            refine r_aI' H rfl (fun t23 H => ?_)
            refine r_cmp H rfl rfl (fun H => ?_) (fun H => ?_)
            · refine r_ic (v := 0) rfl ci_0 ?_
              have q := K15 _ _ H
              exact q
            · refine r_ic (v := 1) rfl ci_1 ?_
              refine r_go rfl ?_
              have q := K15 _ _ H
              exact q
    · refine r_ic (v := 0) rfl ci_0 ?_
      exact r_reti H rfl rfl ⟨Nat.zero_le _, Nat.zero_le _⟩
  · refine r_aln rfl rfl rfl ?_
    refine r_iln rfl rfl rfl ?_
    refine r_vtI (rest := []) H rfl rfl rfl (s_X6_refuse a0 t1) rfl rfl ⟨rfl, rfl⟩ rfl (fun t24 h25 H => ?_)
    exact r_reti H rfl rfl ⟨Nat.zero_le _, Nat.zero_le _⟩
def f_X6_errorBySet (a0 : Nat) (a1 : Int32) (a2 : Int32) : M Int32 := bnd (gR 5 0 a0) fun r1 => bnd (gR 4 0 r1) fun r2 => bnd (gR 0 5 r2) fun r3 => bnd (aI r3 a1) fun t4 => bnd (gR 5 0 a0) fun r5 => bnd (gR 4 0 r5) fun r6 => bnd (cv 0 r6 (f_X0_mean r6 a2 t4)) fun t7 => rt (mabs (t7 - t4))
set_option maxRecDepth 20000 in
theorem s_X6_errorBySet (a0 : Nat) (a1 : Int32) (a2 : Int32) : Sm eX6_errorBySet [.ref a0, .int a1, .int a2] eI (f_X6_errorBySet a0 a1 a2) := by
  intro hp vr hr H
  unfold f_X6_errorBySet at H
  show Rn none 0 0 eX6_errorBySet 0 [some (.ref a0), some (.int a1), some (.int a2), none] [] hp (eI vr, hr)
  refine r_aln rfl rfl rfl ?_
  refine r_gR H rfl kd_5_0 (fun r1 H => ?_)
  refine r_gR H rfl kd_4_0 (fun r2 H => ?_)
  refine r_gR H rfl kd_0_5 (fun r3 H => ?_)
  refine r_iln rfl rfl rfl ?_
  refine r_aI' H rfl (fun t4 H => ?_)
  refine r_isn (L' := [some (.ref a0), some (.int a1), some (.int a2), some (.int t4)]) rfl rfl (Nat.le_of_ble_eq_true rfl) rfl ?_
  refine r_aln rfl rfl rfl ?_
  refine r_gR H rfl kd_5_0 (fun r5 H => ?_)
  refine r_gR H rfl kd_4_0 (fun r6 H => ?_)
  refine r_iln rfl rfl rfl ?_
  refine r_iln rfl rfl rfl ?_
  refine r_vtI (rest := []) H rfl rfl rfl (s_X0_mean r6 a2 t4) rfl rfl ⟨rfl, rfl⟩ rfl (fun t7 h8 H => ?_)
  refine r_iln rfl rfl rfl ?_
  refine r_sub rfl ?_
  refine r_abs rfl rfl (Nat.le_of_ble_eq_true rfl) rfl ?_
  exact r_reti H rfl rfl ⟨Nat.zero_le _, Nat.zero_le _⟩
def f_X6_nearest (a0 : Nat) (a1 : Int32) (a2 : Int32) : M Int32 := bnd (cv 5 a0 (f_X6_noPerson a0 a1)) fun t1 => bnd (f_X6_noChoice a2 (2 : Int32)) fun t3 => bnd (f_X6_first t1 t3) fun t5 => if t5 = (0 : Int32) then bnd (gR 5 0 a0) fun r7 => bnd (gR 4 0 r7) fun r8 => bnd (cv 0 r8 (f_X0_others r8 a1)) fun t9 => loopK NF (fun (s11 : Int32 × Int32 × Int32) k12 => if t9 < s11.2.2 then if ¬ a2 = (0 : Int32) then rt s11.2.1 else rt s11.1 else if (s11.2.2 &&& (t9 ^^^ (-1 : Int32))) = (0 : Int32) then bnd (cv 5 a0 (f_X6_errorBySet a0 a1 s11.2.2)) fun t14 => if s11.1 = (-9 : Int32) then k12 (s11.2.2, t14, (s11.2.2 + (1 : Int32))) else if t14 < s11.2.1 then k12 (s11.2.2, t14, (s11.2.2 + (1 : Int32))) else if ¬ t14 = s11.2.1 then k12 (s11.1, s11.2.1, (s11.2.2 + (1 : Int32))) else bnd (f_X6_fewer s11.2.2 s11.1) fun t16 => if t16 = (0 : Int32) then k12 (s11.1, s11.2.1, (s11.2.2 + (1 : Int32))) else k12 (s11.2.2, t14, (s11.2.2 + (1 : Int32))) else k12 (s11.1, s11.2.1, (s11.2.2 + (1 : Int32)))) ((-9 : Int32), (-9 : Int32), (1 : Int32)) else bnd (cv 5 a0 (f_X6_refuse a0 t5)) fun t18 => rt t18
set_option maxRecDepth 20000 in
theorem s_X6_nearest (a0 : Nat) (a1 : Int32) (a2 : Int32) : Sm eX6_nearest [.ref a0, .int a1, .int a2] eI (f_X6_nearest a0 a1 a2) := by
  intro hp vr hr H
  unfold f_X6_nearest at H
  show Rn none 0 0 eX6_nearest 0 [some (.ref a0), some (.int a1), some (.int a2), none, none, none, none, none, none] [] hp (eI vr, hr)
  refine r_aln rfl rfl rfl ?_
  refine r_iln rfl rfl rfl ?_
  refine r_vtI (rest := []) H rfl rfl rfl (s_X6_noPerson a0 a1) rfl rfl ⟨rfl, rfl⟩ rfl (fun t1 h2 H => ?_)
  refine r_iln rfl rfl rfl ?_
  refine r_ic (v := 2) rfl ci_2 ?_
  refine r_stI (rest := [.int t1]) H rfl rfl (s_X6_noChoice a2 (2 : Int32)) rfl rfl ⟨rfl, rfl⟩ rfl (fun t3 h4 H => ?_)
  refine r_stI (rest := []) H rfl rfl (s_X6_first t1 t3) rfl rfl ⟨rfl, rfl⟩ rfl (fun t5 h6 H => ?_)
  refine r_isn (L' := [some (.ref a0), some (.int a1), some (.int a2), some (.int t5), none, none, none, none, none]) rfl rfl (Nat.le_of_ble_eq_true rfl) rfl ?_
  refine r_iln rfl rfl rfl ?_
  refine r_if H rfl rfl (fun H => ?_) (fun H => ?_)
  · refine r_bi (v := -9) rfl cb_m9 ?_
    refine r_is (L' := [some (.ref a0), some (.int a1), some (.int a2), some (.int t5), some (.int (-9 : Int32)), none, none, none, none]) rfl (Nat.le_of_ble_eq_true rfl) rfl ?_
    refine r_bi (v := -9) rfl cb_m9 ?_
    refine r_is (L' := [some (.ref a0), some (.int a1), some (.int a2), some (.int t5), some (.int (-9 : Int32)), some (.int (-9 : Int32)), none, none, none]) rfl (Nat.le_of_ble_eq_true rfl) rfl ?_
    refine r_aln rfl rfl rfl ?_
    refine r_gR H rfl kd_5_0 (fun r7 H => ?_)
    refine r_gR H rfl kd_4_0 (fun r8 H => ?_)
    refine r_iln rfl rfl rfl ?_
    refine r_vtI (rest := []) H rfl rfl rfl (s_X0_others r8 a1) rfl rfl ⟨rfl, rfl⟩ rfl (fun t9 h10 H => ?_)
    refine r_is (L' := [some (.ref a0), some (.int a1), some (.int a2), some (.int t5), some (.int (-9 : Int32)), some (.int (-9 : Int32)), some (.int t9), none, none]) rfl (Nat.le_of_ble_eq_true rfl) rfl ?_
    refine r_ic (v := 1) rfl ci_1 ?_
    refine r_is (L' := [some (.ref a0), some (.int a1), some (.int a2), some (.int t5), some (.int (-9 : Int32)), some (.int (-9 : Int32)), some (.int t9), some (.int (1 : Int32)), none]) rfl (Nat.le_of_ble_eq_true rfl) rfl ?_
    refine (r_loop (P := (fun (s11 : Int32 × Int32 × Int32) hq => ∀ ys11_0 : Int32, ∀ ys11_1 : Int32, ∀ ys11_2 : Int32, s11 = (ys11_0, ys11_1, ys11_2) → ∀ x13 : Option Value, Rn none 0 0 eX6_nearest 26 [some (.ref a0), some (.int a1), some (.int a2), some (.int t5), some (.int ys11_0), some (.int ys11_1), some (.int t9), some (.int ys11_2), x13] [] hq (eI vr, hr))) ?_ NF _ _ H) _ _ _ rfl _
    intro k12 K12 s11 hs11 H ys11_0 ys11_1 ys11_2 es11 x13
    subst es11
    refine r_il rfl rfl ?_
    refine r_il rfl rfl ?_
    refine r_cmp H rfl rfl (fun H => ?_) (fun H => ?_)
    · refine r_iln rfl rfl rfl ?_
      refine r_if H rfl rfl (fun H => ?_) (fun H => ?_)
      · refine r_il rfl rfl ?_
        exact r_reti H rfl rfl ⟨Nat.zero_le _, Nat.zero_le _⟩
      · refine r_il rfl rfl ?_
        refine r_go rfl ?_
        exact r_reti H rfl rfl ⟨Nat.zero_le _, Nat.zero_le _⟩
    · refine r_il rfl rfl ?_
      refine r_il rfl rfl ?_
      refine r_ic (v := -1) rfl ci_m1 ?_
      refine r_xor rfl ?_
      refine r_and rfl ?_
      refine r_if H rfl rfl (fun H => ?_) (fun H => ?_)
      · refine r_aln rfl rfl rfl ?_
        refine r_iln rfl rfl rfl ?_
        refine r_il rfl rfl ?_
        refine r_vtI (rest := []) H rfl rfl rfl (s_X6_errorBySet a0 a1 ys11_2) rfl rfl ⟨rfl, rfl⟩ rfl (fun t14 h15 H => ?_)
        refine r_is (L' := [some (.ref a0), some (.int a1), some (.int a2), some (.int t5), some (.int ys11_0), some (.int ys11_1), some (.int t9), some (.int ys11_2), some (.int t14)]) rfl (Nat.le_of_ble_eq_true rfl) rfl ?_
        refine r_il rfl rfl ?_
        refine r_bi (v := -9) rfl cb_m9 ?_
        refine r_cmp H rfl rfl (fun H => ?_) (fun H => ?_)
        · refine r_il rfl rfl ?_
          refine r_is (L' := [some (.ref a0), some (.int a1), some (.int a2), some (.int t5), some (.int ys11_2), some (.int ys11_1), some (.int t9), some (.int ys11_2), some (.int t14)]) rfl (Nat.le_of_ble_eq_true rfl) rfl ?_
          refine r_il rfl rfl ?_
          refine r_is (L' := [some (.ref a0), some (.int a1), some (.int a2), some (.int t5), some (.int ys11_2), some (.int t14), some (.int t9), some (.int ys11_2), some (.int t14)]) rfl (Nat.le_of_ble_eq_true rfl) rfl ?_
          refine r_inc (v := 1) (L' := [some (.ref a0), some (.int a1), some (.int a2), some (.int t5), some (.int ys11_2), some (.int t14), some (.int t9), some (.int (ys11_2 + (1 : Int32))), some (.int t14)]) rfl rfl ci_1 rfl ?_
          refine r_go rfl ?_
          have q := K12 _ _ H _ _ _ rfl
          exact q _
        · refine r_il rfl rfl ?_
          refine r_il rfl rfl ?_
          refine r_cmp H rfl rfl (fun H => ?_) (fun H => ?_)
          · refine r_il rfl rfl ?_
            refine r_is (L' := [some (.ref a0), some (.int a1), some (.int a2), some (.int t5), some (.int ys11_2), some (.int ys11_1), some (.int t9), some (.int ys11_2), some (.int t14)]) rfl (Nat.le_of_ble_eq_true rfl) rfl ?_
            refine r_il rfl rfl ?_
            refine r_is (L' := [some (.ref a0), some (.int a1), some (.int a2), some (.int t5), some (.int ys11_2), some (.int t14), some (.int t9), some (.int ys11_2), some (.int t14)]) rfl (Nat.le_of_ble_eq_true rfl) rfl ?_
            refine r_inc (v := 1) (L' := [some (.ref a0), some (.int a1), some (.int a2), some (.int t5), some (.int ys11_2), some (.int t14), some (.int t9), some (.int (ys11_2 + (1 : Int32))), some (.int t14)]) rfl rfl ci_1 rfl ?_
            refine r_go rfl ?_
            have q := K12 _ _ H _ _ _ rfl
            exact q _
          · refine r_il rfl rfl ?_
            refine r_il rfl rfl ?_
            refine r_cmp H rfl rfl (fun H => ?_) (fun H => ?_)
            · refine r_inc (v := 1) (L' := [some (.ref a0), some (.int a1), some (.int a2), some (.int t5), some (.int ys11_0), some (.int ys11_1), some (.int t9), some (.int (ys11_2 + (1 : Int32))), some (.int t14)]) rfl rfl ci_1 rfl ?_
              refine r_go rfl ?_
              have q := K12 _ _ H _ _ _ rfl
              exact q _
            · refine r_il rfl rfl ?_
              refine r_il rfl rfl ?_
              refine r_stI (rest := []) H rfl rfl (s_X6_fewer ys11_2 ys11_0) rfl rfl ⟨rfl, rfl⟩ rfl (fun t16 h17 H => ?_)
              refine r_if H rfl rfl (fun H => ?_) (fun H => ?_)
              · refine r_inc (v := 1) (L' := [some (.ref a0), some (.int a1), some (.int a2), some (.int t5), some (.int ys11_0), some (.int ys11_1), some (.int t9), some (.int (ys11_2 + (1 : Int32))), some (.int t14)]) rfl rfl ci_1 rfl ?_
                refine r_go rfl ?_
                have q := K12 _ _ H _ _ _ rfl
                exact q _
              · refine r_il rfl rfl ?_
                refine r_is (L' := [some (.ref a0), some (.int a1), some (.int a2), some (.int t5), some (.int ys11_2), some (.int ys11_1), some (.int t9), some (.int ys11_2), some (.int t14)]) rfl (Nat.le_of_ble_eq_true rfl) rfl ?_
                refine r_il rfl rfl ?_
                refine r_is (L' := [some (.ref a0), some (.int a1), some (.int a2), some (.int t5), some (.int ys11_2), some (.int t14), some (.int t9), some (.int ys11_2), some (.int t14)]) rfl (Nat.le_of_ble_eq_true rfl) rfl ?_
                refine r_inc (v := 1) (L' := [some (.ref a0), some (.int a1), some (.int a2), some (.int t5), some (.int ys11_2), some (.int t14), some (.int t9), some (.int (ys11_2 + (1 : Int32))), some (.int t14)]) rfl rfl ci_1 rfl ?_
                refine r_go rfl ?_
                have q := K12 _ _ H _ _ _ rfl
                exact q _
      · refine r_go rfl ?_
        refine r_inc (v := 1) (L' := [some (.ref a0), some (.int a1), some (.int a2), some (.int t5), some (.int ys11_0), some (.int ys11_1), some (.int t9), some (.int (ys11_2 + (1 : Int32))), x13]) rfl rfl ci_1 rfl ?_
        refine r_go rfl ?_
        have q := K12 _ _ H _ _ _ rfl
        exact q _
  · refine r_aln rfl rfl rfl ?_
    refine r_iln rfl rfl rfl ?_
    refine r_vtI (rest := []) H rfl rfl rfl (s_X6_refuse a0 t5) rfl rfl ⟨rfl, rfl⟩ rfl (fun t18 h19 H => ?_)
    exact r_reti H rfl rfl ⟨Nat.zero_le _, Nat.zero_le _⟩
def f_X6_fair (a0 : Nat) (a1 : Int32) (a2 : Int32) (a3 : Int32) : M Int32 := bnd (cv 5 a0 (f_X6_noPerson a0 a1)) fun t1 => bnd (f_X6_outside_ a3 (99 : Int32) a2 (1 : Int32) (6 : Int32)) fun t3 => bnd (f_X6_first t1 t3) fun t5 => if t5 = (0 : Int32) then bnd (gR 5 0 a0) fun r7 => bnd (gR 4 0 r7) fun r8 => bnd (cv 0 r8 (f_X0_others r8 a1)) fun t9 => loopK NF (fun (s11 : Int32 × Int32) k12 => if t9 < s11.2 then rt s11.1 else jn (fun k15 => if ¬ (s11.2 &&& (t9 ^^^ (-1 : Int32))) = (0 : Int32) then k15 (0 : Int32) else bnd (f_J6_bitCount_0f7a4 s11.2) fun t18 => if ¬ t18 = a2 then k15 (0 : Int32) else k15 (1 : Int32)) (fun (s14 : Int32) => if s14 = (0 : Int32) then k12 (s11.1, (s11.2 + (1 : Int32))) else bnd (cv 5 a0 (f_X6_errorBySet a0 a1 s11.2)) fun t16 => if a3 < t16 then k12 (s11.1, (s11.2 + (1 : Int32))) else k12 ((s11.1 + (1 : Int32)), (s11.2 + (1 : Int32))))) ((0 : Int32), (1 : Int32)) else bnd (cv 5 a0 (f_X6_refuse a0 t5)) fun t20 => rt t20
set_option maxRecDepth 20000 in
theorem s_X6_fair (a0 : Nat) (a1 : Int32) (a2 : Int32) (a3 : Int32) : Sm eX6_fair [.ref a0, .int a1, .int a2, .int a3] eI (f_X6_fair a0 a1 a2 a3) := by
  intro hp vr hr H
  unfold f_X6_fair at H
  show Rn none 0 0 eX6_fair 0 [some (.ref a0), some (.int a1), some (.int a2), some (.int a3), none, none, none, none, none] [] hp (eI vr, hr)
  refine r_aln rfl rfl rfl ?_
  refine r_iln rfl rfl rfl ?_
  refine r_vtI (rest := []) H rfl rfl rfl (s_X6_noPerson a0 a1) rfl rfl ⟨rfl, rfl⟩ rfl (fun t1 h2 H => ?_)
  refine r_iln rfl rfl rfl ?_
  refine r_bi (v := 99) rfl cb_99 ?_
  refine r_iln rfl rfl rfl ?_
  refine r_ic (v := 1) rfl ci_1 ?_
  refine r_bi (v := 6) rfl cb_6 ?_
  refine r_stI (rest := [.int t1]) H rfl rfl (s_X6_outside_ a3 (99 : Int32) a2 (1 : Int32) (6 : Int32)) rfl rfl ⟨rfl, rfl⟩ rfl (fun t3 h4 H => ?_)
  refine r_stI (rest := []) H rfl rfl (s_X6_first t1 t3) rfl rfl ⟨rfl, rfl⟩ rfl (fun t5 h6 H => ?_)
  refine r_is (L' := [some (.ref a0), some (.int a1), some (.int a2), some (.int a3), some (.int t5), none, none, none, none]) rfl (Nat.le_of_ble_eq_true rfl) rfl ?_
  refine r_il rfl rfl ?_
  refine r_if H rfl rfl (fun H => ?_) (fun H => ?_)
  · refine r_ic (v := 0) rfl ci_0 ?_
    refine r_is (L' := [some (.ref a0), some (.int a1), some (.int a2), some (.int a3), some (.int t5), some (.int (0 : Int32)), none, none, none]) rfl (Nat.le_of_ble_eq_true rfl) rfl ?_
    refine r_aln rfl rfl rfl ?_
    refine r_gR H rfl kd_5_0 (fun r7 H => ?_)
    refine r_gR H rfl kd_4_0 (fun r8 H => ?_)
    refine r_iln rfl rfl rfl ?_
    refine r_vtI (rest := []) H rfl rfl rfl (s_X0_others r8 a1) rfl rfl ⟨rfl, rfl⟩ rfl (fun t9 h10 H => ?_)
    refine r_is (L' := [some (.ref a0), some (.int a1), some (.int a2), some (.int a3), some (.int t5), some (.int (0 : Int32)), some (.int t9), none, none]) rfl (Nat.le_of_ble_eq_true rfl) rfl ?_
    refine r_ic (v := 1) rfl ci_1 ?_
    refine r_is (L' := [some (.ref a0), some (.int a1), some (.int a2), some (.int a3), some (.int t5), some (.int (0 : Int32)), some (.int t9), some (.int (1 : Int32)), none]) rfl (Nat.le_of_ble_eq_true rfl) rfl ?_
    refine (r_loop (P := (fun (s11 : Int32 × Int32) hq => ∀ ys11_0 : Int32, ∀ ys11_1 : Int32, s11 = (ys11_0, ys11_1) → ∀ x13 : Option Value, Rn none 0 0 eX6_fair 27 [some (.ref a0), some (.int a1), some (.int a2), some (.int a3), some (.int t5), some (.int ys11_0), some (.int t9), some (.int ys11_1), x13] [] hq (eI vr, hr))) ?_ NF _ _ H) _ _ rfl _
    intro k12 K12 s11 hs11 H ys11_0 ys11_1 es11 x13
    subst es11
    refine r_il rfl rfl ?_
    refine r_il rfl rfl ?_
    refine r_cmp H rfl rfl (fun H => ?_) (fun H => ?_)
    · refine r_il rfl rfl ?_
      exact r_reti H rfl rfl ⟨Nat.zero_le _, Nat.zero_le _⟩
    · refine r_il rfl rfl ?_
      refine r_il rfl rfl ?_
      refine r_ic (v := -1) rfl ci_m1 ?_
      refine r_xor rfl ?_
      refine r_and rfl ?_
      refine r_jn (P := (fun (s14 : Int32) hq => Rn none 0 0 eX6_fair 43 [some (.ref a0), some (.int a1), some (.int a2), some (.int a3), some (.int t5), some (.int ys11_0), some (.int t9), some (.int ys11_1), x13] [.int s14] hq (eI vr, hr))) H (fun s14 hs14 H  => ?_) (fun k15 K15 H => ?_)
      · refine r_is (L' := [some (.ref a0), some (.int a1), some (.int a2), some (.int a3), some (.int t5), some (.int ys11_0), some (.int t9), some (.int ys11_1), some (.int s14)]) rfl (Nat.le_of_ble_eq_true rfl) rfl ?_
        refine r_il rfl rfl ?_
        refine r_if H rfl rfl (fun H => ?_) (fun H => ?_)
        · refine r_inc (v := 1) (L' := [some (.ref a0), some (.int a1), some (.int a2), some (.int a3), some (.int t5), some (.int ys11_0), some (.int t9), some (.int (ys11_1 + (1 : Int32))), some (.int s14)]) rfl rfl ci_1 rfl ?_
          refine r_go rfl ?_
          have q := K12 _ _ H _ _ rfl
          exact q _
        · refine r_aln rfl rfl rfl ?_
          refine r_iln rfl rfl rfl ?_
          refine r_il rfl rfl ?_
          refine r_vtI (rest := []) H rfl rfl rfl (s_X6_errorBySet a0 a1 ys11_1) rfl rfl ⟨rfl, rfl⟩ rfl (fun t16 h17 H => ?_)
          refine r_iln rfl rfl rfl ?_
          refine r_cmp H rfl rfl (fun H => ?_) (fun H => ?_)
          · refine r_inc (v := 1) (L' := [some (.ref a0), some (.int a1), some (.int a2), some (.int a3), some (.int t5), some (.int ys11_0), some (.int t9), some (.int (ys11_1 + (1 : Int32))), some (.int s14)]) rfl rfl ci_1 rfl ?_
            refine r_go rfl ?_
            have q := K12 _ _ H _ _ rfl
            exact q _
          · refine r_inc (v := 1) (L' := [some (.ref a0), some (.int a1), some (.int a2), some (.int a3), some (.int t5), some (.int (ys11_0 + (1 : Int32))), some (.int t9), some (.int ys11_1), some (.int s14)]) rfl rfl ci_1 rfl ?_
            refine r_inc (v := 1) (L' := [some (.ref a0), some (.int a1), some (.int a2), some (.int a3), some (.int t5), some (.int (ys11_0 + (1 : Int32))), some (.int t9), some (.int (ys11_1 + (1 : Int32))), some (.int s14)]) rfl rfl ci_1 rfl ?_
            refine r_go rfl ?_
            have q := K12 _ _ H _ _ rfl
            exact q _
      · refine r_if H rfl rfl (fun H => ?_) (fun H => ?_)
        · refine r_ic (v := 0) rfl ci_0 ?_
          have q := K15 _ _ H
          exact q
        · refine r_il rfl rfl ?_
          refine r_stI (rest := []) H rfl rfl (s_J6_bitCount_0f7a4 ys11_1) rfl rfl ⟨rfl, rfl⟩ rfl (fun t18 h19 H => ?_)
          refine r_iln rfl rfl rfl ?_
          refine r_cmp H rfl rfl (fun H => ?_) (fun H => ?_)
          · refine r_ic (v := 0) rfl ci_0 ?_
            have q := K15 _ _ H
            exact q
          · refine r_ic (v := 1) rfl ci_1 ?_
            refine r_go rfl ?_
            have q := K15 _ _ H
            exact q
  · refine r_aln rfl rfl rfl ?_
    refine r_il rfl rfl ?_
    refine r_vtI (rest := []) H rfl rfl rfl (s_X6_refuse a0 t5) rfl rfl ⟨rfl, rfl⟩ rfl (fun t20 h21 H => ?_)
    exact r_reti H rfl rfl ⟨Nat.zero_le _, Nat.zero_le _⟩
def f_X6_worth (a0 : Nat) (a1 : Int32) (a2 : Int32) : M Int32 := bnd (cv 5 a0 (f_X6_noPerson a0 a1)) fun t1 => bnd (f_X6_outside a2 (0 : Int32) (60 : Int32)) fun t3 => bnd (f_X6_first t1 t3) fun t5 => if t5 = (0 : Int32) then bnd (cv 5 a0 (f_X6_ahead a0 a2)) fun t7 => bnd (cv 0 t7 (f_X0_allErrors t7)) fun t9 => bnd (gR 5 4 a0) fun r11 => bnd (gR 5 0 a0) fun r12 => bnd (gR 4 0 r12) fun r13 => bnd (cv 0 r11 (f_X0_copyFrom r11 r13)) fun _ => loopK NF (fun (s16 : Int32) k17 => bnd (gR 5 4 a0) fun r18 => bnd (gI 0 0 r18) fun t19 => if t19 ≤ s16 then bnd (gR 5 4 a0) fun r20 => bnd (cv 0 r20 (f_X0_passWeeks r20 a2)) fun _ => bnd (gR 5 4 a0) fun r23 => bnd (cv 0 r23 (f_X0_allErrors r23)) fun t24 => rt (t24 - t9) else bnd (gR 5 4 a0) fun r26 => bnd (gR 0 7 r26) fun r27 => bnd (aI r27 s16) fun t28 => bnd (sI r27 s16 (t28 &&& (((1 : Int32) <<< (a1 &&& (31 : Int32))) ^^^ (-1 : Int32)))) fun _ => k17 (s16 + (1 : Int32))) (0 : Int32) else bnd (cv 5 a0 (f_X6_refuse a0 t5)) fun t29 => rt ((1000000000 : Int32) - t29)
set_option maxRecDepth 20000 in
theorem s_X6_worth (a0 : Nat) (a1 : Int32) (a2 : Int32) : Sm eX6_worth [.ref a0, .int a1, .int a2] eI (f_X6_worth a0 a1 a2) := by
  intro hp vr hr H
  unfold f_X6_worth at H
  show Rn none 0 0 eX6_worth 0 [some (.ref a0), some (.int a1), some (.int a2), none, none, none] [] hp (eI vr, hr)
  refine r_aln rfl rfl rfl ?_
  refine r_iln rfl rfl rfl ?_
  refine r_vtI (rest := []) H rfl rfl rfl (s_X6_noPerson a0 a1) rfl rfl ⟨rfl, rfl⟩ rfl (fun t1 h2 H => ?_)
  refine r_iln rfl rfl rfl ?_
  refine r_ic (v := 0) rfl ci_0 ?_
  refine r_bi (v := 60) rfl cb_60 ?_
  refine r_stI (rest := [.int t1]) H rfl rfl (s_X6_outside a2 (0 : Int32) (60 : Int32)) rfl rfl ⟨rfl, rfl⟩ rfl (fun t3 h4 H => ?_)
  refine r_stI (rest := []) H rfl rfl (s_X6_first t1 t3) rfl rfl ⟨rfl, rfl⟩ rfl (fun t5 h6 H => ?_)
  refine r_isn (L' := [some (.ref a0), some (.int a1), some (.int a2), some (.int t5), none, none]) rfl rfl (Nat.le_of_ble_eq_true rfl) rfl ?_
  refine r_iln rfl rfl rfl ?_
  refine r_if H rfl rfl (fun H => ?_) (fun H => ?_)
  · refine r_aln rfl rfl rfl ?_
    refine r_iln rfl rfl rfl ?_
    refine r_vtR (rest := []) H rfl rfl rfl (s_X6_ahead a0 a2) rfl rfl ⟨rfl, rfl⟩ rfl (fun t7 h8 H => ?_)
    refine r_vtI (rest := []) H rfl rfl rfl (s_X0_allErrors t7) rfl rfl ⟨rfl, rfl⟩ rfl (fun t9 h10 H => ?_)
    refine r_is (L' := [some (.ref a0), some (.int a1), some (.int a2), some (.int t5), some (.int t9), none]) rfl (Nat.le_of_ble_eq_true rfl) rfl ?_
    refine r_aln rfl rfl rfl ?_
    refine r_gR H rfl kd_5_4 (fun r11 H => ?_)
    refine r_aln rfl rfl rfl ?_
    refine r_gR H rfl kd_5_0 (fun r12 H => ?_)
    refine r_gR H rfl kd_4_0 (fun r13 H => ?_)
    refine r_vtU (rest := []) H rfl rfl rfl (s_X0_copyFrom r11 r13) rfl rfl ⟨rfl, rfl⟩ rfl (fun t14 h15 H => ?_)
    refine r_ic (v := 0) rfl ci_0 ?_
    refine r_is (L' := [some (.ref a0), some (.int a1), some (.int a2), some (.int t5), some (.int t9), some (.int (0 : Int32))]) rfl (Nat.le_of_ble_eq_true rfl) rfl ?_
    refine (r_loop (P := (fun (s16 : Int32) hq => Rn none 0 0 eX6_worth 30 [some (.ref a0), some (.int a1), some (.int a2), some (.int t5), some (.int t9), some (.int s16)] [] hq (eI vr, hr))) ?_ NF _ _ H)
    intro k17 K17 s16 hs16 H 
    refine r_il rfl rfl ?_
    refine r_aln rfl rfl rfl ?_
    refine r_gR H rfl kd_5_4 (fun r18 H => ?_)
    refine r_gI' H rfl kl_0_0 (fun t19 H => ?_)
    refine r_cmp H rfl rfl (fun H => ?_) (fun H => ?_)
    · refine r_aln rfl rfl rfl ?_
      refine r_gR H rfl kd_5_4 (fun r20 H => ?_)
      refine r_iln rfl rfl rfl ?_
      refine r_vtU (rest := []) H rfl rfl rfl (s_X0_passWeeks r20 a2) rfl rfl ⟨rfl, rfl⟩ rfl (fun t21 h22 H => ?_)
      refine r_aln rfl rfl rfl ?_
      refine r_gR H rfl kd_5_4 (fun r23 H => ?_)
      refine r_vtI (rest := []) H rfl rfl rfl (s_X0_allErrors r23) rfl rfl ⟨rfl, rfl⟩ rfl (fun t24 h25 H => ?_)
      refine r_il rfl rfl ?_
      refine r_sub rfl ?_
      exact r_reti H rfl rfl ⟨Nat.zero_le _, Nat.zero_le _⟩
    · refine r_aln rfl rfl rfl ?_
      refine r_gR H rfl kd_5_4 (fun r26 H => ?_)
      refine r_gR H rfl kd_0_7 (fun r27 H => ?_)
      refine r_il rfl rfl ?_
      refine r_dup2 rfl ?_
      refine r_aI' H rfl (fun t28 H => ?_)
      refine r_ic (v := 1) rfl ci_1 ?_
      refine r_iln rfl rfl rfl ?_
      refine r_shl rfl ?_
      refine r_ic (v := -1) rfl ci_m1 ?_
      refine r_xor rfl ?_
      refine r_and rfl ?_
      refine r_sI H rfl (fun H => ?_)
      refine r_inc (v := 1) (L' := [some (.ref a0), some (.int a1), some (.int a2), some (.int t5), some (.int t9), some (.int (s16 + (1 : Int32)))]) rfl rfl ci_1 rfl ?_
      refine r_go rfl ?_
      have q := K17 _ _ H
      exact q
  · refine r_lc (v := 1000000000) rfl cn_1000000000 ?_
    refine r_aln rfl rfl rfl ?_
    refine r_iln rfl rfl rfl ?_
    refine r_vtI (rest := [.int (1000000000 : Int32)]) H rfl rfl rfl (s_X6_refuse a0 t5) rfl rfl ⟨rfl, rfl⟩ rfl (fun t29 h30 H => ?_)
    refine r_sub rfl ?_
    exact r_reti H rfl rfl ⟨Nat.zero_le _, Nat.zero_le _⟩
def f_X6_errorsWithEar (a0 : Nat) (a1 : Int32) (a2 : Int32) (a3 : Int32) : M Int32 := bnd (gR 5 4 a0) fun r1 => bnd (gR 5 0 a0) fun r2 => bnd (gR 4 0 r2) fun r3 => bnd (cv 0 r1 (f_X0_copyFrom r1 r3)) fun _ => bnd (gR 5 4 a0) fun r6 => bnd (gR 0 7 r6) fun r7 => bnd (aI r7 a1) fun t8 => bnd (sI r7 a1 (t8 ||| ((1 : Int32) <<< (a2 &&& (31 : Int32))))) fun _ => bnd (gR 5 4 a0) fun r9 => bnd (cv 0 r9 (f_X0_passWeeks r9 a3)) fun _ => bnd (gR 5 4 a0) fun r12 => bnd (cv 0 r12 (f_X0_allErrors r12)) fun t13 => rt t13
set_option maxRecDepth 20000 in
theorem s_X6_errorsWithEar (a0 : Nat) (a1 : Int32) (a2 : Int32) (a3 : Int32) : Sm eX6_errorsWithEar [.ref a0, .int a1, .int a2, .int a3] eI (f_X6_errorsWithEar a0 a1 a2 a3) := by
  intro hp vr hr H
  unfold f_X6_errorsWithEar at H
  show Rn none 0 0 eX6_errorsWithEar 0 [some (.ref a0), some (.int a1), some (.int a2), some (.int a3)] [] hp (eI vr, hr)
  refine r_aln rfl rfl rfl ?_
  refine r_gR H rfl kd_5_4 (fun r1 H => ?_)
  refine r_aln rfl rfl rfl ?_
  refine r_gR H rfl kd_5_0 (fun r2 H => ?_)
  refine r_gR H rfl kd_4_0 (fun r3 H => ?_)
  refine r_vtU (rest := []) H rfl rfl rfl (s_X0_copyFrom r1 r3) rfl rfl ⟨rfl, rfl⟩ rfl (fun t4 h5 H => ?_)
  refine r_aln rfl rfl rfl ?_
  refine r_gR H rfl kd_5_4 (fun r6 H => ?_)
  refine r_gR H rfl kd_0_7 (fun r7 H => ?_)
  refine r_iln rfl rfl rfl ?_
  refine r_dup2 rfl ?_
  refine r_aI' H rfl (fun t8 H => ?_)
  refine r_ic (v := 1) rfl ci_1 ?_
  refine r_iln rfl rfl rfl ?_
  refine r_shl rfl ?_
  refine r_or rfl ?_
  refine r_sI H rfl (fun H => ?_)
  refine r_aln rfl rfl rfl ?_
  refine r_gR H rfl kd_5_4 (fun r9 H => ?_)
  refine r_iln rfl rfl rfl ?_
  refine r_vtU (rest := []) H rfl rfl rfl (s_X0_passWeeks r9 a3) rfl rfl ⟨rfl, rfl⟩ rfl (fun t10 h11 H => ?_)
  refine r_aln rfl rfl rfl ?_
  refine r_gR H rfl kd_5_4 (fun r12 H => ?_)
  refine r_vtI (rest := []) H rfl rfl rfl (s_X0_allErrors r12) rfl rfl ⟨rfl, rfl⟩ rfl (fun t13 h14 H => ?_)
  exact r_reti H rfl rfl ⟨Nat.zero_le _, Nat.zero_le _⟩
def f_X6_newEar (a0 : Nat) (a1 : Int32) : M Int32 := bnd (f_X6_outside a1 (0 : Int32) (60 : Int32)) fun t1 => if t1 = (0 : Int32) then bnd (cv 5 a0 (f_X6_ahead a0 a1)) fun t3 => bnd (cv 0 t3 (f_X0_allErrors t3)) fun t5 => loopK NF (fun (s7 : Int32 × Int32 × Int32) k8 => bnd (gR 5 0 a0) fun r11 => bnd (gR 4 0 r11) fun r12 => bnd (gI 0 0 r12) fun t13 => if t13 ≤ s7.2.2 then rt s7.1 else loopK NF (fun (s14 : Int32 × Int32 × Int32) k15 => bnd (gR 5 0 a0) fun r17 => bnd (gR 4 0 r17) fun r18 => bnd (gI 0 0 r18) fun t19 => if t19 ≤ s14.2.2 then k8 (s14.1, s14.2.1, (s7.2.2 + (1 : Int32))) else if s7.2.2 = s14.2.2 then k15 (s14.1, s14.2.1, (s14.2.2 + (1 : Int32))) else bnd (gR 5 0 a0) fun r20 => bnd (gR 4 0 r20) fun r21 => bnd (gR 0 7 r21) fun r22 => bnd (aI r22 s7.2.2) fun t23 => bnd (f_X6_holds t23 s14.2.2) fun t24 => if t24 = (0 : Int32) then bnd (cv 5 a0 (f_X6_errorsWithEar a0 s7.2.2 s14.2.2 a1)) fun t26 => if s14.2.1 ≤ t26 then k15 (s14.1, s14.2.1, (s14.2.2 + (1 : Int32))) else k15 ((((10 : Int32) * s7.2.2) + s14.2.2), t26, (s14.2.2 + (1 : Int32))) else k15 (s14.1, s14.2.1, (s14.2.2 + (1 : Int32)))) (s7.1, s7.2.1, (0 : Int32))) ((-9 : Int32), t5, (0 : Int32)) else bnd (cv 5 a0 (f_X6_refuse a0 t1)) fun t28 => rt t28
set_option maxRecDepth 20000 in
theorem s_X6_newEar (a0 : Nat) (a1 : Int32) : Sm eX6_newEar [.ref a0, .int a1] eI (f_X6_newEar a0 a1) := by
  intro hp vr hr H
  unfold f_X6_newEar at H
  show Rn none 0 0 eX6_newEar 0 [some (.ref a0), some (.int a1), none, none, none, none, none, none] [] hp (eI vr, hr)
  refine r_iln rfl rfl rfl ?_
  refine r_ic (v := 0) rfl ci_0 ?_
  refine r_bi (v := 60) rfl cb_60 ?_
  refine r_stI (rest := []) H rfl rfl (s_X6_outside a1 (0 : Int32) (60 : Int32)) rfl rfl ⟨rfl, rfl⟩ rfl (fun t1 h2 H => ?_)
  refine r_isn (L' := [some (.ref a0), some (.int a1), some (.int t1), none, none, none, none, none]) rfl rfl (Nat.le_of_ble_eq_true rfl) rfl ?_
  refine r_iln rfl rfl rfl ?_
  refine r_if H rfl rfl (fun H => ?_) (fun H => ?_)
  · refine r_bi (v := -9) rfl cb_m9 ?_
    refine r_isn (L' := [some (.ref a0), some (.int a1), some (.int t1), some (.int (-9 : Int32)), none, none, none, none]) rfl rfl (Nat.le_of_ble_eq_true rfl) rfl ?_
    refine r_aln rfl rfl rfl ?_
    refine r_iln rfl rfl rfl ?_
    refine r_vtR (rest := []) H rfl rfl rfl (s_X6_ahead a0 a1) rfl rfl ⟨rfl, rfl⟩ rfl (fun t3 h4 H => ?_)
    refine r_vtI (rest := []) H rfl rfl rfl (s_X0_allErrors t3) rfl rfl ⟨rfl, rfl⟩ rfl (fun t5 h6 H => ?_)
    refine r_is (L' := [some (.ref a0), some (.int a1), some (.int t1), some (.int (-9 : Int32)), some (.int t5), none, none, none]) rfl (Nat.le_of_ble_eq_true rfl) rfl ?_
    refine r_ic (v := 0) rfl ci_0 ?_
    refine r_is (L' := [some (.ref a0), some (.int a1), some (.int t1), some (.int (-9 : Int32)), some (.int t5), some (.int (0 : Int32)), none, none]) rfl (Nat.le_of_ble_eq_true rfl) rfl ?_
    refine (r_loop (P := (fun (s7 : Int32 × Int32 × Int32) hq => ∀ ys7_0 : Int32, ∀ ys7_1 : Int32, ∀ ys7_2 : Int32, s7 = (ys7_0, ys7_1, ys7_2) → ∀ x9 : Option Value, ∀ x10 : Option Value, Rn none 0 0 eX6_newEar 20 [some (.ref a0), some (.int a1), some (.int t1), some (.int ys7_0), some (.int ys7_1), some (.int ys7_2), x9, x10] [] hq (eI vr, hr))) ?_ NF _ _ H) _ _ _ rfl _ _
    intro k8 K8 s7 hs7 H ys7_0 ys7_1 ys7_2 es7 x9 x10
    subst es7
    refine r_il rfl rfl ?_
    refine r_aln rfl rfl rfl ?_
    refine r_gR H rfl kd_5_0 (fun r11 H => ?_)
    refine r_gR H rfl kd_4_0 (fun r12 H => ?_)
    refine r_gI' H rfl kl_0_0 (fun t13 H => ?_)
    refine r_cmp H rfl rfl (fun H => ?_) (fun H => ?_)
    · refine r_iln rfl rfl rfl ?_
      exact r_reti H rfl rfl ⟨Nat.zero_le _, Nat.zero_le _⟩
    · refine r_ic (v := 0) rfl ci_0 ?_
      refine r_is (L' := [some (.ref a0), some (.int a1), some (.int t1), some (.int ys7_0), some (.int ys7_1), some (.int ys7_2), some (.int (0 : Int32)), x10]) rfl (Nat.le_of_ble_eq_true rfl) rfl ?_
      refine (r_loop (P := (fun (s14 : Int32 × Int32 × Int32) hq => ∀ ys14_0 : Int32, ∀ ys14_1 : Int32, ∀ ys14_2 : Int32, s14 = (ys14_0, ys14_1, ys14_2) → ∀ x16 : Option Value, Rn none 0 0 eX6_newEar 28 [some (.ref a0), some (.int a1), some (.int t1), some (.int ys14_0), some (.int ys14_1), some (.int ys7_2), some (.int ys14_2), x16] [] hq (eI vr, hr))) ?_ NF _ _ H) _ _ _ rfl _
      intro k15 K15 s14 hs14 H ys14_0 ys14_1 ys14_2 es14 x16
      subst es14
      refine r_il rfl rfl ?_
      refine r_aln rfl rfl rfl ?_
      refine r_gR H rfl kd_5_0 (fun r17 H => ?_)
      refine r_gR H rfl kd_4_0 (fun r18 H => ?_)
      refine r_gI' H rfl kl_0_0 (fun t19 H => ?_)
      refine r_cmp H rfl rfl (fun H => ?_) (fun H => ?_)
      · refine r_inc (v := 1) (L' := [some (.ref a0), some (.int a1), some (.int t1), some (.int ys14_0), some (.int ys14_1), some (.int (ys7_2 + (1 : Int32))), some (.int ys14_2), x16]) rfl rfl ci_1 rfl ?_
        refine r_go rfl ?_
        have q := K8 _ _ H _ _ _ rfl
        exact q _ _
      · refine r_il rfl rfl ?_
        refine r_il rfl rfl ?_
        refine r_cmp H rfl rfl (fun H => ?_) (fun H => ?_)
        · refine r_inc (v := 1) (L' := [some (.ref a0), some (.int a1), some (.int t1), some (.int ys14_0), some (.int ys14_1), some (.int ys7_2), some (.int (ys14_2 + (1 : Int32))), x16]) rfl rfl ci_1 rfl ?_
          refine r_go rfl ?_
          have q := K15 _ _ H _ _ _ rfl
          exact q _
        · refine r_aln rfl rfl rfl ?_
          refine r_gR H rfl kd_5_0 (fun r20 H => ?_)
          refine r_gR H rfl kd_4_0 (fun r21 H => ?_)
          refine r_gR H rfl kd_0_7 (fun r22 H => ?_)
          refine r_il rfl rfl ?_
          refine r_aI' H rfl (fun t23 H => ?_)
          refine r_il rfl rfl ?_
          refine r_stI (rest := []) H rfl rfl (s_X6_holds t23 ys14_2) rfl rfl ⟨rfl, rfl⟩ rfl (fun t24 h25 H => ?_)
          refine r_if H rfl rfl (fun H => ?_) (fun H => ?_)
          · refine r_aln rfl rfl rfl ?_
            refine r_il rfl rfl ?_
            refine r_il rfl rfl ?_
            refine r_iln rfl rfl rfl ?_
            refine r_vtI (rest := []) H rfl rfl rfl (s_X6_errorsWithEar a0 ys7_2 ys14_2 a1) rfl rfl ⟨rfl, rfl⟩ rfl (fun t26 h27 H => ?_)
            refine r_is (L' := [some (.ref a0), some (.int a1), some (.int t1), some (.int ys14_0), some (.int ys14_1), some (.int ys7_2), some (.int ys14_2), some (.int t26)]) rfl (Nat.le_of_ble_eq_true rfl) rfl ?_
            refine r_il rfl rfl ?_
            refine r_il rfl rfl ?_
            refine r_cmp H rfl rfl (fun H => ?_) (fun H => ?_)
            · refine r_inc (v := 1) (L' := [some (.ref a0), some (.int a1), some (.int t1), some (.int ys14_0), some (.int ys14_1), some (.int ys7_2), some (.int (ys14_2 + (1 : Int32))), some (.int t26)]) rfl rfl ci_1 rfl ?_
              refine r_go rfl ?_
              have q := K15 _ _ H _ _ _ rfl
              exact q _
            · refine r_il rfl rfl ?_
              refine r_is (L' := [some (.ref a0), some (.int a1), some (.int t1), some (.int ys14_0), some (.int t26), some (.int ys7_2), some (.int ys14_2), some (.int t26)]) rfl (Nat.le_of_ble_eq_true rfl) rfl ?_
              refine r_bi (v := 10) rfl cb_10 ?_
              refine r_il rfl rfl ?_
              refine r_mul rfl ?_
              refine r_il rfl rfl ?_
              refine r_add rfl ?_
              refine r_isn (L' := [some (.ref a0), some (.int a1), some (.int t1), some (.int (((10 : Int32) * ys7_2) + ys14_2)), some (.int t26), some (.int ys7_2), some (.int ys14_2), some (.int t26)]) rfl rfl (Nat.le_of_ble_eq_true rfl) rfl ?_
              refine r_inc (v := 1) (L' := [some (.ref a0), some (.int a1), some (.int t1), some (.int (((10 : Int32) * ys7_2) + ys14_2)), some (.int t26), some (.int ys7_2), some (.int (ys14_2 + (1 : Int32))), some (.int t26)]) rfl rfl ci_1 rfl ?_
              refine r_go rfl ?_
              have q := K15 _ _ H _ _ _ rfl
              exact q _
          · refine r_go rfl ?_
            refine r_inc (v := 1) (L' := [some (.ref a0), some (.int a1), some (.int t1), some (.int ys14_0), some (.int ys14_1), some (.int ys7_2), some (.int (ys14_2 + (1 : Int32))), x16]) rfl rfl ci_1 rfl ?_
            refine r_go rfl ?_
            have q := K15 _ _ H _ _ _ rfl
            exact q _
  · refine r_aln rfl rfl rfl ?_
    refine r_iln rfl rfl rfl ?_
    refine r_vtI (rest := []) H rfl rfl rfl (s_X6_refuse a0 t1) rfl rfl ⟨rfl, rfl⟩ rfl (fun t28 h29 H => ?_)
    exact r_reti H rfl rfl ⟨Nat.zero_le _, Nat.zero_le _⟩
def f_X6_sisters (a0 : Nat) (a1 : Int32) (a2 : Int32) (a3 : Int32) (a4 : Int32) : M Int32 := bnd (cv 5 a0 (f_X6_noTwo a0 a1 a2)) fun t1 => bnd (f_X6_outside a3 (0 : Int32) (60 : Int32)) fun t3 => bnd (f_X6_noChoice a4 (2 : Int32)) fun t5 => bnd (f_X6_first t3 t5) fun t7 => bnd (f_X6_first t1 t7) fun t9 => if t9 = (0 : Int32) then bnd (cv 5 a0 (f_X6_ahead a0 (0 : Int32))) fun t11 => bnd (gR 0 7 t11) fun r13 => bnd (sI r13 a1 ((1 : Int32) <<< (a2 &&& (31 : Int32)))) fun _ => bnd (gR 0 7 t11) fun r14 => bnd (sI r14 a2 ((1 : Int32) <<< (a1 &&& (31 : Int32)))) fun _ => bnd (cv 0 t11 (f_X0_apart t11 a1 a2)) fun t15 => loopK NF (fun (s17 : Int32 × Int32 × Int32) k18 => if a3 < s17.2.2 then if ¬ a4 = (0 : Int32) then rt s17.2.1 else rt s17.1 else bnd (cv 0 t11 (f_X0_passWeek t11)) fun t19 => bnd (cv 0 t11 (f_X0_apart t11 a1 a2)) fun t21 => k18 (t21, (mmax s17.2.1 t21), (s17.2.2 + (1 : Int32)))) (t15, t15, (1 : Int32)) else bnd (cv 5 a0 (f_X6_refuse a0 t9)) fun t23 => rt t23
set_option maxRecDepth 20000 in
theorem s_X6_sisters (a0 : Nat) (a1 : Int32) (a2 : Int32) (a3 : Int32) (a4 : Int32) : Sm eX6_sisters [.ref a0, .int a1, .int a2, .int a3, .int a4] eI (f_X6_sisters a0 a1 a2 a3 a4) := by
  intro hp vr hr H
  unfold f_X6_sisters at H
  show Rn none 0 0 eX6_sisters 0 [some (.ref a0), some (.int a1), some (.int a2), some (.int a3), some (.int a4), none, none, none, none, none] [] hp (eI vr, hr)
  refine r_aln rfl rfl rfl ?_
  refine r_iln rfl rfl rfl ?_
  refine r_iln rfl rfl rfl ?_
  refine r_vtI (rest := []) H rfl rfl rfl (s_X6_noTwo a0 a1 a2) rfl rfl ⟨rfl, rfl⟩ rfl (fun t1 h2 H => ?_)
  refine r_iln rfl rfl rfl ?_
  refine r_ic (v := 0) rfl ci_0 ?_
  refine r_bi (v := 60) rfl cb_60 ?_
  refine r_stI (rest := [.int t1]) H rfl rfl (s_X6_outside a3 (0 : Int32) (60 : Int32)) rfl rfl ⟨rfl, rfl⟩ rfl (fun t3 h4 H => ?_)
  refine r_il rfl rfl ?_
  refine r_ic (v := 2) rfl ci_2 ?_
  refine r_stI (rest := [.int t3, .int t1]) H rfl rfl (s_X6_noChoice a4 (2 : Int32)) rfl rfl ⟨rfl, rfl⟩ rfl (fun t5 h6 H => ?_)
  refine r_stI (rest := [.int t1]) H rfl rfl (s_X6_first t3 t5) rfl rfl ⟨rfl, rfl⟩ rfl (fun t7 h8 H => ?_)
  refine r_stI (rest := []) H rfl rfl (s_X6_first t1 t7) rfl rfl ⟨rfl, rfl⟩ rfl (fun t9 h10 H => ?_)
  refine r_is (L' := [some (.ref a0), some (.int a1), some (.int a2), some (.int a3), some (.int a4), some (.int t9), none, none, none, none]) rfl (Nat.le_of_ble_eq_true rfl) rfl ?_
  refine r_il rfl rfl ?_
  refine r_if H rfl rfl (fun H => ?_) (fun H => ?_)
  · refine r_aln rfl rfl rfl ?_
    refine r_ic (v := 0) rfl ci_0 ?_
    refine r_vtR (rest := []) H rfl rfl rfl (s_X6_ahead a0 (0 : Int32)) rfl rfl ⟨rfl, rfl⟩ rfl (fun t11 h12 H => ?_)
    refine r_as (L' := [some (.ref a0), some (.int a1), some (.int a2), some (.int a3), some (.int a4), some (.int t9), some (.ref t11), none, none, none]) rfl (Nat.le_of_ble_eq_true rfl) rfl ?_
    refine r_al rfl rfl ?_
    refine r_gR H rfl kd_0_7 (fun r13 H => ?_)
    refine r_iln rfl rfl rfl ?_
    refine r_ic (v := 1) rfl ci_1 ?_
    refine r_iln rfl rfl rfl ?_
    refine r_shl rfl ?_
    refine r_sI H rfl (fun H => ?_)
    refine r_al rfl rfl ?_
    refine r_gR H rfl kd_0_7 (fun r14 H => ?_)
    refine r_iln rfl rfl rfl ?_
    refine r_ic (v := 1) rfl ci_1 ?_
    refine r_iln rfl rfl rfl ?_
    refine r_shl rfl ?_
    refine r_sI H rfl (fun H => ?_)
    refine r_al rfl rfl ?_
    refine r_iln rfl rfl rfl ?_
    refine r_iln rfl rfl rfl ?_
    refine r_vtI (rest := []) H rfl rfl rfl (s_X0_apart t11 a1 a2) rfl rfl ⟨rfl, rfl⟩ rfl (fun t15 h16 H => ?_)
    refine r_is (L' := [some (.ref a0), some (.int a1), some (.int a2), some (.int a3), some (.int a4), some (.int t9), some (.ref t11), some (.int t15), none, none]) rfl (Nat.le_of_ble_eq_true rfl) rfl ?_
    refine r_il rfl rfl ?_
    refine r_is (L' := [some (.ref a0), some (.int a1), some (.int a2), some (.int a3), some (.int a4), some (.int t9), some (.ref t11), some (.int t15), some (.int t15), none]) rfl (Nat.le_of_ble_eq_true rfl) rfl ?_
    refine r_ic (v := 1) rfl ci_1 ?_
    refine r_is (L' := [some (.ref a0), some (.int a1), some (.int a2), some (.int a3), some (.int a4), some (.int t9), some (.ref t11), some (.int t15), some (.int t15), some (.int (1 : Int32))]) rfl (Nat.le_of_ble_eq_true rfl) rfl ?_
    refine (r_loop (P := (fun (s17 : Int32 × Int32 × Int32) hq => ∀ ys17_0 : Int32, ∀ ys17_1 : Int32, ∀ ys17_2 : Int32, s17 = (ys17_0, ys17_1, ys17_2) → Rn none 0 0 eX6_sisters 47 [some (.ref a0), some (.int a1), some (.int a2), some (.int a3), some (.int a4), some (.int t9), some (.ref t11), some (.int ys17_0), some (.int ys17_1), some (.int ys17_2)] [] hq (eI vr, hr))) ?_ NF _ _ H) _ _ _ rfl
    intro k18 K18 s17 hs17 H ys17_0 ys17_1 ys17_2 es17 
    subst es17
    refine r_il rfl rfl ?_
    refine r_iln rfl rfl rfl ?_
    refine r_cmp H rfl rfl (fun H => ?_) (fun H => ?_)
    · refine r_il rfl rfl ?_
      refine r_if H rfl rfl (fun H => ?_) (fun H => ?_)
      · refine r_il rfl rfl ?_
        exact r_reti H rfl rfl ⟨Nat.zero_le _, Nat.zero_le _⟩
      · refine r_il rfl rfl ?_
        refine r_go rfl ?_
        exact r_reti H rfl rfl ⟨Nat.zero_le _, Nat.zero_le _⟩
    · refine r_al rfl rfl ?_
      refine r_vtI (rest := []) H rfl rfl rfl (s_X0_passWeek t11) rfl rfl ⟨rfl, rfl⟩ rfl (fun t19 h20 H => ?_)
      refine r_popi rfl ?_
      refine r_al rfl rfl ?_
      refine r_iln rfl rfl rfl ?_
      refine r_iln rfl rfl rfl ?_
      refine r_vtI (rest := []) H rfl rfl rfl (s_X0_apart t11 a1 a2) rfl rfl ⟨rfl, rfl⟩ rfl (fun t21 h22 H => ?_)
      refine r_is (L' := [some (.ref a0), some (.int a1), some (.int a2), some (.int a3), some (.int a4), some (.int t9), some (.ref t11), some (.int t21), some (.int ys17_1), some (.int ys17_2)]) rfl (Nat.le_of_ble_eq_true rfl) rfl ?_
      refine r_il rfl rfl ?_
      refine r_il rfl rfl ?_
      refine r_max rfl rfl (Nat.le_of_ble_eq_true rfl) rfl ?_
      refine r_is (L' := [some (.ref a0), some (.int a1), some (.int a2), some (.int a3), some (.int a4), some (.int t9), some (.ref t11), some (.int t21), some (.int (mmax ys17_1 t21)), some (.int ys17_2)]) rfl (Nat.le_of_ble_eq_true rfl) rfl ?_
      refine r_inc (v := 1) (L' := [some (.ref a0), some (.int a1), some (.int a2), some (.int a3), some (.int a4), some (.int t9), some (.ref t11), some (.int t21), some (.int (mmax ys17_1 t21)), some (.int (ys17_2 + (1 : Int32)))]) rfl rfl ci_1 rfl ?_
      refine r_go rfl ?_
      have q := K18 _ _ H _ _ _ rfl
      exact q
  · refine r_aln rfl rfl rfl ?_
    refine r_il rfl rfl ?_
    refine r_vtI (rest := []) H rfl rfl rfl (s_X6_refuse a0 t9) rfl rfl ⟨rfl, rfl⟩ rfl (fun t23 h24 H => ?_)
    exact r_reti H rfl rfl ⟨Nat.zero_le _, Nat.zero_le _⟩
def f_X6_cheat (a0 : Nat) (a1 : Int32) (a2 : Int32) (a3 : Int32) : M Int32 := bnd (cv 5 a0 (f_X6_noPerson a0 a1)) fun t1 => bnd (f_X6_outside a2 (0 : Int32) (99 : Int32)) fun t3 => bnd (f_X6_noChoice a3 (2 : Int32)) fun t5 => bnd (f_X6_first t3 t5) fun t7 => bnd (f_X6_first t1 t7) fun t9 => jn (fun k12 => if ¬ t9 = (0 : Int32) then k12 t9 else bnd (cv 5 a0 (f_X6_asksNobody a0 a1)) fun t25 => k12 t25) (fun (s11 : Int32) => if s11 = (0 : Int32) then loopK NF (fun (s13 : Int32 × Int32 × Int32) k14 => if s13.2.2 < (0 : Int32) then if ¬ a3 = (0 : Int32) then rt s13.2.1 else rt s13.1 else bnd (gR 5 0 a0) fun r15 => bnd (gR 4 0 r15) fun r16 => bnd (gR 5 0 a0) fun r17 => bnd (gR 4 0 r17) fun r18 => bnd (gR 0 7 r18) fun r19 => bnd (aI r19 a1) fun t20 => bnd (cv 0 r16 (f_X0_mean r16 t20 s13.2.2)) fun t21 => if ¬ t21 = a2 then k14 (s13.1, s13.2.1, (s13.2.2 + (-1 : Int32))) else k14 ((s13.1 + (1 : Int32)), s13.2.2, (s13.2.2 + (-1 : Int32)))) ((0 : Int32), (-9 : Int32), (99 : Int32)) else bnd (cv 5 a0 (f_X6_refuse a0 s11)) fun t23 => rt t23)
set_option maxRecDepth 20000 in
theorem s_X6_cheat (a0 : Nat) (a1 : Int32) (a2 : Int32) (a3 : Int32) : Sm eX6_cheat [.ref a0, .int a1, .int a2, .int a3] eI (f_X6_cheat a0 a1 a2 a3) := by
  intro hp vr hr H
  unfold f_X6_cheat at H
  show Rn none 0 0 eX6_cheat 0 [some (.ref a0), some (.int a1), some (.int a2), some (.int a3), none, none, none, none] [] hp (eI vr, hr)
  refine r_aln rfl rfl rfl ?_
  refine r_iln rfl rfl rfl ?_
  refine r_vtI (rest := []) H rfl rfl rfl (s_X6_noPerson a0 a1) rfl rfl ⟨rfl, rfl⟩ rfl (fun t1 h2 H => ?_)
  refine r_iln rfl rfl rfl ?_
  refine r_ic (v := 0) rfl ci_0 ?_
  refine r_bi (v := 99) rfl cb_99 ?_
  refine r_stI (rest := [.int t1]) H rfl rfl (s_X6_outside a2 (0 : Int32) (99 : Int32)) rfl rfl ⟨rfl, rfl⟩ rfl (fun t3 h4 H => ?_)
  refine r_iln rfl rfl rfl ?_
  refine r_ic (v := 2) rfl ci_2 ?_
  refine r_stI (rest := [.int t3, .int t1]) H rfl rfl (s_X6_noChoice a3 (2 : Int32)) rfl rfl ⟨rfl, rfl⟩ rfl (fun t5 h6 H => ?_)
  refine r_stI (rest := [.int t1]) H rfl rfl (s_X6_first t3 t5) rfl rfl ⟨rfl, rfl⟩ rfl (fun t7 h8 H => ?_)
  refine r_stI (rest := []) H rfl rfl (s_X6_first t1 t7) rfl rfl ⟨rfl, rfl⟩ rfl (fun t9 h10 H => ?_)
  refine r_is (L' := [some (.ref a0), some (.int a1), some (.int a2), some (.int a3), some (.int t9), none, none, none]) rfl (Nat.le_of_ble_eq_true rfl) rfl ?_
  refine r_il rfl rfl ?_
  refine r_jn (P := (fun (s11 : Int32) hq => Rn none 0 0 eX6_cheat 19 [some (.ref a0), some (.int a1), some (.int a2), some (.int a3), some (.int s11), none, none, none] [] hq (eI vr, hr))) H (fun s11 hs11 H  => ?_) (fun k12 K12 H => ?_)
  · refine r_il rfl rfl ?_
    refine r_if H rfl rfl (fun H => ?_) (fun H => ?_)
    · refine r_ic (v := 0) rfl ci_0 ?_
      refine r_is (L' := [some (.ref a0), some (.int a1), some (.int a2), some (.int a3), some (.int s11), some (.int (0 : Int32)), none, none]) rfl (Nat.le_of_ble_eq_true rfl) rfl ?_
      refine r_bi (v := -9) rfl cb_m9 ?_
      refine r_is (L' := [some (.ref a0), some (.int a1), some (.int a2), some (.int a3), some (.int s11), some (.int (0 : Int32)), some (.int (-9 : Int32)), none]) rfl (Nat.le_of_ble_eq_true rfl) rfl ?_
      refine r_bi (v := 99) rfl cb_99 ?_
      refine r_is (L' := [some (.ref a0), some (.int a1), some (.int a2), some (.int a3), some (.int s11), some (.int (0 : Int32)), some (.int (-9 : Int32)), some (.int (99 : Int32))]) rfl (Nat.le_of_ble_eq_true rfl) rfl ?_
      refine (r_loop (P := (fun (s13 : Int32 × Int32 × Int32) hq => ∀ ys13_0 : Int32, ∀ ys13_1 : Int32, ∀ ys13_2 : Int32, s13 = (ys13_0, ys13_1, ys13_2) → Rn none 0 0 eX6_cheat 31 [some (.ref a0), some (.int a1), some (.int a2), some (.int a3), some (.int s11), some (.int ys13_0), some (.int ys13_1), some (.int ys13_2)] [] hq (eI vr, hr))) ?_ NF _ _ H) _ _ _ rfl
      intro k14 K14 s13 hs13 H ys13_0 ys13_1 ys13_2 es13 
      subst es13
      refine r_il rfl rfl ?_
      refine r_if H rfl rfl (fun H => ?_) (fun H => ?_)
      · refine r_iln rfl rfl rfl ?_
        refine r_if H rfl rfl (fun H => ?_) (fun H => ?_)
        · refine r_il rfl rfl ?_
          exact r_reti H rfl rfl ⟨Nat.zero_le _, Nat.zero_le _⟩
        · refine r_il rfl rfl ?_
          refine r_go rfl ?_
          exact r_reti H rfl rfl ⟨Nat.zero_le _, Nat.zero_le _⟩
      · refine r_aln rfl rfl rfl ?_
        refine r_gR H rfl kd_5_0 (fun r15 H => ?_)
        refine r_gR H rfl kd_4_0 (fun r16 H => ?_)
        refine r_aln rfl rfl rfl ?_
        refine r_gR H rfl kd_5_0 (fun r17 H => ?_)
        refine r_gR H rfl kd_4_0 (fun r18 H => ?_)
        refine r_gR H rfl kd_0_7 (fun r19 H => ?_)
        refine r_iln rfl rfl rfl ?_
        refine r_aI' H rfl (fun t20 H => ?_)
        refine r_il rfl rfl ?_
        refine r_vtI (rest := []) H rfl rfl rfl (s_X0_mean r16 t20 ys13_2) rfl rfl ⟨rfl, rfl⟩ rfl (fun t21 h22 H => ?_)
        refine r_iln rfl rfl rfl ?_
        refine r_cmp H rfl rfl (fun H => ?_) (fun H => ?_)
        · refine r_inc (v := -1) (L' := [some (.ref a0), some (.int a1), some (.int a2), some (.int a3), some (.int s11), some (.int ys13_0), some (.int ys13_1), some (.int (ys13_2 + (-1 : Int32)))]) rfl rfl ci_m1 rfl ?_
          refine r_go rfl ?_
          have q := K14 _ _ H _ _ _ rfl
          exact q
        · refine r_inc (v := 1) (L' := [some (.ref a0), some (.int a1), some (.int a2), some (.int a3), some (.int s11), some (.int (ys13_0 + (1 : Int32))), some (.int ys13_1), some (.int ys13_2)]) rfl rfl ci_1 rfl ?_
          refine r_il rfl rfl ?_
          refine r_is (L' := [some (.ref a0), some (.int a1), some (.int a2), some (.int a3), some (.int s11), some (.int (ys13_0 + (1 : Int32))), some (.int ys13_2), some (.int ys13_2)]) rfl (Nat.le_of_ble_eq_true rfl) rfl ?_
          refine r_inc (v := -1) (L' := [some (.ref a0), some (.int a1), some (.int a2), some (.int a3), some (.int s11), some (.int (ys13_0 + (1 : Int32))), some (.int ys13_2), some (.int (ys13_2 + (-1 : Int32)))]) rfl rfl ci_m1 rfl ?_
          refine r_go rfl ?_
          have q := K14 _ _ H _ _ _ rfl
          exact q
    · refine r_aln rfl rfl rfl ?_
      refine r_il rfl rfl ?_
      refine r_vtI (rest := []) H rfl rfl rfl (s_X6_refuse a0 s11) rfl rfl ⟨rfl, rfl⟩ rfl (fun t23 h24 H => ?_)
      exact r_reti H rfl rfl ⟨Nat.zero_le _, Nat.zero_le _⟩
  · refine r_if H rfl rfl (fun H => ?_) (fun H => ?_)
    · have q := K12 _ _ H
      exact q
    · refine r_aln rfl rfl rfl ?_
      refine r_iln rfl rfl rfl ?_
      refine r_vtI (rest := []) H rfl rfl rfl (s_X6_asksNobody a0 a1) rfl rfl ⟨rfl, rfl⟩ rfl (fun t25 h26 H => ?_)
      refine r_is (L' := [some (.ref a0), some (.int a1), some (.int a2), some (.int a3), some (.int t25), none, none, none]) rfl (Nat.le_of_ble_eq_true rfl) rfl ?_
      have q := K12 _ _ H
      exact q
def f_X6_fitsRow (a0 : Nat) (a1 : Int32) : M Int32 := loopK NF (fun (s1 : Int32) k2 => bnd (gI 5 8 a0) fun t3 => if t3 ≤ s1 then retZ (1 : Int32) else bnd (gR 5 7 a0) fun r4 => bnd (aI r4 s1) fun t5 => if t5 = (99 : Int32) then k2 (s1 + (1 : Int32)) else bnd (gR 5 0 a0) fun r6 => bnd (gR 4 0 r6) fun r7 => bnd (cv 0 r7 (f_X0_word r7 s1 a1)) fun t8 => bnd (gR 5 7 a0) fun r10 => bnd (aI r10 s1) fun t11 => if t8 = t11 then k2 (s1 + (1 : Int32)) else retZ (0 : Int32)) (0 : Int32)
set_option maxRecDepth 20000 in
theorem s_X6_fitsRow (a0 : Nat) (a1 : Int32) : Sm eX6_fitsRow [.ref a0, .int a1] eI (f_X6_fitsRow a0 a1) := by
  intro hp vr hr H
  unfold f_X6_fitsRow at H
  show Rn none 0 0 eX6_fitsRow 0 [some (.ref a0), some (.int a1), none] [] hp (eI vr, hr)
  refine r_ic (v := 0) rfl ci_0 ?_
  refine r_isn (L' := [some (.ref a0), some (.int a1), some (.int (0 : Int32))]) rfl rfl (Nat.le_of_ble_eq_true rfl) rfl ?_
  refine (r_loop (P := (fun (s1 : Int32) hq => Rn none 0 0 eX6_fitsRow 2 [some (.ref a0), some (.int a1), some (.int s1)] [] hq (eI vr, hr))) ?_ NF _ _ H)
  intro k2 K2 s1 hs1 H 
  refine r_iln rfl rfl rfl ?_
  refine r_aln rfl rfl rfl ?_
  refine r_gI' H rfl kl_5_8 (fun t3 H => ?_)
  refine r_cmp H rfl rfl (fun H => ?_) (fun H => ?_)
  · refine r_ic (v := 1) rfl ci_1 ?_
    exact r_retz H rfl rfl ⟨Nat.zero_le _, Nat.zero_le _⟩
  · refine r_aln rfl rfl rfl ?_
    refine r_gR H rfl kd_5_7 (fun r4 H => ?_)
    refine r_iln rfl rfl rfl ?_
    refine r_aI' H rfl (fun t5 H => ?_)
    refine r_bi (v := 99) rfl cb_99 ?_
    refine r_cmp H rfl rfl (fun H => ?_) (fun H => ?_)
    · refine r_inc (v := 1) (L' := [some (.ref a0), some (.int a1), some (.int (s1 + (1 : Int32)))]) rfl rfl ci_1 rfl ?_
      refine r_go rfl ?_
      have q := K2 _ _ H
      exact q
    · refine r_aln rfl rfl rfl ?_
      refine r_gR H rfl kd_5_0 (fun r6 H => ?_)
      refine r_gR H rfl kd_4_0 (fun r7 H => ?_)
      refine r_iln rfl rfl rfl ?_
      refine r_iln rfl rfl rfl ?_
      refine r_vtI (rest := []) H rfl rfl rfl (s_X0_word r7 s1 a1) rfl rfl ⟨rfl, rfl⟩ rfl (fun t8 h9 H => ?_)
      refine r_aln rfl rfl rfl ?_
      refine r_gR H rfl kd_5_7 (fun r10 H => ?_)
      refine r_iln rfl rfl rfl ?_
      refine r_aI' H rfl (fun t11 H => ?_)
      refine r_cmp H rfl rfl (fun H => ?_) (fun H => ?_)
      · refine r_inc (v := 1) (L' := [some (.ref a0), some (.int a1), some (.int (s1 + (1 : Int32)))]) rfl rfl ci_1 rfl ?_
        refine r_go rfl ?_
        have q := K2 _ _ H
        exact q
      · refine r_ic (v := 0) rfl ci_0 ?_
        exact r_retz H rfl rfl ⟨Nat.zero_le _, Nat.zero_le _⟩
def f_X6_suspects (a0 : Nat) : M Int32 := loopK NF (fun (s1 : Int32 × Int32) k2 => bnd (gR 5 0 a0) fun r3 => bnd (gR 4 0 r3) fun r4 => bnd (gI 0 0 r4) fun t5 => if t5 ≤ s1.2 then rt s1.1 else bnd (gR 5 0 a0) fun r6 => bnd (gR 4 0 r6) fun r7 => bnd (gR 0 5 r7) fun r8 => bnd (aI r8 s1.2) fun t9 => bnd (cv 5 a0 (f_X6_fitsRow a0 t9)) fun t10 => if t10 = (0 : Int32) then k2 (s1.1, (s1.2 + (1 : Int32))) else k2 ((s1.1 ||| ((1 : Int32) <<< (s1.2 &&& (31 : Int32)))), (s1.2 + (1 : Int32)))) ((0 : Int32), (0 : Int32))
set_option maxRecDepth 20000 in
theorem s_X6_suspects (a0 : Nat) : Sm eX6_suspects [.ref a0] eI (f_X6_suspects a0) := by
  intro hp vr hr H
  unfold f_X6_suspects at H
  show Rn none 0 0 eX6_suspects 0 [some (.ref a0), none, none] [] hp (eI vr, hr)
  refine r_ic (v := 0) rfl ci_0 ?_
  refine r_isn (L' := [some (.ref a0), some (.int (0 : Int32)), none]) rfl rfl (Nat.le_of_ble_eq_true rfl) rfl ?_
  refine r_ic (v := 0) rfl ci_0 ?_
  refine r_isn (L' := [some (.ref a0), some (.int (0 : Int32)), some (.int (0 : Int32))]) rfl rfl (Nat.le_of_ble_eq_true rfl) rfl ?_
  refine (r_loop (P := (fun (s1 : Int32 × Int32) hq => ∀ ys1_0 : Int32, ∀ ys1_1 : Int32, s1 = (ys1_0, ys1_1) → Rn none 0 0 eX6_suspects 4 [some (.ref a0), some (.int ys1_0), some (.int ys1_1)] [] hq (eI vr, hr))) ?_ NF _ _ H) _ _ rfl
  intro k2 K2 s1 hs1 H ys1_0 ys1_1 es1 
  subst es1
  refine r_iln rfl rfl rfl ?_
  refine r_aln rfl rfl rfl ?_
  refine r_gR H rfl kd_5_0 (fun r3 H => ?_)
  refine r_gR H rfl kd_4_0 (fun r4 H => ?_)
  refine r_gI' H rfl kl_0_0 (fun t5 H => ?_)
  refine r_cmp H rfl rfl (fun H => ?_) (fun H => ?_)
  · refine r_iln rfl rfl rfl ?_
    exact r_reti H rfl rfl ⟨Nat.zero_le _, Nat.zero_le _⟩
  · refine r_aln rfl rfl rfl ?_
    refine r_aln rfl rfl rfl ?_
    refine r_gR H rfl kd_5_0 (fun r6 H => ?_)
    refine r_gR H rfl kd_4_0 (fun r7 H => ?_)
    refine r_gR H rfl kd_0_5 (fun r8 H => ?_)
    refine r_iln rfl rfl rfl ?_
    refine r_aI' H rfl (fun t9 H => ?_)
    refine r_vtI (rest := []) H rfl rfl rfl (s_X6_fitsRow a0 t9) rfl rfl ⟨rfl, rfl⟩ rfl (fun t10 h11 H => ?_)
    refine r_if H rfl rfl (fun H => ?_) (fun H => ?_)
    · refine r_inc (v := 1) (L' := [some (.ref a0), some (.int ys1_0), some (.int (ys1_1 + (1 : Int32)))]) rfl rfl ci_1 rfl ?_
      refine r_go rfl ?_
      have q := K2 _ _ H _ _ rfl
      exact q
    · refine r_iln rfl rfl rfl ?_
      refine r_ic (v := 1) rfl ci_1 ?_
      refine r_iln rfl rfl rfl ?_
      refine r_shl rfl ?_
      refine r_or rfl ?_
      refine r_isn (L' := [some (.ref a0), some (.int (ys1_0 ||| ((1 : Int32) <<< (ys1_1 &&& (31 : Int32))))), some (.int ys1_1)]) rfl rfl (Nat.le_of_ble_eq_true rfl) rfl ?_
      refine r_inc (v := 1) (L' := [some (.ref a0), some (.int (ys1_0 ||| ((1 : Int32) <<< (ys1_1 &&& (31 : Int32))))), some (.int (ys1_1 + (1 : Int32)))]) rfl rfl ci_1 rfl ?_
      refine r_go rfl ?_
      have q := K2 _ _ H _ _ rfl
      exact q
def f_X6_thief (a0 : Nat) (a1 : Int32) : M Int32 := bnd (f_X6_noChoice a1 (3 : Int32)) fun t1 => bnd (cv 5 a0 (f_X6_rowTooLong a0)) fun t3 => bnd (f_X6_first t1 t3) fun t5 => if t5 = (0 : Int32) then if ¬ a1 = (2 : Int32) then loopK NF (fun (s7 : Int32 × Int32 × Int32) k8 => if s7.2.2 < (0 : Int32) then if ¬ a1 = (0 : Int32) then rt s7.2.1 else rt s7.1 else bnd (cv 5 a0 (f_X6_fitsRow a0 s7.2.2)) fun t9 => if t9 = (0 : Int32) then k8 (s7.1, s7.2.1, (s7.2.2 + (-1 : Int32))) else k8 ((s7.1 + (1 : Int32)), s7.2.2, (s7.2.2 + (-1 : Int32)))) ((0 : Int32), (-9 : Int32), (99 : Int32)) else bnd (cv 5 a0 (f_X6_suspects a0)) fun t11 => rt t11 else bnd (cv 5 a0 (f_X6_refuse a0 t5)) fun t13 => rt t13
set_option maxRecDepth 20000 in
theorem s_X6_thief (a0 : Nat) (a1 : Int32) : Sm eX6_thief [.ref a0, .int a1] eI (f_X6_thief a0 a1) := by
  intro hp vr hr H
  unfold f_X6_thief at H
  show Rn none 0 0 eX6_thief 0 [some (.ref a0), some (.int a1), none, none, none, none] [] hp (eI vr, hr)
  refine r_iln rfl rfl rfl ?_
  refine r_ic (v := 3) rfl ci_3 ?_
  refine r_stI (rest := []) H rfl rfl (s_X6_noChoice a1 (3 : Int32)) rfl rfl ⟨rfl, rfl⟩ rfl (fun t1 h2 H => ?_)
  refine r_aln rfl rfl rfl ?_
  refine r_vtI (rest := [.int t1]) H rfl rfl rfl (s_X6_rowTooLong a0) rfl rfl ⟨rfl, rfl⟩ rfl (fun t3 h4 H => ?_)
  refine r_stI (rest := []) H rfl rfl (s_X6_first t1 t3) rfl rfl ⟨rfl, rfl⟩ rfl (fun t5 h6 H => ?_)
  refine r_isn (L' := [some (.ref a0), some (.int a1), some (.int t5), none, none, none]) rfl rfl (Nat.le_of_ble_eq_true rfl) rfl ?_
  refine r_iln rfl rfl rfl ?_
  refine r_if H rfl rfl (fun H => ?_) (fun H => ?_)
  · refine r_iln rfl rfl rfl ?_
    refine r_ic (v := 2) rfl ci_2 ?_
    refine r_cmp H rfl rfl (fun H => ?_) (fun H => ?_)
    · refine r_ic (v := 0) rfl ci_0 ?_
      refine r_isn (L' := [some (.ref a0), some (.int a1), some (.int t5), some (.int (0 : Int32)), none, none]) rfl rfl (Nat.le_of_ble_eq_true rfl) rfl ?_
      refine r_bi (v := -9) rfl cb_m9 ?_
      refine r_is (L' := [some (.ref a0), some (.int a1), some (.int t5), some (.int (0 : Int32)), some (.int (-9 : Int32)), none]) rfl (Nat.le_of_ble_eq_true rfl) rfl ?_
      refine r_bi (v := 99) rfl cb_99 ?_
      refine r_is (L' := [some (.ref a0), some (.int a1), some (.int t5), some (.int (0 : Int32)), some (.int (-9 : Int32)), some (.int (99 : Int32))]) rfl (Nat.le_of_ble_eq_true rfl) rfl ?_
      refine (r_loop (P := (fun (s7 : Int32 × Int32 × Int32) hq => ∀ ys7_0 : Int32, ∀ ys7_1 : Int32, ∀ ys7_2 : Int32, s7 = (ys7_0, ys7_1, ys7_2) → Rn none 0 0 eX6_thief 25 [some (.ref a0), some (.int a1), some (.int t5), some (.int ys7_0), some (.int ys7_1), some (.int ys7_2)] [] hq (eI vr, hr))) ?_ NF _ _ H) _ _ _ rfl
      intro k8 K8 s7 hs7 H ys7_0 ys7_1 ys7_2 es7 
      subst es7
      refine r_il rfl rfl ?_
      refine r_if H rfl rfl (fun H => ?_) (fun H => ?_)
      · refine r_iln rfl rfl rfl ?_
        refine r_if H rfl rfl (fun H => ?_) (fun H => ?_)
        · refine r_il rfl rfl ?_
          exact r_reti H rfl rfl ⟨Nat.zero_le _, Nat.zero_le _⟩
        · refine r_iln rfl rfl rfl ?_
          refine r_go rfl ?_
          exact r_reti H rfl rfl ⟨Nat.zero_le _, Nat.zero_le _⟩
      · refine r_aln rfl rfl rfl ?_
        refine r_il rfl rfl ?_
        refine r_vtI (rest := []) H rfl rfl rfl (s_X6_fitsRow a0 ys7_2) rfl rfl ⟨rfl, rfl⟩ rfl (fun t9 h10 H => ?_)
        refine r_if H rfl rfl (fun H => ?_) (fun H => ?_)
        · refine r_inc (v := -1) (L' := [some (.ref a0), some (.int a1), some (.int t5), some (.int ys7_0), some (.int ys7_1), some (.int (ys7_2 + (-1 : Int32)))]) rfl rfl ci_m1 rfl ?_
          refine r_go rfl ?_
          have q := K8 _ _ H _ _ _ rfl
          exact q
        · refine r_inc (v := 1) (L' := [some (.ref a0), some (.int a1), some (.int t5), some (.int (ys7_0 + (1 : Int32))), some (.int ys7_1), some (.int ys7_2)]) rfl rfl ci_1 rfl ?_
          refine r_il rfl rfl ?_
          refine r_is (L' := [some (.ref a0), some (.int a1), some (.int t5), some (.int (ys7_0 + (1 : Int32))), some (.int ys7_2), some (.int ys7_2)]) rfl (Nat.le_of_ble_eq_true rfl) rfl ?_
          refine r_inc (v := -1) (L' := [some (.ref a0), some (.int a1), some (.int t5), some (.int (ys7_0 + (1 : Int32))), some (.int ys7_2), some (.int (ys7_2 + (-1 : Int32)))]) rfl rfl ci_m1 rfl ?_
          refine r_go rfl ?_
          have q := K8 _ _ H _ _ _ rfl
          exact q
    · refine r_aln rfl rfl rfl ?_
      refine r_vtI (rest := []) H rfl rfl rfl (s_X6_suspects a0) rfl rfl ⟨rfl, rfl⟩ rfl (fun t11 h12 H => ?_)
      exact r_reti H rfl rfl ⟨Nat.zero_le _, Nat.zero_le _⟩
  · refine r_aln rfl rfl rfl ?_
    refine r_iln rfl rfl rfl ?_
    refine r_vtI (rest := []) H rfl rfl rfl (s_X6_refuse a0 t5) rfl rfl ⟨rfl, rfl⟩ rfl (fun t13 h14 H => ?_)
    exact r_reti H rfl rfl ⟨Nat.zero_le _, Nat.zero_le _⟩
def f_X6_kindsOfWords (a0 : Nat) (a1 : Int32) : M Int32 := bnd (gR 5 10 a0) fun r1 => bnd (f_J7_fill_53178 r1 (0 : Int32)) fun _ => loopK NF (fun (s4 : Int32 × Int32) k5 => if (100 : Int32) ≤ s4.2 then rt s4.1 else bnd (gR 5 0 a0) fun r8 => bnd (gR 4 0 r8) fun r9 => bnd (cv 0 r9 (f_X0_word r9 a1 s4.2)) fun t10 => jn (fun k13 => if t10 < (0 : Int32) then k13 (0 : Int32) else if (100 : Int32) ≤ t10 then k13 (0 : Int32) else bnd (gR 5 10 a0) fun r17 => bnd (aI r17 t10) fun t18 => if ¬ t18 = (0 : Int32) then k13 (0 : Int32) else k13 (1 : Int32)) (fun (s12 : Int32) => if s12 = (0 : Int32) then k5 (s4.1, (s4.2 + (1 : Int32))) else bnd (cv 5 a0 (f_X6_fitsRow a0 s4.2)) fun t14 => if t14 = (0 : Int32) then k5 (s4.1, (s4.2 + (1 : Int32))) else bnd (gR 5 10 a0) fun r16 => bnd (sI r16 t10 (1 : Int32)) fun _ => k5 ((s4.1 + (1 : Int32)), (s4.2 + (1 : Int32))))) ((0 : Int32), (0 : Int32))
set_option maxRecDepth 20000 in
theorem s_X6_kindsOfWords (a0 : Nat) (a1 : Int32) : Sm eX6_kindsOfWords [.ref a0, .int a1] eI (f_X6_kindsOfWords a0 a1) := by
  intro hp vr hr H
  unfold f_X6_kindsOfWords at H
  show Rn none 0 0 eX6_kindsOfWords 0 [some (.ref a0), some (.int a1), none, none, none, none] [] hp (eI vr, hr)
  refine r_ic (v := 0) rfl ci_0 ?_
  refine r_isn (L' := [some (.ref a0), some (.int a1), some (.int (0 : Int32)), none, none, none]) rfl rfl (Nat.le_of_ble_eq_true rfl) rfl ?_
  refine r_aln rfl rfl rfl ?_
  refine r_gR H rfl kd_5_10 (fun r1 H => ?_)
  refine r_ic (v := 0) rfl ci_0 ?_
  refine r_stU (rest := []) H rfl rfl (s_J7_fill_53178 r1 (0 : Int32)) rfl rfl ⟨rfl, rfl⟩ rfl (fun t2 h3 H => ?_)
  refine r_ic (v := 0) rfl ci_0 ?_
  refine r_isn (L' := [some (.ref a0), some (.int a1), some (.int (0 : Int32)), some (.int (0 : Int32)), none, none]) rfl rfl (Nat.le_of_ble_eq_true rfl) rfl ?_
  refine (r_loop (P := (fun (s4 : Int32 × Int32) hq => ∀ ys4_0 : Int32, ∀ ys4_1 : Int32, s4 = (ys4_0, ys4_1) → ∀ x6 : Option Value, ∀ x7 : Option Value, Rn none 0 0 eX6_kindsOfWords 8 [some (.ref a0), some (.int a1), some (.int ys4_0), some (.int ys4_1), x6, x7] [] hq (eI vr, hr))) ?_ NF _ _ H) _ _ rfl _ _
  intro k5 K5 s4 hs4 H ys4_0 ys4_1 es4 x6 x7
  subst es4
  refine r_iln rfl rfl rfl ?_
  refine r_bi (v := 100) rfl cb_100 ?_
  refine r_cmp H rfl rfl (fun H => ?_) (fun H => ?_)
  · refine r_iln rfl rfl rfl ?_
    exact r_reti H rfl rfl ⟨Nat.zero_le _, Nat.zero_le _⟩
  · refine r_aln rfl rfl rfl ?_
    refine r_gR H rfl kd_5_0 (fun r8 H => ?_)
    refine r_gR H rfl kd_4_0 (fun r9 H => ?_)
    refine r_iln rfl rfl rfl ?_
    refine r_iln rfl rfl rfl ?_
    refine r_vtI (rest := []) H rfl rfl rfl (s_X0_word r9 a1 ys4_1) rfl rfl ⟨rfl, rfl⟩ rfl (fun t10 h11 H => ?_)
    refine r_is (L' := [some (.ref a0), some (.int a1), some (.int ys4_0), some (.int ys4_1), some (.int t10), x7]) rfl (Nat.le_of_ble_eq_true rfl) rfl ?_
    refine r_il rfl rfl ?_
    refine r_jn (P := (fun (s12 : Int32) hq => Rn none 0 0 eX6_kindsOfWords 31 [some (.ref a0), some (.int a1), some (.int ys4_0), some (.int ys4_1), some (.int t10), x7] [.int s12] hq (eI vr, hr))) H (fun s12 hs12 H  => ?_) (fun k13 K13 H => ?_)
    · refine r_is (L' := [some (.ref a0), some (.int a1), some (.int ys4_0), some (.int ys4_1), some (.int t10), some (.int s12)]) rfl (Nat.le_of_ble_eq_true rfl) rfl ?_
      refine r_il rfl rfl ?_
      refine r_if H rfl rfl (fun H => ?_) (fun H => ?_)
      · refine r_inc (v := 1) (L' := [some (.ref a0), some (.int a1), some (.int ys4_0), some (.int (ys4_1 + (1 : Int32))), some (.int t10), some (.int s12)]) rfl rfl ci_1 rfl ?_
        refine r_go rfl ?_
        have q := K5 _ _ H _ _ rfl
        exact q _ _
      · refine r_aln rfl rfl rfl ?_
        refine r_iln rfl rfl rfl ?_
        refine r_vtI (rest := []) H rfl rfl rfl (s_X6_fitsRow a0 ys4_1) rfl rfl ⟨rfl, rfl⟩ rfl (fun t14 h15 H => ?_)
        refine r_if H rfl rfl (fun H => ?_) (fun H => ?_)
        · refine r_inc (v := 1) (L' := [some (.ref a0), some (.int a1), some (.int ys4_0), some (.int (ys4_1 + (1 : Int32))), some (.int t10), some (.int s12)]) rfl rfl ci_1 rfl ?_
          refine r_go rfl ?_
          have q := K5 _ _ H _ _ rfl
          exact q _ _
        · refine r_aln rfl rfl rfl ?_
          refine r_gR H rfl kd_5_10 (fun r16 H => ?_)
          refine r_il rfl rfl ?_
          refine r_ic (v := 1) rfl ci_1 ?_
          refine r_sI H rfl (fun H => ?_)
          refine r_inc (v := 1) (L' := [some (.ref a0), some (.int a1), some (.int (ys4_0 + (1 : Int32))), some (.int ys4_1), some (.int t10), some (.int s12)]) rfl rfl ci_1 rfl ?_
          refine r_inc (v := 1) (L' := [some (.ref a0), some (.int a1), some (.int (ys4_0 + (1 : Int32))), some (.int (ys4_1 + (1 : Int32))), some (.int t10), some (.int s12)]) rfl rfl ci_1 rfl ?_
          refine r_go rfl ?_
          have q := K5 _ _ H _ _ rfl
          exact q _ _
    · refine r_if H rfl rfl (fun H => ?_) (fun H => ?_)
      · refine r_ic (v := 0) rfl ci_0 ?_
        have q := K13 _ _ H
        exact q
      · refine r_il rfl rfl ?_
        refine r_bi (v := 100) rfl cb_100 ?_
        refine r_cmp H rfl rfl (fun H => ?_) (fun H => ?_)
        · refine r_ic (v := 0) rfl ci_0 ?_
          have q := K13 _ _ H
          exact q
        · refine r_aln rfl rfl rfl ?_
          refine r_gR H rfl kd_5_10 (fun r17 H => ?_)
          refine r_il rfl rfl ?_
          refine r_aI' H rfl (fun t18 H => ?_)
          refine r_if H rfl rfl (fun H => ?_) (fun H => ?_)
          · refine r_ic (v := 0) rfl ci_0 ?_
            have q := K13 _ _ H
            exact q
          · refine r_ic (v := 1) rfl ci_1 ?_
            refine r_go rfl ?_
            have q := K13 _ _ H
            exact q
def f_X6_tellsMost (a0 : Nat) (a1 : Int32) : M Int32 := bnd (f_X6_noChoice a1 (2 : Int32)) fun t1 => bnd (cv 5 a0 (f_X6_rowTooLong a0)) fun t3 => bnd (gR 5 0 a0) fun r5 => bnd (gR 4 0 r5) fun r6 => bnd (gI 0 0 r6) fun t7 => jn (fun k9 => if ¬ t7 = (0 : Int32) then k9 (0 : Int32) else k9 (-3 : Int32)) (fun (s8 : Int32) => bnd (f_X6_first t3 s8) fun t10 => bnd (f_X6_first t1 t10) fun t12 => if t12 = (0 : Int32) then loopK NF (fun (s14 : Int32 × Int32 × Int32) k15 => bnd (gR 5 0 a0) fun r17 => bnd (gR 4 0 r17) fun r18 => bnd (gI 0 0 r18) fun t19 => if t19 ≤ s14.2.2 then if a1 = (0 : Int32) then rt s14.1 else if ¬ s14.1 = (-9 : Int32) then rt s14.2.1 else rt s14.1 else bnd (cv 5 a0 (f_X6_kindsOfWords a0 s14.2.2)) fun t20 => if t20 ≤ s14.2.1 then k15 (s14.1, s14.2.1, (s14.2.2 + (1 : Int32))) else k15 (s14.2.2, t20, (s14.2.2 + (1 : Int32)))) ((-9 : Int32), (0 : Int32), (0 : Int32)) else bnd (cv 5 a0 (f_X6_refuse a0 t12)) fun t22 => rt t22)
set_option maxRecDepth 20000 in
theorem s_X6_tellsMost (a0 : Nat) (a1 : Int32) : Sm eX6_tellsMost [.ref a0, .int a1] eI (f_X6_tellsMost a0 a1) := by
  intro hp vr hr H
  unfold f_X6_tellsMost at H
  show Rn none 0 0 eX6_tellsMost 0 [some (.ref a0), some (.int a1), none, none, none, none, none] [] hp (eI vr, hr)
  refine r_iln rfl rfl rfl ?_
  refine r_ic (v := 2) rfl ci_2 ?_
  refine r_stI (rest := []) H rfl rfl (s_X6_noChoice a1 (2 : Int32)) rfl rfl ⟨rfl, rfl⟩ rfl (fun t1 h2 H => ?_)
  refine r_aln rfl rfl rfl ?_
  refine r_vtI (rest := [.int t1]) H rfl rfl rfl (s_X6_rowTooLong a0) rfl rfl ⟨rfl, rfl⟩ rfl (fun t3 h4 H => ?_)
  refine r_aln rfl rfl rfl ?_
  refine r_gR H rfl kd_5_0 (fun r5 H => ?_)
  refine r_gR H rfl kd_4_0 (fun r6 H => ?_)
  refine r_gI' H rfl kl_0_0 (fun t7 H => ?_)
  refine r_jn (P := (fun (s8 : Int32) hq => Rn none 0 0 eX6_tellsMost 13 [some (.ref a0), some (.int a1), none, none, none, none, none] [.int s8, .int t3, .int t1] hq (eI vr, hr))) H (fun s8 hs8 H  => ?_) (fun k9 K9 H => ?_)
  · refine r_stI (rest := [.int t1]) H rfl rfl (s_X6_first t3 s8) rfl rfl ⟨rfl, rfl⟩ rfl (fun t10 h11 H => ?_)
    refine r_stI (rest := []) H rfl rfl (s_X6_first t1 t10) rfl rfl ⟨rfl, rfl⟩ rfl (fun t12 h13 H => ?_)
    refine r_isn (L' := [some (.ref a0), some (.int a1), some (.int t12), none, none, none, none]) rfl rfl (Nat.le_of_ble_eq_true rfl) rfl ?_
    refine r_iln rfl rfl rfl ?_
    refine r_if H rfl rfl (fun H => ?_) (fun H => ?_)
    · refine r_bi (v := -9) rfl cb_m9 ?_
      refine r_isn (L' := [some (.ref a0), some (.int a1), some (.int t12), some (.int (-9 : Int32)), none, none, none]) rfl rfl (Nat.le_of_ble_eq_true rfl) rfl ?_
      refine r_ic (v := 0) rfl ci_0 ?_
      refine r_is (L' := [some (.ref a0), some (.int a1), some (.int t12), some (.int (-9 : Int32)), some (.int (0 : Int32)), none, none]) rfl (Nat.le_of_ble_eq_true rfl) rfl ?_
      refine r_ic (v := 0) rfl ci_0 ?_
      refine r_is (L' := [some (.ref a0), some (.int a1), some (.int t12), some (.int (-9 : Int32)), some (.int (0 : Int32)), some (.int (0 : Int32)), none]) rfl (Nat.le_of_ble_eq_true rfl) rfl ?_
      refine (r_loop (P := (fun (s14 : Int32 × Int32 × Int32) hq => ∀ ys14_0 : Int32, ∀ ys14_1 : Int32, ∀ ys14_2 : Int32, s14 = (ys14_0, ys14_1, ys14_2) → ∀ x16 : Option Value, Rn none 0 0 eX6_tellsMost 28 [some (.ref a0), some (.int a1), some (.int t12), some (.int ys14_0), some (.int ys14_1), some (.int ys14_2), x16] [] hq (eI vr, hr))) ?_ NF _ _ H) _ _ _ rfl _
      intro k15 K15 s14 hs14 H ys14_0 ys14_1 ys14_2 es14 x16
      subst es14
      refine r_il rfl rfl ?_
      refine r_aln rfl rfl rfl ?_
      refine r_gR H rfl kd_5_0 (fun r17 H => ?_)
      refine r_gR H rfl kd_4_0 (fun r18 H => ?_)
      refine r_gI' H rfl kl_0_0 (fun t19 H => ?_)
      refine r_cmp H rfl rfl (fun H => ?_) (fun H => ?_)
      · refine r_iln rfl rfl rfl ?_
        refine r_if H rfl rfl (fun H => ?_) (fun H => ?_)
        · refine r_iln rfl rfl rfl ?_
          refine r_go rfl ?_
          exact r_reti H rfl rfl ⟨Nat.zero_le _, Nat.zero_le _⟩
        · refine r_iln rfl rfl rfl ?_
          refine r_bi (v := -9) rfl cb_m9 ?_
          refine r_cmp H rfl rfl (fun H => ?_) (fun H => ?_)
          · refine r_il rfl rfl ?_
            exact r_reti H rfl rfl ⟨Nat.zero_le _, Nat.zero_le _⟩
          · refine r_iln rfl rfl rfl ?_
            refine r_go rfl ?_
            exact r_reti H rfl rfl ⟨Nat.zero_le _, Nat.zero_le _⟩
      · refine r_aln rfl rfl rfl ?_
        refine r_il rfl rfl ?_
        refine r_vtI (rest := []) H rfl rfl rfl (s_X6_kindsOfWords a0 ys14_2) rfl rfl ⟨rfl, rfl⟩ rfl (fun t20 h21 H => ?_)
        refine r_is (L' := [some (.ref a0), some (.int a1), some (.int t12), some (.int ys14_0), some (.int ys14_1), some (.int ys14_2), some (.int t20)]) rfl (Nat.le_of_ble_eq_true rfl) rfl ?_
        refine r_il rfl rfl ?_
        refine r_il rfl rfl ?_
        refine r_cmp H rfl rfl (fun H => ?_) (fun H => ?_)
        · refine r_inc (v := 1) (L' := [some (.ref a0), some (.int a1), some (.int t12), some (.int ys14_0), some (.int ys14_1), some (.int (ys14_2 + (1 : Int32))), some (.int t20)]) rfl rfl ci_1 rfl ?_
          refine r_go rfl ?_
          have q := K15 _ _ H _ _ _ rfl
          exact q _
        · refine r_il rfl rfl ?_
          refine r_is (L' := [some (.ref a0), some (.int a1), some (.int t12), some (.int ys14_0), some (.int t20), some (.int ys14_2), some (.int t20)]) rfl (Nat.le_of_ble_eq_true rfl) rfl ?_
          refine r_il rfl rfl ?_
          refine r_isn (L' := [some (.ref a0), some (.int a1), some (.int t12), some (.int ys14_2), some (.int t20), some (.int ys14_2), some (.int t20)]) rfl rfl (Nat.le_of_ble_eq_true rfl) rfl ?_
          refine r_inc (v := 1) (L' := [some (.ref a0), some (.int a1), some (.int t12), some (.int ys14_2), some (.int t20), some (.int (ys14_2 + (1 : Int32))), some (.int t20)]) rfl rfl ci_1 rfl ?_
          refine r_go rfl ?_
          have q := K15 _ _ H _ _ _ rfl
          exact q _
    · refine r_aln rfl rfl rfl ?_
      refine r_iln rfl rfl rfl ?_
      refine r_vtI (rest := []) H rfl rfl rfl (s_X6_refuse a0 t12) rfl rfl ⟨rfl, rfl⟩ rfl (fun t22 h23 H => ?_)
      exact r_reti H rfl rfl ⟨Nat.zero_le _, Nat.zero_le _⟩
  · refine r_if H rfl rfl (fun H => ?_) (fun H => ?_)
    · refine r_ic (v := 0) rfl ci_0 ?_
      have q := K9 _ _ H
      exact q
    · refine r_bi (v := -3) rfl cb_m3 ?_
      refine r_go rfl ?_
      have q := K9 _ _ H
      exact q
def f_X6_costWith (a0 : Nat) (a1 : Int32) (a2 : Int32) (a3 : Int32) : M Int32 := bnd (gR 5 0 a0) fun r1 => bnd (gR 4 0 r1) fun r2 => bnd (gR 0 5 r2) fun r3 => bnd (aI r3 a1) fun t4 => bnd (gR 5 7 a0) fun r5 => bnd (aI r5 a2) fun t6 => bnd (gR 5 11 a0) fun r7 => bnd (aI r7 (a3 ||| ((1 : Int32) <<< (a2 &&& (31 : Int32))))) fun t8 => rt ((mabs (t4 - t6)) + t8)
set_option maxRecDepth 20000 in
theorem s_X6_costWith (a0 : Nat) (a1 : Int32) (a2 : Int32) (a3 : Int32) : Sm eX6_costWith [.ref a0, .int a1, .int a2, .int a3] eI (f_X6_costWith a0 a1 a2 a3) := by
  intro hp vr hr H
  unfold f_X6_costWith at H
  show Rn none 0 0 eX6_costWith 0 [some (.ref a0), some (.int a1), some (.int a2), some (.int a3)] [] hp (eI vr, hr)
  refine r_aln rfl rfl rfl ?_
  refine r_gR H rfl kd_5_0 (fun r1 H => ?_)
  refine r_gR H rfl kd_4_0 (fun r2 H => ?_)
  refine r_gR H rfl kd_0_5 (fun r3 H => ?_)
  refine r_iln rfl rfl rfl ?_
  refine r_aI' H rfl (fun t4 H => ?_)
  refine r_aln rfl rfl rfl ?_
  refine r_gR H rfl kd_5_7 (fun r5 H => ?_)
  refine r_iln rfl rfl rfl ?_
  refine r_aI' H rfl (fun t6 H => ?_)
  refine r_sub rfl ?_
  refine r_abs rfl rfl (Nat.le_of_ble_eq_true rfl) rfl ?_
  refine r_aln rfl rfl rfl ?_
  refine r_gR H rfl kd_5_11 (fun r7 H => ?_)
  refine r_iln rfl rfl rfl ?_
  refine r_ic (v := 1) rfl ci_1 ?_
  refine r_iln rfl rfl rfl ?_
  refine r_shl rfl ?_
  refine r_or rfl ?_
  refine r_aI' H rfl (fun t8 H => ?_)
  refine r_add rfl ?_
  exact r_reti H rfl rfl ⟨Nat.zero_le _, Nat.zero_le _⟩
def f_X6_fillCosts (a0 : Nat) : M Unit := bnd (gI 5 8 a0) fun t1 => bnd (gR 5 11 a0) fun r2 => bnd (sI r2 (((1 : Int32) <<< (t1 &&& (31 : Int32))) - (1 : Int32)) (0 : Int32)) fun _ => loopK NF (fun (s3 : Int32) k4 => if s3 < (0 : Int32) then rt () else bnd (f_J6_bitCount_0f7a4 s3) fun t8 => loopK NF (fun (s10 : Int32 × Int32) k11 => bnd (gI 5 8 a0) fun t12 => if t12 ≤ s10.2 then bnd (gR 5 11 a0) fun r13 => bnd (sI r13 s3 s10.1) fun _ => k4 (s3 + (-1 : Int32)) else bnd (f_X6_holds s3 s10.2) fun t14 => if ¬ t14 = (0 : Int32) then k11 (s10.1, (s10.2 + (1 : Int32))) else bnd (cv 5 a0 (f_X6_costWith a0 t8 s10.2 s3)) fun t16 => k11 ((mmin s10.1 t16), (s10.2 + (1 : Int32)))) ((1000000 : Int32), (0 : Int32))) ((((1 : Int32) <<< (t1 &&& (31 : Int32))) - (1 : Int32)) - (1 : Int32))
set_option maxRecDepth 20000 in
theorem s_X6_fillCosts (a0 : Nat) : Sm eX6_fillCosts [.ref a0] eU (f_X6_fillCosts a0) := by
  intro hp vr hr H
  unfold f_X6_fillCosts at H
  show Rn none 0 0 eX6_fillCosts 0 [some (.ref a0), none, none, none, none, none] [] hp (eU vr, hr)
  refine r_ic (v := 1) rfl ci_1 ?_
  refine r_aln rfl rfl rfl ?_
  refine r_gI' H rfl kl_5_8 (fun t1 H => ?_)
  refine r_shl rfl ?_
  refine r_ic (v := 1) rfl ci_1 ?_
  refine r_sub rfl ?_
  refine r_isn (L' := [some (.ref a0), some (.int (((1 : Int32) <<< (t1 &&& (31 : Int32))) - (1 : Int32))), none, none, none, none]) rfl rfl (Nat.le_of_ble_eq_true rfl) rfl ?_
  refine r_aln rfl rfl rfl ?_
  refine r_gR H rfl kd_5_11 (fun r2 H => ?_)
  refine r_iln rfl rfl rfl ?_
  refine r_ic (v := 0) rfl ci_0 ?_
  refine r_sI H rfl (fun H => ?_)
  refine r_iln rfl rfl rfl ?_
  refine r_ic (v := 1) rfl ci_1 ?_
  refine r_sub rfl ?_
  refine r_isn (L' := [some (.ref a0), some (.int (((1 : Int32) <<< (t1 &&& (31 : Int32))) - (1 : Int32))), some (.int ((((1 : Int32) <<< (t1 &&& (31 : Int32))) - (1 : Int32)) - (1 : Int32))), none, none, none]) rfl rfl (Nat.le_of_ble_eq_true rfl) rfl ?_
  refine (r_loop (P := (fun (s3 : Int32) hq => ∀ x5 : Option Value, ∀ x6 : Option Value, ∀ x7 : Option Value, Rn none 0 0 eX6_fillCosts 16 [some (.ref a0), some (.int (((1 : Int32) <<< (t1 &&& (31 : Int32))) - (1 : Int32))), some (.int s3), x5, x6, x7] [] hq (eU vr, hr))) ?_ NF _ _ H) _ _ _
  intro k4 K4 s3 hs3 H x5 x6 x7
  refine r_iln rfl rfl rfl ?_
  refine r_if H rfl rfl (fun H => ?_) (fun H => ?_)
  · exact r_retv H rfl rfl ⟨Nat.zero_le _, Nat.zero_le _⟩
  · refine r_iln rfl rfl rfl ?_
    refine r_stI (rest := []) H rfl rfl (s_J6_bitCount_0f7a4 s3) rfl rfl ⟨rfl, rfl⟩ rfl (fun t8 h9 H => ?_)
    refine r_isn (L' := [some (.ref a0), some (.int (((1 : Int32) <<< (t1 &&& (31 : Int32))) - (1 : Int32))), some (.int s3), some (.int t8), x6, x7]) rfl rfl (Nat.le_of_ble_eq_true rfl) rfl ?_
    refine r_lc (v := 1000000) rfl cn_1000000 ?_
    refine r_is (L' := [some (.ref a0), some (.int (((1 : Int32) <<< (t1 &&& (31 : Int32))) - (1 : Int32))), some (.int s3), some (.int t8), some (.int (1000000 : Int32)), x7]) rfl (Nat.le_of_ble_eq_true rfl) rfl ?_
    refine r_ic (v := 0) rfl ci_0 ?_
    refine r_is (L' := [some (.ref a0), some (.int (((1 : Int32) <<< (t1 &&& (31 : Int32))) - (1 : Int32))), some (.int s3), some (.int t8), some (.int (1000000 : Int32)), some (.int (0 : Int32))]) rfl (Nat.le_of_ble_eq_true rfl) rfl ?_
    refine (r_loop (P := (fun (s10 : Int32 × Int32) hq => ∀ ys10_0 : Int32, ∀ ys10_1 : Int32, s10 = (ys10_0, ys10_1) → Rn none 0 0 eX6_fillCosts 25 [some (.ref a0), some (.int (((1 : Int32) <<< (t1 &&& (31 : Int32))) - (1 : Int32))), some (.int s3), some (.int t8), some (.int ys10_0), some (.int ys10_1)] [] hq (eU vr, hr))) ?_ NF _ _ H) _ _ rfl
    intro k11 K11 s10 hs10 H ys10_0 ys10_1 es10 
    subst es10
    refine r_il rfl rfl ?_
    refine r_aln rfl rfl rfl ?_
    refine r_gI' H rfl kl_5_8 (fun t12 H => ?_)
    refine r_cmp H rfl rfl (fun H => ?_) (fun H => ?_)
    · refine r_aln rfl rfl rfl ?_
      refine r_gR H rfl kd_5_11 (fun r13 H => ?_)
      refine r_iln rfl rfl rfl ?_
      refine r_il rfl rfl ?_
      refine r_sI H rfl (fun H => ?_)
      refine r_inc (v := -1) (L' := [some (.ref a0), some (.int (((1 : Int32) <<< (t1 &&& (31 : Int32))) - (1 : Int32))), some (.int (s3 + (-1 : Int32))), some (.int t8), some (.int ys10_0), some (.int ys10_1)]) rfl rfl ci_m1 rfl ?_
      refine r_go rfl ?_
      have q := K4 _ _ H
      exact q _ _ _
    · refine r_iln rfl rfl rfl ?_
      refine r_il rfl rfl ?_
      refine r_stI (rest := []) H rfl rfl (s_X6_holds s3 ys10_1) rfl rfl ⟨rfl, rfl⟩ rfl (fun t14 h15 H => ?_)
      refine r_if H rfl rfl (fun H => ?_) (fun H => ?_)
      · refine r_inc (v := 1) (L' := [some (.ref a0), some (.int (((1 : Int32) <<< (t1 &&& (31 : Int32))) - (1 : Int32))), some (.int s3), some (.int t8), some (.int ys10_0), some (.int (ys10_1 + (1 : Int32)))]) rfl rfl ci_1 rfl ?_
        refine r_go rfl ?_
        have q := K11 _ _ H _ _ rfl
        exact q
      · refine r_il rfl rfl ?_
        refine r_aln rfl rfl rfl ?_
        refine r_iln rfl rfl rfl ?_
        refine r_il rfl rfl ?_
        refine r_iln rfl rfl rfl ?_
        refine r_vtI (rest := [.int ys10_0]) H rfl rfl rfl (s_X6_costWith a0 t8 ys10_1 s3) rfl rfl ⟨rfl, rfl⟩ rfl (fun t16 h17 H => ?_)
        refine r_min rfl rfl (Nat.le_of_ble_eq_true rfl) rfl ?_
        refine r_is (L' := [some (.ref a0), some (.int (((1 : Int32) <<< (t1 &&& (31 : Int32))) - (1 : Int32))), some (.int s3), some (.int t8), some (.int (mmin ys10_0 t16)), some (.int ys10_1)]) rfl (Nat.le_of_ble_eq_true rfl) rfl ?_
        refine r_inc (v := 1) (L' := [some (.ref a0), some (.int (((1 : Int32) <<< (t1 &&& (31 : Int32))) - (1 : Int32))), some (.int s3), some (.int t8), some (.int (mmin ys10_0 t16)), some (.int (ys10_1 + (1 : Int32)))]) rfl rfl ci_1 rfl ?_
        refine r_go rfl ?_
        have q := K11 _ _ H _ _ rfl
        exact q
def f_X6_firstPhoto (a0 : Nat) (a1 : Int32) (a2 : Int32) : M Int32 := loopK NF (fun (s1 : Int32) k2 => bnd (gI 5 8 a0) fun t3 => if t3 ≤ s1 then rt (-9 : Int32) else bnd (f_X6_holds a2 s1) fun t4 => if ¬ t4 = (0 : Int32) then k2 (s1 + (1 : Int32)) else bnd (cv 5 a0 (f_X6_costWith a0 a1 s1 a2)) fun t6 => bnd (gR 5 11 a0) fun r8 => bnd (aI r8 a2) fun t9 => if ¬ t6 = t9 then k2 (s1 + (1 : Int32)) else rt s1) (0 : Int32)
set_option maxRecDepth 20000 in
theorem s_X6_firstPhoto (a0 : Nat) (a1 : Int32) (a2 : Int32) : Sm eX6_firstPhoto [.ref a0, .int a1, .int a2] eI (f_X6_firstPhoto a0 a1 a2) := by
  intro hp vr hr H
  unfold f_X6_firstPhoto at H
  show Rn none 0 0 eX6_firstPhoto 0 [some (.ref a0), some (.int a1), some (.int a2), none] [] hp (eI vr, hr)
  refine r_ic (v := 0) rfl ci_0 ?_
  refine r_isn (L' := [some (.ref a0), some (.int a1), some (.int a2), some (.int (0 : Int32))]) rfl rfl (Nat.le_of_ble_eq_true rfl) rfl ?_
  refine (r_loop (P := (fun (s1 : Int32) hq => Rn none 0 0 eX6_firstPhoto 2 [some (.ref a0), some (.int a1), some (.int a2), some (.int s1)] [] hq (eI vr, hr))) ?_ NF _ _ H)
  intro k2 K2 s1 hs1 H 
  refine r_iln rfl rfl rfl ?_
  refine r_aln rfl rfl rfl ?_
  refine r_gI' H rfl kl_5_8 (fun t3 H => ?_)
  refine r_cmp H rfl rfl (fun H => ?_) (fun H => ?_)
  · refine r_bi (v := -9) rfl cb_m9 ?_
    exact r_reti H rfl rfl ⟨Nat.zero_le _, Nat.zero_le _⟩
  · refine r_iln rfl rfl rfl ?_
    refine r_iln rfl rfl rfl ?_
    refine r_stI (rest := []) H rfl rfl (s_X6_holds a2 s1) rfl rfl ⟨rfl, rfl⟩ rfl (fun t4 h5 H => ?_)
    refine r_if H rfl rfl (fun H => ?_) (fun H => ?_)
    · refine r_inc (v := 1) (L' := [some (.ref a0), some (.int a1), some (.int a2), some (.int (s1 + (1 : Int32)))]) rfl rfl ci_1 rfl ?_
      refine r_go rfl ?_
      have q := K2 _ _ H
      exact q
    · refine r_aln rfl rfl rfl ?_
      refine r_iln rfl rfl rfl ?_
      refine r_iln rfl rfl rfl ?_
      refine r_iln rfl rfl rfl ?_
      refine r_vtI (rest := []) H rfl rfl rfl (s_X6_costWith a0 a1 s1 a2) rfl rfl ⟨rfl, rfl⟩ rfl (fun t6 h7 H => ?_)
      refine r_aln rfl rfl rfl ?_
      refine r_gR H rfl kd_5_11 (fun r8 H => ?_)
      refine r_iln rfl rfl rfl ?_
      refine r_aI' H rfl (fun t9 H => ?_)
      refine r_cmp H rfl rfl (fun H => ?_) (fun H => ?_)
      · refine r_inc (v := 1) (L' := [some (.ref a0), some (.int a1), some (.int a2), some (.int (s1 + (1 : Int32)))]) rfl rfl ci_1 rfl ?_
        refine r_go rfl ?_
        have q := K2 _ _ H
        exact q
      · refine r_iln rfl rfl rfl ?_
        exact r_reti H rfl rfl ⟨Nat.zero_le _, Nat.zero_le _⟩
def f_X6_photoOf (a0 : Nat) (a1 : Int32) : M Int32 := loopK NF (fun (s1 : Int32 × Int32 × Int32) k2 => if a1 < s1.2.2 then rt s1.2.1 else bnd (cv 5 a0 (f_X6_firstPhoto a0 s1.2.2 s1.1)) fun t3 => if ¬ t3 = (-9 : Int32) then k2 ((s1.1 ||| ((1 : Int32) <<< (t3 &&& (31 : Int32)))), t3, (s1.2.2 + (1 : Int32))) else rt (-9 : Int32)) ((0 : Int32), (-9 : Int32), (0 : Int32))
set_option maxRecDepth 20000 in
theorem s_X6_photoOf (a0 : Nat) (a1 : Int32) : Sm eX6_photoOf [.ref a0, .int a1] eI (f_X6_photoOf a0 a1) := by
  intro hp vr hr H
  unfold f_X6_photoOf at H
  show Rn none 0 0 eX6_photoOf 0 [some (.ref a0), some (.int a1), none, none, none] [] hp (eI vr, hr)
  refine r_ic (v := 0) rfl ci_0 ?_
  refine r_isn (L' := [some (.ref a0), some (.int a1), some (.int (0 : Int32)), none, none]) rfl rfl (Nat.le_of_ble_eq_true rfl) rfl ?_
  refine r_bi (v := -9) rfl cb_m9 ?_
  refine r_isn (L' := [some (.ref a0), some (.int a1), some (.int (0 : Int32)), some (.int (-9 : Int32)), none]) rfl rfl (Nat.le_of_ble_eq_true rfl) rfl ?_
  refine r_ic (v := 0) rfl ci_0 ?_
  refine r_is (L' := [some (.ref a0), some (.int a1), some (.int (0 : Int32)), some (.int (-9 : Int32)), some (.int (0 : Int32))]) rfl (Nat.le_of_ble_eq_true rfl) rfl ?_
  refine (r_loop (P := (fun (s1 : Int32 × Int32 × Int32) hq => ∀ ys1_0 : Int32, ∀ ys1_1 : Int32, ∀ ys1_2 : Int32, s1 = (ys1_0, ys1_1, ys1_2) → Rn none 0 0 eX6_photoOf 6 [some (.ref a0), some (.int a1), some (.int ys1_0), some (.int ys1_1), some (.int ys1_2)] [] hq (eI vr, hr))) ?_ NF _ _ H) _ _ _ rfl
  intro k2 K2 s1 hs1 H ys1_0 ys1_1 ys1_2 es1 
  subst es1
  refine r_il rfl rfl ?_
  refine r_iln rfl rfl rfl ?_
  refine r_cmp H rfl rfl (fun H => ?_) (fun H => ?_)
  · refine r_iln rfl rfl rfl ?_
    exact r_reti H rfl rfl ⟨Nat.zero_le _, Nat.zero_le _⟩
  · refine r_aln rfl rfl rfl ?_
    refine r_il rfl rfl ?_
    refine r_iln rfl rfl rfl ?_
    refine r_vtI (rest := []) H rfl rfl rfl (s_X6_firstPhoto a0 ys1_2 ys1_0) rfl rfl ⟨rfl, rfl⟩ rfl (fun t3 h4 H => ?_)
    refine r_isn (L' := [some (.ref a0), some (.int a1), some (.int ys1_0), some (.int t3), some (.int ys1_2)]) rfl rfl (Nat.le_of_ble_eq_true rfl) rfl ?_
    refine r_iln rfl rfl rfl ?_
    refine r_bi (v := -9) rfl cb_m9 ?_
    refine r_cmp H rfl rfl (fun H => ?_) (fun H => ?_)
    · refine r_iln rfl rfl rfl ?_
      refine r_ic (v := 1) rfl ci_1 ?_
      refine r_iln rfl rfl rfl ?_
      refine r_shl rfl ?_
      refine r_or rfl ?_
      refine r_isn (L' := [some (.ref a0), some (.int a1), some (.int (ys1_0 ||| ((1 : Int32) <<< (t3 &&& (31 : Int32))))), some (.int t3), some (.int ys1_2)]) rfl rfl (Nat.le_of_ble_eq_true rfl) rfl ?_
      refine r_inc (v := 1) (L' := [some (.ref a0), some (.int a1), some (.int (ys1_0 ||| ((1 : Int32) <<< (t3 &&& (31 : Int32))))), some (.int t3), some (.int (ys1_2 + (1 : Int32)))]) rfl rfl ci_1 rfl ?_
      refine r_go rfl ?_
      have q := K2 _ _ H _ _ _ rfl
      exact q
    · refine r_bi (v := -9) rfl cb_m9 ?_
      exact r_reti H rfl rfl ⟨Nat.zero_le _, Nat.zero_le _⟩
def f_X6_photos (a0 : Nat) (a1 : Int32) : M Int32 := jn (fun k2 => if (-1 : Int32) ≤ a1 then k2 (0 : Int32) else k2 (-4 : Int32)) (fun (s1 : Int32) => jn (fun k4 => if ¬ s1 = (0 : Int32) then k4 s1 else bnd (gI 5 8 a0) fun t14 => bnd (gR 5 0 a0) fun r15 => bnd (gR 4 0 r15) fun r16 => bnd (gI 0 0 r16) fun t17 => if t14 = t17 then k4 s1 else k4 (-3 : Int32)) (fun (s3 : Int32) => if s3 = (0 : Int32) then bnd (cv 5 a0 (f_X6_fillCosts a0)) fun _ => if ¬ a1 = (-1 : Int32) then bnd (gI 5 8 a0) fun t7 => if t7 ≤ a1 then rt (-9 : Int32) else bnd (cv 5 a0 (f_X6_photoOf a0 a1)) fun t8 => rt t8 else bnd (gR 5 11 a0) fun r10 => bnd (aI r10 (0 : Int32)) fun t11 => rt t11 else bnd (cv 5 a0 (f_X6_refuse a0 s3)) fun t12 => rt t12))
set_option maxRecDepth 20000 in
theorem s_X6_photos (a0 : Nat) (a1 : Int32) : Sm eX6_photos [.ref a0, .int a1] eI (f_X6_photos a0 a1) := by
  intro hp vr hr H
  unfold f_X6_photos at H
  show Rn none 0 0 eX6_photos 0 [some (.ref a0), some (.int a1), none] [] hp (eI vr, hr)
  refine r_iln rfl rfl rfl ?_
  refine r_ic (v := -1) rfl ci_m1 ?_
  refine r_jn (P := (fun (s1 : Int32) hq => Rn none 0 0 eX6_photos 6 [some (.ref a0), some (.int a1), none] [.int s1] hq (eI vr, hr))) H (fun s1 hs1 H  => ?_) (fun k2 K2 H => ?_)
  · refine r_isn (L' := [some (.ref a0), some (.int a1), some (.int s1)]) rfl rfl (Nat.le_of_ble_eq_true rfl) rfl ?_
    refine r_iln rfl rfl rfl ?_
    refine r_jn (P := (fun (s3 : Int32) hq => Rn none 0 0 eX6_photos 18 [some (.ref a0), some (.int a1), some (.int s3)] [] hq (eI vr, hr))) H (fun s3 hs3 H  => ?_) (fun k4 K4 H => ?_)
    · refine r_iln rfl rfl rfl ?_
      refine r_if H rfl rfl (fun H => ?_) (fun H => ?_)
      · refine r_aln rfl rfl rfl ?_
        refine r_vtU (rest := []) H rfl rfl rfl (s_X6_fillCosts a0) rfl rfl ⟨rfl, rfl⟩ rfl (fun t5 h6 H => ?_)
        refine r_iln rfl rfl rfl ?_
        refine r_ic (v := -1) rfl ci_m1 ?_
        refine r_cmp H rfl rfl (fun H => ?_) (fun H => ?_)
        · refine r_iln rfl rfl rfl ?_
          refine r_aln rfl rfl rfl ?_
          refine r_gI' H rfl kl_5_8 (fun t7 H => ?_)
          refine r_cmp H rfl rfl (fun H => ?_) (fun H => ?_)
          · refine r_bi (v := -9) rfl cb_m9 ?_
            exact r_reti H rfl rfl ⟨Nat.zero_le _, Nat.zero_le _⟩
          · refine r_aln rfl rfl rfl ?_
            refine r_iln rfl rfl rfl ?_
            refine r_vtI (rest := []) H rfl rfl rfl (s_X6_photoOf a0 a1) rfl rfl ⟨rfl, rfl⟩ rfl (fun t8 h9 H => ?_)
            refine r_go rfl ?_
            exact r_reti H rfl rfl ⟨Nat.zero_le _, Nat.zero_le _⟩
        · refine r_aln rfl rfl rfl ?_
          refine r_gR H rfl kd_5_11 (fun r10 H => ?_)
          refine r_ic (v := 0) rfl ci_0 ?_
          refine r_aI' H rfl (fun t11 H => ?_)
          exact r_reti H rfl rfl ⟨Nat.zero_le _, Nat.zero_le _⟩
      · refine r_aln rfl rfl rfl ?_
        refine r_iln rfl rfl rfl ?_
        refine r_vtI (rest := []) H rfl rfl rfl (s_X6_refuse a0 s3) rfl rfl ⟨rfl, rfl⟩ rfl (fun t12 h13 H => ?_)
        exact r_reti H rfl rfl ⟨Nat.zero_le _, Nat.zero_le _⟩
    · refine r_if H rfl rfl (fun H => ?_) (fun H => ?_)
      · have q := K4 _ _ H
        exact q
      · refine r_aln rfl rfl rfl ?_
        refine r_gI' H rfl kl_5_8 (fun t14 H => ?_)
        refine r_aln rfl rfl rfl ?_
        refine r_gR H rfl kd_5_0 (fun r15 H => ?_)
        refine r_gR H rfl kd_4_0 (fun r16 H => ?_)
        refine r_gI' H rfl kl_0_0 (fun t17 H => ?_)
        refine r_cmp H rfl rfl (fun H => ?_) (fun H => ?_)
        · have q := K4 _ _ H
          exact q
        · refine r_bi (v := -3) rfl cb_m3 ?_
          refine r_isn (L' := [some (.ref a0), some (.int a1), some (.int (-3 : Int32))]) rfl rfl (Nat.le_of_ble_eq_true rfl) rfl ?_
          have q := K4 _ _ H
          exact q
  · refine r_cmp H rfl rfl (fun H => ?_) (fun H => ?_)
    · refine r_ic (v := 0) rfl ci_0 ?_
      have q := K2 _ _ H
      exact q
    · refine r_bi (v := -4) rfl cb_m4 ?_
      refine r_go rfl ?_
      have q := K2 _ _ H
      exact q
def f_X6_barber (a0 : Nat) (a1 : Int32) (a2 : Int32) : M Int32 := bnd (cv 5 a0 (f_X6_noPerson a0 a1)) fun t1 => bnd (f_X6_outside a2 (0 : Int32) (99 : Int32)) fun t3 => bnd (f_X6_first t1 t3) fun t5 => jn (fun k8 => if ¬ t5 = (0 : Int32) then k8 t5 else bnd (cv 5 a0 (f_X6_asksNobody a0 a1)) fun t29 => k8 t29) (fun (s7 : Int32) => if s7 = (0 : Int32) then loopK NF (fun (s9 : Int32 × Int32) k10 => if (100 : Int32) ≤ s9.2 then rt s9.1 else bnd (gR 5 0 a0) fun r13 => bnd (gR 4 0 r13) fun r14 => bnd (gR 0 5 r14) fun r15 => bnd (aI r15 a1) fun t16 => bnd (gR 5 0 a0) fun r17 => bnd (gR 4 0 r17) fun r18 => bnd (gR 5 0 a0) fun r19 => bnd (gR 4 0 r19) fun r20 => bnd (gR 0 7 r20) fun r21 => bnd (aI r21 a1) fun t22 => bnd (cv 0 r18 (f_X0_mean r18 t22 s9.2)) fun t23 => jn (fun k26 => if t23 < a2 then k26 (0 : Int32) else k26 (1 : Int32)) (fun (s25 : Int32) => if s25 = (0 : Int32) then k10 (s9.1, (s9.2 + (1 : Int32))) else if s9.1 = (-9 : Int32) then k10 ((mabs (s9.2 - t16)), (s9.2 + (1 : Int32))) else if s9.1 ≤ (mabs (s9.2 - t16)) then k10 (s9.1, (s9.2 + (1 : Int32))) else k10 ((mabs (s9.2 - t16)), (s9.2 + (1 : Int32))))) ((-9 : Int32), (0 : Int32)) else bnd (cv 5 a0 (f_X6_refuse a0 s7)) fun t27 => rt t27)
set_option maxRecDepth 20000 in
theorem s_X6_barber (a0 : Nat) (a1 : Int32) (a2 : Int32) : Sm eX6_barber [.ref a0, .int a1, .int a2] eI (f_X6_barber a0 a1 a2) := by
  intro hp vr hr H
  unfold f_X6_barber at H
  show Rn none 0 0 eX6_barber 0 [some (.ref a0), some (.int a1), some (.int a2), none, none, none, none, none] [] hp (eI vr, hr)
  refine r_aln rfl rfl rfl ?_
  refine r_iln rfl rfl rfl ?_
  refine r_vtI (rest := []) H rfl rfl rfl (s_X6_noPerson a0 a1) rfl rfl ⟨rfl, rfl⟩ rfl (fun t1 h2 H => ?_)
  refine r_iln rfl rfl rfl ?_
  refine r_ic (v := 0) rfl ci_0 ?_
  refine r_bi (v := 99) rfl cb_99 ?_
  refine r_stI (rest := [.int t1]) H rfl rfl (s_X6_outside a2 (0 : Int32) (99 : Int32)) rfl rfl ⟨rfl, rfl⟩ rfl (fun t3 h4 H => ?_)
  refine r_stI (rest := []) H rfl rfl (s_X6_first t1 t3) rfl rfl ⟨rfl, rfl⟩ rfl (fun t5 h6 H => ?_)
  refine r_isn (L' := [some (.ref a0), some (.int a1), some (.int a2), some (.int t5), none, none, none, none]) rfl rfl (Nat.le_of_ble_eq_true rfl) rfl ?_
  refine r_iln rfl rfl rfl ?_
  refine r_jn (P := (fun (s7 : Int32) hq => Rn none 0 0 eX6_barber 15 [some (.ref a0), some (.int a1), some (.int a2), some (.int s7), none, none, none, none] [] hq (eI vr, hr))) H (fun s7 hs7 H  => ?_) (fun k8 K8 H => ?_)
  · refine r_iln rfl rfl rfl ?_
    refine r_if H rfl rfl (fun H => ?_) (fun H => ?_)
    · refine r_bi (v := -9) rfl cb_m9 ?_
      refine r_is (L' := [some (.ref a0), some (.int a1), some (.int a2), some (.int s7), some (.int (-9 : Int32)), none, none, none]) rfl (Nat.le_of_ble_eq_true rfl) rfl ?_
      refine r_ic (v := 0) rfl ci_0 ?_
      refine r_is (L' := [some (.ref a0), some (.int a1), some (.int a2), some (.int s7), some (.int (-9 : Int32)), some (.int (0 : Int32)), none, none]) rfl (Nat.le_of_ble_eq_true rfl) rfl ?_
      refine (r_loop (P := (fun (s9 : Int32 × Int32) hq => ∀ ys9_0 : Int32, ∀ ys9_1 : Int32, s9 = (ys9_0, ys9_1) → ∀ x11 : Option Value, ∀ x12 : Option Value, Rn none 0 0 eX6_barber 25 [some (.ref a0), some (.int a1), some (.int a2), some (.int s7), some (.int ys9_0), some (.int ys9_1), x11, x12] [] hq (eI vr, hr))) ?_ NF _ _ H) _ _ rfl _ _
      intro k10 K10 s9 hs9 H ys9_0 ys9_1 es9 x11 x12
      subst es9
      refine r_il rfl rfl ?_
      refine r_bi (v := 100) rfl cb_100 ?_
      refine r_cmp H rfl rfl (fun H => ?_) (fun H => ?_)
      · refine r_il rfl rfl ?_
        exact r_reti H rfl rfl ⟨Nat.zero_le _, Nat.zero_le _⟩
      · refine r_il rfl rfl ?_
        refine r_aln rfl rfl rfl ?_
        refine r_gR H rfl kd_5_0 (fun r13 H => ?_)
        refine r_gR H rfl kd_4_0 (fun r14 H => ?_)
        refine r_gR H rfl kd_0_5 (fun r15 H => ?_)
        refine r_iln rfl rfl rfl ?_
        refine r_aI' H rfl (fun t16 H => ?_)
        refine r_sub rfl ?_
        refine r_abs rfl rfl (Nat.le_of_ble_eq_true rfl) rfl ?_
        refine r_is (L' := [some (.ref a0), some (.int a1), some (.int a2), some (.int s7), some (.int ys9_0), some (.int ys9_1), some (.int (mabs (ys9_1 - t16))), x12]) rfl (Nat.le_of_ble_eq_true rfl) rfl ?_
        refine r_aln rfl rfl rfl ?_
        refine r_gR H rfl kd_5_0 (fun r17 H => ?_)
        refine r_gR H rfl kd_4_0 (fun r18 H => ?_)
        refine r_aln rfl rfl rfl ?_
        refine r_gR H rfl kd_5_0 (fun r19 H => ?_)
        refine r_gR H rfl kd_4_0 (fun r20 H => ?_)
        refine r_gR H rfl kd_0_7 (fun r21 H => ?_)
        refine r_iln rfl rfl rfl ?_
        refine r_aI' H rfl (fun t22 H => ?_)
        refine r_il rfl rfl ?_
        refine r_vtI (rest := []) H rfl rfl rfl (s_X0_mean r18 t22 ys9_1) rfl rfl ⟨rfl, rfl⟩ rfl (fun t23 h24 H => ?_)
        refine r_iln rfl rfl rfl ?_
        refine r_jn (P := (fun (s25 : Int32) hq => Rn none 0 0 eX6_barber 54 [some (.ref a0), some (.int a1), some (.int a2), some (.int s7), some (.int ys9_0), some (.int ys9_1), some (.int (mabs (ys9_1 - t16))), x12] [.int s25] hq (eI vr, hr))) H (fun s25 hs25 H  => ?_) (fun k26 K26 H => ?_)
        · refine r_is (L' := [some (.ref a0), some (.int a1), some (.int a2), some (.int s7), some (.int ys9_0), some (.int ys9_1), some (.int (mabs (ys9_1 - t16))), some (.int s25)]) rfl (Nat.le_of_ble_eq_true rfl) rfl ?_
          refine r_il rfl rfl ?_
          refine r_if H rfl rfl (fun H => ?_) (fun H => ?_)
          · refine r_inc (v := 1) (L' := [some (.ref a0), some (.int a1), some (.int a2), some (.int s7), some (.int ys9_0), some (.int (ys9_1 + (1 : Int32))), some (.int (mabs (ys9_1 - t16))), some (.int s25)]) rfl rfl ci_1 rfl ?_
            refine r_go rfl ?_
            have q := K10 _ _ H _ _ rfl
            exact q _ _
          · refine r_il rfl rfl ?_
            refine r_bi (v := -9) rfl cb_m9 ?_
            refine r_cmp H rfl rfl (fun H => ?_) (fun H => ?_)
            · refine r_il rfl rfl ?_
              refine r_is (L' := [some (.ref a0), some (.int a1), some (.int a2), some (.int s7), some (.int (mabs (ys9_1 - t16))), some (.int ys9_1), some (.int (mabs (ys9_1 - t16))), some (.int s25)]) rfl (Nat.le_of_ble_eq_true rfl) rfl ?_
              refine r_inc (v := 1) (L' := [some (.ref a0), some (.int a1), some (.int a2), some (.int s7), some (.int (mabs (ys9_1 - t16))), some (.int (ys9_1 + (1 : Int32))), some (.int (mabs (ys9_1 - t16))), some (.int s25)]) rfl rfl ci_1 rfl ?_
              refine r_go rfl ?_
              have q := K10 _ _ H _ _ rfl
              exact q _ _
            · refine r_il rfl rfl ?_
              refine r_il rfl rfl ?_
              refine r_cmp H rfl rfl (fun H => ?_) (fun H => ?_)
              · refine r_inc (v := 1) (L' := [some (.ref a0), some (.int a1), some (.int a2), some (.int s7), some (.int ys9_0), some (.int (ys9_1 + (1 : Int32))), some (.int (mabs (ys9_1 - t16))), some (.int s25)]) rfl rfl ci_1 rfl ?_
                refine r_go rfl ?_
                have q := K10 _ _ H _ _ rfl
                exact q _ _
              · refine r_il rfl rfl ?_
                refine r_is (L' := [some (.ref a0), some (.int a1), some (.int a2), some (.int s7), some (.int (mabs (ys9_1 - t16))), some (.int ys9_1), some (.int (mabs (ys9_1 - t16))), some (.int s25)]) rfl (Nat.le_of_ble_eq_true rfl) rfl ?_
                refine r_inc (v := 1) (L' := [some (.ref a0), some (.int a1), some (.int a2), some (.int s7), some (.int (mabs (ys9_1 - t16))), some (.int (ys9_1 + (1 : Int32))), some (.int (mabs (ys9_1 - t16))), some (.int s25)]) rfl rfl ci_1 rfl ?_
                refine r_go rfl ?_
                have q := K10 _ _ H _ _ rfl
                exact q _ _
        · refine r_cmp H rfl rfl (fun H => ?_) (fun H => ?_)
          · refine r_ic (v := 0) rfl ci_0 ?_
            have q := K26 _ _ H
            exact q
          · refine r_ic (v := 1) rfl ci_1 ?_
            refine r_go rfl ?_
            have q := K26 _ _ H
            exact q
    · refine r_aln rfl rfl rfl ?_
      refine r_iln rfl rfl rfl ?_
      refine r_vtI (rest := []) H rfl rfl rfl (s_X6_refuse a0 s7) rfl rfl ⟨rfl, rfl⟩ rfl (fun t27 h28 H => ?_)
      exact r_reti H rfl rfl ⟨Nat.zero_le _, Nat.zero_le _⟩
  · refine r_if H rfl rfl (fun H => ?_) (fun H => ?_)
    · have q := K8 _ _ H
      exact q
    · refine r_aln rfl rfl rfl ?_
      refine r_iln rfl rfl rfl ?_
      refine r_vtI (rest := []) H rfl rfl rfl (s_X6_asksNobody a0 a1) rfl rfl ⟨rfl, rfl⟩ rfl (fun t29 h30 H => ?_)
      refine r_isn (L' := [some (.ref a0), some (.int a1), some (.int a2), some (.int t29), none, none, none, none]) rfl rfl (Nat.le_of_ble_eq_true rfl) rfl ?_
      have q := K8 _ _ H
      exact q
def f_X6_steps (a0 : Nat) (a1 : Int32) (a2 : Int32) : M Int32 := bnd (f_X6_noPlaces a1 a2) fun t1 => if t1 = (0 : Int32) then bnd (gR 5 0 a0) fun r3 => bnd (gR 4 1 r3) fun r4 => bnd (gR 3 0 r4) fun r5 => bnd (f_X2_distance r5 a1 a2) fun t6 => rt t6 else bnd (cv 5 a0 (f_X6_refuse a0 t1)) fun t8 => rt t8
set_option maxRecDepth 20000 in
theorem s_X6_steps (a0 : Nat) (a1 : Int32) (a2 : Int32) : Sm eX6_steps [.ref a0, .int a1, .int a2] eI (f_X6_steps a0 a1 a2) := by
  intro hp vr hr H
  unfold f_X6_steps at H
  show Rn none 0 0 eX6_steps 0 [some (.ref a0), some (.int a1), some (.int a2), none] [] hp (eI vr, hr)
  refine r_iln rfl rfl rfl ?_
  refine r_iln rfl rfl rfl ?_
  refine r_stI (rest := []) H rfl rfl (s_X6_noPlaces a1 a2) rfl rfl ⟨rfl, rfl⟩ rfl (fun t1 h2 H => ?_)
  refine r_isn (L' := [some (.ref a0), some (.int a1), some (.int a2), some (.int t1)]) rfl rfl (Nat.le_of_ble_eq_true rfl) rfl ?_
  refine r_iln rfl rfl rfl ?_
  refine r_if H rfl rfl (fun H => ?_) (fun H => ?_)
  · refine r_aln rfl rfl rfl ?_
    refine r_gR H rfl kd_5_0 (fun r3 H => ?_)
    refine r_gR H rfl kd_4_1 (fun r4 H => ?_)
    refine r_gR H rfl kd_3_0 (fun r5 H => ?_)
    refine r_iln rfl rfl rfl ?_
    refine r_iln rfl rfl rfl ?_
    refine r_stI (rest := []) H rfl rfl (s_X2_distance r5 a1 a2) rfl rfl ⟨rfl, rfl⟩ rfl (fun t6 h7 H => ?_)
    exact r_reti H rfl rfl ⟨Nat.zero_le _, Nat.zero_le _⟩
  · refine r_aln rfl rfl rfl ?_
    refine r_iln rfl rfl rfl ?_
    refine r_vtI (rest := []) H rfl rfl rfl (s_X6_refuse a0 t1) rfl rfl ⟨rfl, rfl⟩ rfl (fun t8 h9 H => ?_)
    refine r_go rfl ?_
    exact r_reti H rfl rfl ⟨Nat.zero_le _, Nat.zero_le _⟩
def f_X6_glances (a0 : Nat) (a1 : Int32) (a2 : Int32) (a3 : Int32) : M Int32 := bnd (f_X6_noPlaces a1 a2) fun t1 => bnd (f_X6_noChoice a3 (2 : Int32)) fun t3 => bnd (f_X6_first t1 t3) fun t5 => if t5 = (0 : Int32) then bnd (gR 5 0 a0) fun r7 => bnd (gR 4 1 r7) fun r8 => bnd (cv 3 r8 (f_X4_route r8 a1 a2)) fun t9 => if ¬ t9 = (1000000 : Int32) then if ¬ a3 = (0 : Int32) then bnd (remM t9 (16 : Int32)) fun t11 => rt t11 else bnd (divM t9 (16 : Int32)) fun t12 => rt t12 else rt (-9 : Int32) else bnd (cv 5 a0 (f_X6_refuse a0 t5)) fun t13 => rt t13
set_option maxRecDepth 20000 in
theorem s_X6_glances (a0 : Nat) (a1 : Int32) (a2 : Int32) (a3 : Int32) : Sm eX6_glances [.ref a0, .int a1, .int a2, .int a3] eI (f_X6_glances a0 a1 a2 a3) := by
  intro hp vr hr H
  unfold f_X6_glances at H
  show Rn none 0 0 eX6_glances 0 [some (.ref a0), some (.int a1), some (.int a2), some (.int a3), none, none] [] hp (eI vr, hr)
  refine r_iln rfl rfl rfl ?_
  refine r_iln rfl rfl rfl ?_
  refine r_stI (rest := []) H rfl rfl (s_X6_noPlaces a1 a2) rfl rfl ⟨rfl, rfl⟩ rfl (fun t1 h2 H => ?_)
  refine r_iln rfl rfl rfl ?_
  refine r_ic (v := 2) rfl ci_2 ?_
  refine r_stI (rest := [.int t1]) H rfl rfl (s_X6_noChoice a3 (2 : Int32)) rfl rfl ⟨rfl, rfl⟩ rfl (fun t3 h4 H => ?_)
  refine r_stI (rest := []) H rfl rfl (s_X6_first t1 t3) rfl rfl ⟨rfl, rfl⟩ rfl (fun t5 h6 H => ?_)
  refine r_is (L' := [some (.ref a0), some (.int a1), some (.int a2), some (.int a3), some (.int t5), none]) rfl (Nat.le_of_ble_eq_true rfl) rfl ?_
  refine r_il rfl rfl ?_
  refine r_if H rfl rfl (fun H => ?_) (fun H => ?_)
  · refine r_aln rfl rfl rfl ?_
    refine r_gR H rfl kd_5_0 (fun r7 H => ?_)
    refine r_gR H rfl kd_4_1 (fun r8 H => ?_)
    refine r_iln rfl rfl rfl ?_
    refine r_iln rfl rfl rfl ?_
    refine r_vtI (rest := []) H rfl rfl rfl (s_X4_route r8 a1 a2) rfl rfl ⟨rfl, rfl⟩ rfl (fun t9 h10 H => ?_)
    refine r_is (L' := [some (.ref a0), some (.int a1), some (.int a2), some (.int a3), some (.int t5), some (.int t9)]) rfl (Nat.le_of_ble_eq_true rfl) rfl ?_
    refine r_il rfl rfl ?_
    refine r_lc (v := 1000000) rfl cn_1000000 ?_
    refine r_cmp H rfl rfl (fun H => ?_) (fun H => ?_)
    · refine r_iln rfl rfl rfl ?_
      refine r_if H rfl rfl (fun H => ?_) (fun H => ?_)
      · refine r_il rfl rfl ?_
        refine r_bi (v := 16) rfl cb_16 ?_
        refine r_rem H rfl (fun H => ?_)
        exact r_reti H rfl rfl ⟨Nat.zero_le _, Nat.zero_le _⟩
      · refine r_il rfl rfl ?_
        refine r_bi (v := 16) rfl cb_16 ?_
        refine r_div H rfl (fun H => ?_)
        refine r_go rfl ?_
        exact r_reti H rfl rfl ⟨Nat.zero_le _, Nat.zero_le _⟩
    · refine r_bi (v := -9) rfl cb_m9 ?_
      exact r_reti H rfl rfl ⟨Nat.zero_le _, Nat.zero_le _⟩
  · refine r_aln rfl rfl rfl ?_
    refine r_il rfl rfl ?_
    refine r_vtI (rest := []) H rfl rfl rfl (s_X6_refuse a0 t5) rfl rfl ⟨rfl, rfl⟩ rfl (fun t13 h14 H => ?_)
    exact r_reti H rfl rfl ⟨Nat.zero_le _, Nat.zero_le _⟩
def f_X6_unseen (a0 : Nat) (a1 : Int32) : M Int32 := bnd (f_X6_noPlace a1) fun t1 => if t1 = (0 : Int32) then bnd (gR 5 0 a0) fun r3 => bnd (gR 4 1 r3) fun r4 => bnd (gR 3 0 r4) fun r5 => bnd (gR 5 0 a0) fun r6 => bnd (gR 4 1 r6) fun r7 => bnd (cv 3 r7 (f_X4_bare r7)) fun t8 => bnd (f_X2_reach r5 ((1 : Int32) <<< (a1 &&& (31 : Int32))) t8) fun t10 => rt t10 else bnd (cv 5 a0 (f_X6_refuse a0 t1)) fun t12 => rt t12
set_option maxRecDepth 20000 in
theorem s_X6_unseen (a0 : Nat) (a1 : Int32) : Sm eX6_unseen [.ref a0, .int a1] eI (f_X6_unseen a0 a1) := by
  intro hp vr hr H
  unfold f_X6_unseen at H
  show Rn none 0 0 eX6_unseen 0 [some (.ref a0), some (.int a1), none] [] hp (eI vr, hr)
  refine r_iln rfl rfl rfl ?_
  refine r_stI (rest := []) H rfl rfl (s_X6_noPlace a1) rfl rfl ⟨rfl, rfl⟩ rfl (fun t1 h2 H => ?_)
  refine r_isn (L' := [some (.ref a0), some (.int a1), some (.int t1)]) rfl rfl (Nat.le_of_ble_eq_true rfl) rfl ?_
  refine r_iln rfl rfl rfl ?_
  refine r_if H rfl rfl (fun H => ?_) (fun H => ?_)
  · refine r_aln rfl rfl rfl ?_
    refine r_gR H rfl kd_5_0 (fun r3 H => ?_)
    refine r_gR H rfl kd_4_1 (fun r4 H => ?_)
    refine r_gR H rfl kd_3_0 (fun r5 H => ?_)
    refine r_ic (v := 1) rfl ci_1 ?_
    refine r_iln rfl rfl rfl ?_
    refine r_shl rfl ?_
    refine r_aln rfl rfl rfl ?_
    refine r_gR H rfl kd_5_0 (fun r6 H => ?_)
    refine r_gR H rfl kd_4_1 (fun r7 H => ?_)
    refine r_vtI (rest := [.int ((1 : Int32) <<< (a1 &&& (31 : Int32))), .ref r5]) H rfl rfl rfl (s_X4_bare r7) rfl rfl ⟨rfl, rfl⟩ rfl (fun t8 h9 H => ?_)
    refine r_stI (rest := []) H rfl rfl (s_X2_reach r5 ((1 : Int32) <<< (a1 &&& (31 : Int32))) t8) rfl rfl ⟨rfl, rfl⟩ rfl (fun t10 h11 H => ?_)
    exact r_reti H rfl rfl ⟨Nat.zero_le _, Nat.zero_le _⟩
  · refine r_aln rfl rfl rfl ?_
    refine r_iln rfl rfl rfl ?_
    refine r_vtI (rest := []) H rfl rfl rfl (s_X6_refuse a0 t1) rfl rfl ⟨rfl, rfl⟩ rfl (fun t12 h13 H => ?_)
    refine r_go rfl ?_
    exact r_reti H rfl rfl ⟨Nat.zero_le _, Nat.zero_le _⟩
def f_X6_cover (a0 : Nat) (a1 : Int32) (a2 : Int32) : M Int32 := bnd (f_X6_noPlaces a1 a2) fun t1 => if t1 = (0 : Int32) then bnd (gR 5 0 a0) fun r3 => bnd (gR 4 1 r3) fun r4 => bnd (cv 3 r4 (f_X4_route r4 a1 a2)) fun t5 => bnd (divM t5 (16 : Int32)) fun t7 => loopK NF (fun (s8 : Int32 × Int32 × Int32) k9 => if (8 : Int32) ≤ s8.2.2 then rt s8.1 else bnd (gR 5 0 a0) fun r11 => bnd (gR 4 1 r11) fun r12 => bnd (cv 3 r12 (f_X4_routeCovered r12 a1 a2 s8.2.2)) fun t13 => bnd (divM t13 (16 : Int32)) fun t15 => if s8.2.1 ≤ t15 then k9 (s8.1, s8.2.1, (s8.2.2 + (1 : Int32))) else k9 (s8.2.2, t15, (s8.2.2 + (1 : Int32)))) ((-9 : Int32), t7, (0 : Int32)) else bnd (cv 5 a0 (f_X6_refuse a0 t1)) fun t16 => rt t16
set_option maxRecDepth 20000 in
theorem s_X6_cover (a0 : Nat) (a1 : Int32) (a2 : Int32) : Sm eX6_cover [.ref a0, .int a1, .int a2] eI (f_X6_cover a0 a1 a2) := by
  intro hp vr hr H
  unfold f_X6_cover at H
  show Rn none 0 0 eX6_cover 0 [some (.ref a0), some (.int a1), some (.int a2), none, none, none, none, none] [] hp (eI vr, hr)
  refine r_iln rfl rfl rfl ?_
  refine r_iln rfl rfl rfl ?_
  refine r_stI (rest := []) H rfl rfl (s_X6_noPlaces a1 a2) rfl rfl ⟨rfl, rfl⟩ rfl (fun t1 h2 H => ?_)
  refine r_isn (L' := [some (.ref a0), some (.int a1), some (.int a2), some (.int t1), none, none, none, none]) rfl rfl (Nat.le_of_ble_eq_true rfl) rfl ?_
  refine r_iln rfl rfl rfl ?_
  refine r_if H rfl rfl (fun H => ?_) (fun H => ?_)
  · refine r_bi (v := -9) rfl cb_m9 ?_
    refine r_is (L' := [some (.ref a0), some (.int a1), some (.int a2), some (.int t1), some (.int (-9 : Int32)), none, none, none]) rfl (Nat.le_of_ble_eq_true rfl) rfl ?_
    refine r_aln rfl rfl rfl ?_
    refine r_gR H rfl kd_5_0 (fun r3 H => ?_)
    refine r_gR H rfl kd_4_1 (fun r4 H => ?_)
    refine r_iln rfl rfl rfl ?_
    refine r_iln rfl rfl rfl ?_
    refine r_vtI (rest := []) H rfl rfl rfl (s_X4_route r4 a1 a2) rfl rfl ⟨rfl, rfl⟩ rfl (fun t5 h6 H => ?_)
    refine r_bi (v := 16) rfl cb_16 ?_
    refine r_div H rfl (fun H => ?_)
    refine r_is (L' := [some (.ref a0), some (.int a1), some (.int a2), some (.int t1), some (.int (-9 : Int32)), some (.int (t5 / (16 : Int32))), none, none]) rfl (Nat.le_of_ble_eq_true rfl) rfl ?_
    refine r_ic (v := 0) rfl ci_0 ?_
    refine r_is (L' := [some (.ref a0), some (.int a1), some (.int a2), some (.int t1), some (.int (-9 : Int32)), some (.int (t5 / (16 : Int32))), some (.int (0 : Int32)), none]) rfl (Nat.le_of_ble_eq_true rfl) rfl ?_
    refine (r_loop (P := (fun (s8 : Int32 × Int32 × Int32) hq => ∀ ys8_0 : Int32, ∀ ys8_1 : Int32, ∀ ys8_2 : Int32, s8 = (ys8_0, ys8_1, ys8_2) → ∀ x10 : Option Value, Rn none 0 0 eX6_cover 23 [some (.ref a0), some (.int a1), some (.int a2), some (.int t1), some (.int ys8_0), some (.int ys8_1), some (.int ys8_2), x10] [] hq (eI vr, hr))) ?_ NF _ _ H) _ _ _ rfl _
    intro k9 K9 s8 hs8 H ys8_0 ys8_1 ys8_2 es8 x10
    subst es8
    refine r_il rfl rfl ?_
    refine r_bi (v := 8) rfl cb_8 ?_
    refine r_cmp H rfl rfl (fun H => ?_) (fun H => ?_)
    · refine r_il rfl rfl ?_
      exact r_reti H rfl rfl ⟨Nat.zero_le _, Nat.zero_le _⟩
    · refine r_aln rfl rfl rfl ?_
      refine r_gR H rfl kd_5_0 (fun r11 H => ?_)
      refine r_gR H rfl kd_4_1 (fun r12 H => ?_)
      refine r_iln rfl rfl rfl ?_
      refine r_iln rfl rfl rfl ?_
      refine r_il rfl rfl ?_
      refine r_vtI (rest := []) H rfl rfl rfl (s_X4_routeCovered r12 a1 a2 ys8_2) rfl rfl ⟨rfl, rfl⟩ rfl (fun t13 h14 H => ?_)
      refine r_bi (v := 16) rfl cb_16 ?_
      refine r_div H rfl (fun H => ?_)
      refine r_is (L' := [some (.ref a0), some (.int a1), some (.int a2), some (.int t1), some (.int ys8_0), some (.int ys8_1), some (.int ys8_2), some (.int (t13 / (16 : Int32)))]) rfl (Nat.le_of_ble_eq_true rfl) rfl ?_
      refine r_il rfl rfl ?_
      refine r_il rfl rfl ?_
      refine r_cmp H rfl rfl (fun H => ?_) (fun H => ?_)
      · refine r_inc (v := 1) (L' := [some (.ref a0), some (.int a1), some (.int a2), some (.int t1), some (.int ys8_0), some (.int ys8_1), some (.int (ys8_2 + (1 : Int32))), some (.int (t13 / (16 : Int32)))]) rfl rfl ci_1 rfl ?_
        refine r_go rfl ?_
        have q := K9 _ _ H _ _ _ rfl
        exact q _
      · refine r_il rfl rfl ?_
        refine r_is (L' := [some (.ref a0), some (.int a1), some (.int a2), some (.int t1), some (.int ys8_0), some (.int (t13 / (16 : Int32))), some (.int ys8_2), some (.int (t13 / (16 : Int32)))]) rfl (Nat.le_of_ble_eq_true rfl) rfl ?_
        refine r_il rfl rfl ?_
        refine r_is (L' := [some (.ref a0), some (.int a1), some (.int a2), some (.int t1), some (.int ys8_2), some (.int (t13 / (16 : Int32))), some (.int ys8_2), some (.int (t13 / (16 : Int32)))]) rfl (Nat.le_of_ble_eq_true rfl) rfl ?_
        refine r_inc (v := 1) (L' := [some (.ref a0), some (.int a1), some (.int a2), some (.int t1), some (.int ys8_2), some (.int (t13 / (16 : Int32))), some (.int (ys8_2 + (1 : Int32))), some (.int (t13 / (16 : Int32)))]) rfl rfl ci_1 rfl ?_
        refine r_go rfl ?_
        have q := K9 _ _ H _ _ _ rfl
        exact q _
  · refine r_aln rfl rfl rfl ?_
    refine r_iln rfl rfl rfl ?_
    refine r_vtI (rest := []) H rfl rfl rfl (s_X6_refuse a0 t1) rfl rfl ⟨rfl, rfl⟩ rfl (fun t16 h17 H => ?_)
    exact r_reti H rfl rfl ⟨Nat.zero_le _, Nat.zero_le _⟩
def f_X6_townShare (a0 : Int32) (a1 : Int32) : M Int32 := loopK NF (fun (s1 : Int32 × Int32) k2 => if s1.2 < (1 : Int32) then rt s1.1 else k2 (((mmax (0 : Int32) ((100 : Int32) - (a1 * (s1.2 - (1 : Int32))))) - s1.1), (s1.2 + (-1 : Int32)))) ((0 : Int32), a0)
set_option maxRecDepth 20000 in
theorem s_X6_townShare (a0 : Int32) (a1 : Int32) : Sm eX6_townShare [.int a0, .int a1] eI (f_X6_townShare a0 a1) := by
  intro hp vr hr H
  unfold f_X6_townShare at H
  show Rn none 0 0 eX6_townShare 0 [some (.int a0), some (.int a1), none, none, none] [] hp (eI vr, hr)
  refine r_ic (v := 0) rfl ci_0 ?_
  refine r_isn (L' := [some (.int a0), some (.int a1), some (.int (0 : Int32)), none, none]) rfl rfl (Nat.le_of_ble_eq_true rfl) rfl ?_
  refine r_iln rfl rfl rfl ?_
  refine r_isn (L' := [some (.int a0), some (.int a1), some (.int (0 : Int32)), some (.int a0), none]) rfl rfl (Nat.le_of_ble_eq_true rfl) rfl ?_
  refine (r_loop (P := (fun (s1 : Int32 × Int32) hq => ∀ ys1_0 : Int32, ∀ ys1_1 : Int32, s1 = (ys1_0, ys1_1) → ∀ x3 : Option Value, Rn none 0 0 eX6_townShare 4 [some (.int a0), some (.int a1), some (.int ys1_0), some (.int ys1_1), x3] [] hq (eI vr, hr))) ?_ NF _ _ H) _ _ rfl _
  intro k2 K2 s1 hs1 H ys1_0 ys1_1 es1 x3
  subst es1
  refine r_iln rfl rfl rfl ?_
  refine r_ic (v := 1) rfl ci_1 ?_
  refine r_cmp H rfl rfl (fun H => ?_) (fun H => ?_)
  · refine r_iln rfl rfl rfl ?_
    exact r_reti H rfl rfl ⟨Nat.zero_le _, Nat.zero_le _⟩
  · refine r_ic (v := 0) rfl ci_0 ?_
    refine r_bi (v := 100) rfl cb_100 ?_
    refine r_iln rfl rfl rfl ?_
    refine r_iln rfl rfl rfl ?_
    refine r_ic (v := 1) rfl ci_1 ?_
    refine r_sub rfl ?_
    refine r_mul rfl ?_
    refine r_sub rfl ?_
    refine r_max rfl rfl (Nat.le_of_ble_eq_true rfl) rfl ?_
    refine r_is (L' := [some (.int a0), some (.int a1), some (.int ys1_0), some (.int ys1_1), some (.int (mmax (0 : Int32) ((100 : Int32) - (a1 * (ys1_1 - (1 : Int32))))))]) rfl (Nat.le_of_ble_eq_true rfl) rfl ?_
    refine r_il rfl rfl ?_
    refine r_iln rfl rfl rfl ?_
    refine r_sub rfl ?_
    refine r_isn (L' := [some (.int a0), some (.int a1), some (.int ((mmax (0 : Int32) ((100 : Int32) - (a1 * (ys1_1 - (1 : Int32))))) - ys1_0)), some (.int ys1_1), some (.int (mmax (0 : Int32) ((100 : Int32) - (a1 * (ys1_1 - (1 : Int32))))))]) rfl rfl (Nat.le_of_ble_eq_true rfl) rfl ?_
    refine r_inc (v := -1) (L' := [some (.int a0), some (.int a1), some (.int ((mmax (0 : Int32) ((100 : Int32) - (a1 * (ys1_1 - (1 : Int32))))) - ys1_0)), some (.int (ys1_1 + (-1 : Int32))), some (.int (mmax (0 : Int32) ((100 : Int32) - (a1 * (ys1_1 - (1 : Int32))))))]) rfl rfl ci_m1 rfl ?_
    refine r_go rfl ?_
    have q := K2 _ _ H _ _ rfl
    exact q _
def f_X6_bargain (a0 : Nat) (a1 : Int32) (a2 : Int32) : M Int32 := bnd (f_X6_outside_ a2 (50 : Int32) a1 (1 : Int32) (20 : Int32)) fun t1 => if t1 = (0 : Int32) then bnd (f_X6_townShare a1 a2) fun t3 => rt t3 else bnd (cv 5 a0 (f_X6_refuse a0 t1)) fun t5 => rt t5
set_option maxRecDepth 20000 in
theorem s_X6_bargain (a0 : Nat) (a1 : Int32) (a2 : Int32) : Sm eX6_bargain [.ref a0, .int a1, .int a2] eI (f_X6_bargain a0 a1 a2) := by
  intro hp vr hr H
  unfold f_X6_bargain at H
  show Rn none 0 0 eX6_bargain 0 [some (.ref a0), some (.int a1), some (.int a2), none] [] hp (eI vr, hr)
  refine r_iln rfl rfl rfl ?_
  refine r_bi (v := 50) rfl cb_50 ?_
  refine r_iln rfl rfl rfl ?_
  refine r_ic (v := 1) rfl ci_1 ?_
  refine r_bi (v := 20) rfl cb_20 ?_
  refine r_stI (rest := []) H rfl rfl (s_X6_outside_ a2 (50 : Int32) a1 (1 : Int32) (20 : Int32)) rfl rfl ⟨rfl, rfl⟩ rfl (fun t1 h2 H => ?_)
  refine r_isn (L' := [some (.ref a0), some (.int a1), some (.int a2), some (.int t1)]) rfl rfl (Nat.le_of_ble_eq_true rfl) rfl ?_
  refine r_iln rfl rfl rfl ?_
  refine r_if H rfl rfl (fun H => ?_) (fun H => ?_)
  · refine r_iln rfl rfl rfl ?_
    refine r_iln rfl rfl rfl ?_
    refine r_stI (rest := []) H rfl rfl (s_X6_townShare a1 a2) rfl rfl ⟨rfl, rfl⟩ rfl (fun t3 h4 H => ?_)
    exact r_reti H rfl rfl ⟨Nat.zero_le _, Nat.zero_le _⟩
  · refine r_aln rfl rfl rfl ?_
    refine r_iln rfl rfl rfl ?_
    refine r_vtI (rest := []) H rfl rfl rfl (s_X6_refuse a0 t1) rfl rfl ⟨rfl, rfl⟩ rfl (fun t5 h6 H => ?_)
    refine r_go rfl ?_
    exact r_reti H rfl rfl ⟨Nat.zero_le _, Nat.zero_le _⟩
def f_X6_strike (a0 : Nat) (a1 : Int32) : M Int32 := bnd (f_X6_outside a1 (0 : Int32) (50 : Int32)) fun t1 => if t1 = (0 : Int32) then loopK NF (fun (s3 : Int32 × Int32) k4 => if (20 : Int32) < s3.2 then rt s3.1 else bnd (f_X6_townShare s3.2 a1) fun t5 => bnd (f_X6_townShare s3.1 a1) fun t7 => if t5 ≤ t7 then k4 (s3.1, (s3.2 + (1 : Int32))) else k4 (s3.2, (s3.2 + (1 : Int32)))) ((1 : Int32), (2 : Int32)) else bnd (cv 5 a0 (f_X6_refuse a0 t1)) fun t9 => rt t9
set_option maxRecDepth 20000 in
theorem s_X6_strike (a0 : Nat) (a1 : Int32) : Sm eX6_strike [.ref a0, .int a1] eI (f_X6_strike a0 a1) := by
  intro hp vr hr H
  unfold f_X6_strike at H
  show Rn none 0 0 eX6_strike 0 [some (.ref a0), some (.int a1), none, none, none] [] hp (eI vr, hr)
  refine r_iln rfl rfl rfl ?_
  refine r_ic (v := 0) rfl ci_0 ?_
  refine r_bi (v := 50) rfl cb_50 ?_
  refine r_stI (rest := []) H rfl rfl (s_X6_outside a1 (0 : Int32) (50 : Int32)) rfl rfl ⟨rfl, rfl⟩ rfl (fun t1 h2 H => ?_)
  refine r_isn (L' := [some (.ref a0), some (.int a1), some (.int t1), none, none]) rfl rfl (Nat.le_of_ble_eq_true rfl) rfl ?_
  refine r_iln rfl rfl rfl ?_
  refine r_if H rfl rfl (fun H => ?_) (fun H => ?_)
  · refine r_ic (v := 1) rfl ci_1 ?_
    refine r_isn (L' := [some (.ref a0), some (.int a1), some (.int t1), some (.int (1 : Int32)), none]) rfl rfl (Nat.le_of_ble_eq_true rfl) rfl ?_
    refine r_ic (v := 2) rfl ci_2 ?_
    refine r_is (L' := [some (.ref a0), some (.int a1), some (.int t1), some (.int (1 : Int32)), some (.int (2 : Int32))]) rfl (Nat.le_of_ble_eq_true rfl) rfl ?_
    refine (r_loop (P := (fun (s3 : Int32 × Int32) hq => ∀ ys3_0 : Int32, ∀ ys3_1 : Int32, s3 = (ys3_0, ys3_1) → Rn none 0 0 eX6_strike 15 [some (.ref a0), some (.int a1), some (.int t1), some (.int ys3_0), some (.int ys3_1)] [] hq (eI vr, hr))) ?_ NF _ _ H) _ _ rfl
    intro k4 K4 s3 hs3 H ys3_0 ys3_1 es3 
    subst es3
    refine r_il rfl rfl ?_
    refine r_bi (v := 20) rfl cb_20 ?_
    refine r_cmp H rfl rfl (fun H => ?_) (fun H => ?_)
    · refine r_iln rfl rfl rfl ?_
      exact r_reti H rfl rfl ⟨Nat.zero_le _, Nat.zero_le _⟩
    · refine r_il rfl rfl ?_
      refine r_iln rfl rfl rfl ?_
      refine r_stI (rest := []) H rfl rfl (s_X6_townShare ys3_1 a1) rfl rfl ⟨rfl, rfl⟩ rfl (fun t5 h6 H => ?_)
      refine r_iln rfl rfl rfl ?_
      refine r_iln rfl rfl rfl ?_
      refine r_stI (rest := [.int t5]) H rfl rfl (s_X6_townShare ys3_0 a1) rfl rfl ⟨rfl, rfl⟩ rfl (fun t7 h8 H => ?_)
      refine r_cmp H rfl rfl (fun H => ?_) (fun H => ?_)
      · refine r_inc (v := 1) (L' := [some (.ref a0), some (.int a1), some (.int t1), some (.int ys3_0), some (.int (ys3_1 + (1 : Int32)))]) rfl rfl ci_1 rfl ?_
        refine r_go rfl ?_
        have q := K4 _ _ H _ _ rfl
        exact q
      · refine r_il rfl rfl ?_
        refine r_isn (L' := [some (.ref a0), some (.int a1), some (.int t1), some (.int ys3_1), some (.int ys3_1)]) rfl rfl (Nat.le_of_ble_eq_true rfl) rfl ?_
        refine r_inc (v := 1) (L' := [some (.ref a0), some (.int a1), some (.int t1), some (.int ys3_1), some (.int (ys3_1 + (1 : Int32)))]) rfl rfl ci_1 rfl ?_
        refine r_go rfl ?_
        have q := K4 _ _ H _ _ rfl
        exact q
  · refine r_aln rfl rfl rfl ?_
    refine r_iln rfl rfl rfl ?_
    refine r_vtI (rest := []) H rfl rfl rfl (s_X6_refuse a0 t1) rfl rfl ⟨rfl, rfl⟩ rfl (fun t9 h10 H => ?_)
    exact r_reti H rfl rfl ⟨Nat.zero_le _, Nat.zero_le _⟩
def f_X6_echo (a0 : Nat) (a1 : Int32) : M Int32 := bnd (cv 5 a0 (f_X6_noPerson a0 a1)) fun t1 => if t1 = (0 : Int32) then bnd (gR 5 0 a0) fun r3 => bnd (gR 4 0 r3) fun r4 => bnd (cv 0 r4 (f_X0_sources r4 a1)) fun t5 => rt t5 else bnd (cv 5 a0 (f_X6_refuse a0 t1)) fun t7 => rt t7
set_option maxRecDepth 20000 in
theorem s_X6_echo (a0 : Nat) (a1 : Int32) : Sm eX6_echo [.ref a0, .int a1] eI (f_X6_echo a0 a1) := by
  intro hp vr hr H
  unfold f_X6_echo at H
  show Rn none 0 0 eX6_echo 0 [some (.ref a0), some (.int a1), none] [] hp (eI vr, hr)
  refine r_aln rfl rfl rfl ?_
  refine r_iln rfl rfl rfl ?_
  refine r_vtI (rest := []) H rfl rfl rfl (s_X6_noPerson a0 a1) rfl rfl ⟨rfl, rfl⟩ rfl (fun t1 h2 H => ?_)
  refine r_isn (L' := [some (.ref a0), some (.int a1), some (.int t1)]) rfl rfl (Nat.le_of_ble_eq_true rfl) rfl ?_
  refine r_iln rfl rfl rfl ?_
  refine r_if H rfl rfl (fun H => ?_) (fun H => ?_)
  · refine r_aln rfl rfl rfl ?_
    refine r_gR H rfl kd_5_0 (fun r3 H => ?_)
    refine r_gR H rfl kd_4_0 (fun r4 H => ?_)
    refine r_iln rfl rfl rfl ?_
    refine r_vtI (rest := []) H rfl rfl rfl (s_X0_sources r4 a1) rfl rfl ⟨rfl, rfl⟩ rfl (fun t5 h6 H => ?_)
    exact r_reti H rfl rfl ⟨Nat.zero_le _, Nat.zero_le _⟩
  · refine r_aln rfl rfl rfl ?_
    refine r_iln rfl rfl rfl ?_
    refine r_vtI (rest := []) H rfl rfl rfl (s_X6_refuse a0 t1) rfl rfl ⟨rfl, rfl⟩ rfl (fun t7 h8 H => ?_)
    refine r_go rfl ?_
    exact r_reti H rfl rfl ⟨Nat.zero_le _, Nat.zero_le _⟩
def f_X6_loops (a0 : Nat) (a1 : Int32) : M Int32 := bnd (f_X6_noChoice a1 (3 : Int32)) fun t1 => if t1 = (0 : Int32) then bnd (gR 5 0 a0) fun r3 => bnd (gR 4 0 r3) fun r4 => if ¬ a1 = (2 : Int32) then loopK NF (fun (s5 : Int32 × Int32) k6 => bnd (gI 0 0 r4) fun t8 => if t8 ≤ s5.2 then rt s5.1 else jn (fun k10 => if ¬ a1 = (0 : Int32) then bnd (gR 0 7 r4) fun r11 => bnd (aI r11 s5.2) fun t12 => if ¬ t12 = (0 : Int32) then k10 (0 : Int32) else k10 (1 : Int32) else bnd (cv 0 r4 (f_X0_sources r4 s5.2)) fun t13 => bnd (f_X6_holds t13 s5.2) fun t15 => k10 t15) (fun (s9 : Int32) => if s9 = (0 : Int32) then k6 (s5.1, (s5.2 + (1 : Int32))) else k6 ((s5.1 ||| ((1 : Int32) <<< (s5.2 &&& (31 : Int32)))), (s5.2 + (1 : Int32))))) ((0 : Int32), (0 : Int32)) else bnd (cv 0 r4 (f_X0_everybody r4)) fun t17 => bnd (gR 0 7 r4) fun r19 => bnd (cv 0 r4 (f_X0_everybody r4)) fun t20 => bnd (f_X2_next r19 t20) fun t22 => rt (t17 &&& (t22 ^^^ (-1 : Int32))) else bnd (cv 5 a0 (f_X6_refuse a0 t1)) fun t24 => rt t24
set_option maxRecDepth 20000 in
theorem s_X6_loops (a0 : Nat) (a1 : Int32) : Sm eX6_loops [.ref a0, .int a1] eI (f_X6_loops a0 a1) := by
  intro hp vr hr H
  unfold f_X6_loops at H
  show Rn none 0 0 eX6_loops 0 [some (.ref a0), some (.int a1), none, none, none, none, none] [] hp (eI vr, hr)
  refine r_iln rfl rfl rfl ?_
  refine r_ic (v := 3) rfl ci_3 ?_
  refine r_stI (rest := []) H rfl rfl (s_X6_noChoice a1 (3 : Int32)) rfl rfl ⟨rfl, rfl⟩ rfl (fun t1 h2 H => ?_)
  refine r_isn (L' := [some (.ref a0), some (.int a1), some (.int t1), none, none, none, none]) rfl rfl (Nat.le_of_ble_eq_true rfl) rfl ?_
  refine r_iln rfl rfl rfl ?_
  refine r_if H rfl rfl (fun H => ?_) (fun H => ?_)
  · refine r_aln rfl rfl rfl ?_
    refine r_gR H rfl kd_5_0 (fun r3 H => ?_)
    refine r_gR H rfl kd_4_0 (fun r4 H => ?_)
    refine r_asn (L' := [some (.ref a0), some (.int a1), some (.int t1), some (.ref r4), none, none, none]) rfl rfl (Nat.le_of_ble_eq_true rfl) rfl ?_
    refine r_iln rfl rfl rfl ?_
    refine r_ic (v := 2) rfl ci_2 ?_
    refine r_cmp H rfl rfl (fun H => ?_) (fun H => ?_)
    · refine r_ic (v := 0) rfl ci_0 ?_
      refine r_is (L' := [some (.ref a0), some (.int a1), some (.int t1), some (.ref r4), some (.int (0 : Int32)), none, none]) rfl (Nat.le_of_ble_eq_true rfl) rfl ?_
      refine r_ic (v := 0) rfl ci_0 ?_
      refine r_is (L' := [some (.ref a0), some (.int a1), some (.int t1), some (.ref r4), some (.int (0 : Int32)), some (.int (0 : Int32)), none]) rfl (Nat.le_of_ble_eq_true rfl) rfl ?_
      refine (r_loop (P := (fun (s5 : Int32 × Int32) hq => ∀ ys5_0 : Int32, ∀ ys5_1 : Int32, s5 = (ys5_0, ys5_1) → ∀ x7 : Option Value, Rn none 0 0 eX6_loops 32 [some (.ref a0), some (.int a1), some (.int t1), some (.ref r4), some (.int ys5_0), some (.int ys5_1), x7] [] hq (eI vr, hr))) ?_ NF _ _ H) _ _ rfl _
      intro k6 K6 s5 hs5 H ys5_0 ys5_1 es5 x7
      subst es5
      refine r_il rfl rfl ?_
      refine r_aln rfl rfl rfl ?_
      refine r_gI' H rfl kl_0_0 (fun t8 H => ?_)
      refine r_cmp H rfl rfl (fun H => ?_) (fun H => ?_)
      · refine r_il rfl rfl ?_
        exact r_reti H rfl rfl ⟨Nat.zero_le _, Nat.zero_le _⟩
      · refine r_iln rfl rfl rfl ?_
        refine r_jn (P := (fun (s9 : Int32) hq => Rn none 0 0 eX6_loops 52 [some (.ref a0), some (.int a1), some (.int t1), some (.ref r4), some (.int ys5_0), some (.int ys5_1), x7] [.int s9] hq (eI vr, hr))) H (fun s9 hs9 H  => ?_) (fun k10 K10 H => ?_)
        · refine r_is (L' := [some (.ref a0), some (.int a1), some (.int t1), some (.ref r4), some (.int ys5_0), some (.int ys5_1), some (.int s9)]) rfl (Nat.le_of_ble_eq_true rfl) rfl ?_
          refine r_il rfl rfl ?_
          refine r_if H rfl rfl (fun H => ?_) (fun H => ?_)
          · refine r_inc (v := 1) (L' := [some (.ref a0), some (.int a1), some (.int t1), some (.ref r4), some (.int ys5_0), some (.int (ys5_1 + (1 : Int32))), some (.int s9)]) rfl rfl ci_1 rfl ?_
            refine r_go rfl ?_
            have q := K6 _ _ H _ _ rfl
            exact q _
          · refine r_il rfl rfl ?_
            refine r_ic (v := 1) rfl ci_1 ?_
            refine r_il rfl rfl ?_
            refine r_shl rfl ?_
            refine r_or rfl ?_
            refine r_is (L' := [some (.ref a0), some (.int a1), some (.int t1), some (.ref r4), some (.int (ys5_0 ||| ((1 : Int32) <<< (ys5_1 &&& (31 : Int32))))), some (.int ys5_1), some (.int s9)]) rfl (Nat.le_of_ble_eq_true rfl) rfl ?_
            refine r_inc (v := 1) (L' := [some (.ref a0), some (.int a1), some (.int t1), some (.ref r4), some (.int (ys5_0 ||| ((1 : Int32) <<< (ys5_1 &&& (31 : Int32))))), some (.int (ys5_1 + (1 : Int32))), some (.int s9)]) rfl rfl ci_1 rfl ?_
            refine r_go rfl ?_
            have q := K6 _ _ H _ _ rfl
            exact q _
        · refine r_if H rfl rfl (fun H => ?_) (fun H => ?_)
          · refine r_aln rfl rfl rfl ?_
            refine r_gR H rfl kd_0_7 (fun r11 H => ?_)
            refine r_il rfl rfl ?_
            refine r_aI' H rfl (fun t12 H => ?_)
            refine r_if H rfl rfl (fun H => ?_) (fun H => ?_)
            · refine r_ic (v := 0) rfl ci_0 ?_
              have q := K10 _ _ H
              exact q
            · refine r_ic (v := 1) rfl ci_1 ?_
              refine r_go rfl ?_
              have q := K10 _ _ H
              exact q
          · refine r_aln rfl rfl rfl ?_
            refine r_il rfl rfl ?_
            refine r_vtI (rest := []) H rfl rfl rfl (s_X0_sources r4 ys5_1) rfl rfl ⟨rfl, rfl⟩ rfl (fun t13 h14 H => ?_)
            refine r_il rfl rfl ?_
            refine r_stI (rest := []) H rfl rfl (s_X6_holds t13 ys5_1) rfl rfl ⟨rfl, rfl⟩ rfl (fun t15 h16 H => ?_)
            refine r_go rfl ?_
            have q := K10 _ _ H
            exact q
    · refine r_aln rfl rfl rfl ?_
      refine r_vtI (rest := []) H rfl rfl rfl (s_X0_everybody r4) rfl rfl ⟨rfl, rfl⟩ rfl (fun t17 h18 H => ?_)
      refine r_aln rfl rfl rfl ?_
      refine r_gR H rfl kd_0_7 (fun r19 H => ?_)
      refine r_aln rfl rfl rfl ?_
      refine r_vtI (rest := [.ref r19, .int t17]) H rfl rfl rfl (s_X0_everybody r4) rfl rfl ⟨rfl, rfl⟩ rfl (fun t20 h21 H => ?_)
      refine r_stI (rest := [.int t17]) H rfl rfl (s_X2_next r19 t20) rfl rfl ⟨rfl, rfl⟩ rfl (fun t22 h23 H => ?_)
      refine r_ic (v := -1) rfl ci_m1 ?_
      refine r_xor rfl ?_
      refine r_and rfl ?_
      exact r_reti H rfl rfl ⟨Nat.zero_le _, Nat.zero_le _⟩
  · refine r_aln rfl rfl rfl ?_
    refine r_iln rfl rfl rfl ?_
    refine r_vtI (rest := []) H rfl rfl rfl (s_X6_refuse a0 t1) rfl rfl ⟨rfl, rfl⟩ rfl (fun t24 h25 H => ?_)
    exact r_reti H rfl rfl ⟨Nat.zero_le _, Nat.zero_le _⟩
def f_X6_aheadWithFigure (a0 : Nat) (a1 : Int32) (a2 : Int32) (a3 : Int32) : M Nat := bnd (gR 5 4 a0) fun r1 => bnd (gR 5 0 a0) fun r2 => bnd (gR 4 0 r2) fun r3 => bnd (cv 0 r1 (f_X0_copyFrom r1 r3)) fun _ => bnd (gR 5 4 a0) fun r6 => bnd (gR 0 4 r6) fun r7 => bnd (sI r7 a1 a3) fun _ => bnd (gR 5 4 a0) fun r8 => bnd (cv 0 r8 (f_X0_passWeeks r8 a2)) fun _ => bnd (gR 5 4 a0) fun r11 => rt r11
set_option maxRecDepth 20000 in
theorem s_X6_aheadWithFigure (a0 : Nat) (a1 : Int32) (a2 : Int32) (a3 : Int32) : Sm eX6_aheadWithFigure [.ref a0, .int a1, .int a2, .int a3] eR (f_X6_aheadWithFigure a0 a1 a2 a3) := by
  intro hp vr hr H
  unfold f_X6_aheadWithFigure at H
  show Rn none 0 0 eX6_aheadWithFigure 0 [some (.ref a0), some (.int a1), some (.int a2), some (.int a3)] [] hp (eR vr, hr)
  refine r_aln rfl rfl rfl ?_
  refine r_gR H rfl kd_5_4 (fun r1 H => ?_)
  refine r_aln rfl rfl rfl ?_
  refine r_gR H rfl kd_5_0 (fun r2 H => ?_)
  refine r_gR H rfl kd_4_0 (fun r3 H => ?_)
  refine r_vtU (rest := []) H rfl rfl rfl (s_X0_copyFrom r1 r3) rfl rfl ⟨rfl, rfl⟩ rfl (fun t4 h5 H => ?_)
  refine r_aln rfl rfl rfl ?_
  refine r_gR H rfl kd_5_4 (fun r6 H => ?_)
  refine r_gR H rfl kd_0_4 (fun r7 H => ?_)
  refine r_iln rfl rfl rfl ?_
  refine r_iln rfl rfl rfl ?_
  refine r_sI H rfl (fun H => ?_)
  refine r_aln rfl rfl rfl ?_
  refine r_gR H rfl kd_5_4 (fun r8 H => ?_)
  refine r_iln rfl rfl rfl ?_
  refine r_vtU (rest := []) H rfl rfl rfl (s_X0_passWeeks r8 a2) rfl rfl ⟨rfl, rfl⟩ rfl (fun t9 h10 H => ?_)
  refine r_aln rfl rfl rfl ?_
  refine r_gR H rfl kd_5_4 (fun r11 H => ?_)
  exact r_retr H rfl rfl ⟨Nat.zero_le _, Nat.zero_le _⟩
def f_X6_humble (a0 : Nat) (a1 : Int32) : M Int32 := bnd (f_X6_outside a1 (0 : Int32) (60 : Int32)) fun t1 => if t1 = (0 : Int32) then bnd (cv 5 a0 (f_X6_ahead a0 a1)) fun t3 => bnd (cv 0 t3 (f_X0_allErrors t3)) fun t5 => loopK NF (fun (s7 : Int32 × Int32 × Int32) k8 => bnd (gR 5 0 a0) fun r10 => bnd (gR 4 0 r10) fun r11 => bnd (gI 0 0 r11) fun t12 => if t12 ≤ s7.2.2 then rt s7.1 else bnd (cv 5 a0 (f_X6_aheadWithFigure a0 s7.2.2 a1 (0 : Int32))) fun t13 => bnd (cv 0 t13 (f_X0_allErrors t13)) fun t15 => if s7.2.1 ≤ t15 then k8 (s7.1, s7.2.1, (s7.2.2 + (1 : Int32))) else k8 (s7.2.2, t15, (s7.2.2 + (1 : Int32)))) ((-9 : Int32), t5, (0 : Int32)) else bnd (cv 5 a0 (f_X6_refuse a0 t1)) fun t17 => rt t17
set_option maxRecDepth 20000 in
theorem s_X6_humble (a0 : Nat) (a1 : Int32) : Sm eX6_humble [.ref a0, .int a1] eI (f_X6_humble a0 a1) := by
  intro hp vr hr H
  unfold f_X6_humble at H
  show Rn none 0 0 eX6_humble 0 [some (.ref a0), some (.int a1), none, none, none, none, none] [] hp (eI vr, hr)
  refine r_iln rfl rfl rfl ?_
  refine r_ic (v := 0) rfl ci_0 ?_
  refine r_bi (v := 60) rfl cb_60 ?_
  refine r_stI (rest := []) H rfl rfl (s_X6_outside a1 (0 : Int32) (60 : Int32)) rfl rfl ⟨rfl, rfl⟩ rfl (fun t1 h2 H => ?_)
  refine r_isn (L' := [some (.ref a0), some (.int a1), some (.int t1), none, none, none, none]) rfl rfl (Nat.le_of_ble_eq_true rfl) rfl ?_
  refine r_iln rfl rfl rfl ?_
  refine r_if H rfl rfl (fun H => ?_) (fun H => ?_)
  · refine r_bi (v := -9) rfl cb_m9 ?_
    refine r_isn (L' := [some (.ref a0), some (.int a1), some (.int t1), some (.int (-9 : Int32)), none, none, none]) rfl rfl (Nat.le_of_ble_eq_true rfl) rfl ?_
    refine r_aln rfl rfl rfl ?_
    refine r_iln rfl rfl rfl ?_
    refine r_vtR (rest := []) H rfl rfl rfl (s_X6_ahead a0 a1) rfl rfl ⟨rfl, rfl⟩ rfl (fun t3 h4 H => ?_)
    refine r_vtI (rest := []) H rfl rfl rfl (s_X0_allErrors t3) rfl rfl ⟨rfl, rfl⟩ rfl (fun t5 h6 H => ?_)
    refine r_is (L' := [some (.ref a0), some (.int a1), some (.int t1), some (.int (-9 : Int32)), some (.int t5), none, none]) rfl (Nat.le_of_ble_eq_true rfl) rfl ?_
    refine r_ic (v := 0) rfl ci_0 ?_
    refine r_is (L' := [some (.ref a0), some (.int a1), some (.int t1), some (.int (-9 : Int32)), some (.int t5), some (.int (0 : Int32)), none]) rfl (Nat.le_of_ble_eq_true rfl) rfl ?_
    refine (r_loop (P := (fun (s7 : Int32 × Int32 × Int32) hq => ∀ ys7_0 : Int32, ∀ ys7_1 : Int32, ∀ ys7_2 : Int32, s7 = (ys7_0, ys7_1, ys7_2) → ∀ x9 : Option Value, Rn none 0 0 eX6_humble 20 [some (.ref a0), some (.int a1), some (.int t1), some (.int ys7_0), some (.int ys7_1), some (.int ys7_2), x9] [] hq (eI vr, hr))) ?_ NF _ _ H) _ _ _ rfl _
    intro k8 K8 s7 hs7 H ys7_0 ys7_1 ys7_2 es7 x9
    subst es7
    refine r_il rfl rfl ?_
    refine r_aln rfl rfl rfl ?_
    refine r_gR H rfl kd_5_0 (fun r10 H => ?_)
    refine r_gR H rfl kd_4_0 (fun r11 H => ?_)
    refine r_gI' H rfl kl_0_0 (fun t12 H => ?_)
    refine r_cmp H rfl rfl (fun H => ?_) (fun H => ?_)
    · refine r_iln rfl rfl rfl ?_
      exact r_reti H rfl rfl ⟨Nat.zero_le _, Nat.zero_le _⟩
    · refine r_aln rfl rfl rfl ?_
      refine r_il rfl rfl ?_
      refine r_iln rfl rfl rfl ?_
      refine r_ic (v := 0) rfl ci_0 ?_
      refine r_vtR (rest := []) H rfl rfl rfl (s_X6_aheadWithFigure a0 ys7_2 a1 (0 : Int32)) rfl rfl ⟨rfl, rfl⟩ rfl (fun t13 h14 H => ?_)
      refine r_vtI (rest := []) H rfl rfl rfl (s_X0_allErrors t13) rfl rfl ⟨rfl, rfl⟩ rfl (fun t15 h16 H => ?_)
      refine r_is (L' := [some (.ref a0), some (.int a1), some (.int t1), some (.int ys7_0), some (.int ys7_1), some (.int ys7_2), some (.int t15)]) rfl (Nat.le_of_ble_eq_true rfl) rfl ?_
      refine r_il rfl rfl ?_
      refine r_il rfl rfl ?_
      refine r_cmp H rfl rfl (fun H => ?_) (fun H => ?_)
      · refine r_inc (v := 1) (L' := [some (.ref a0), some (.int a1), some (.int t1), some (.int ys7_0), some (.int ys7_1), some (.int (ys7_2 + (1 : Int32))), some (.int t15)]) rfl rfl ci_1 rfl ?_
        refine r_go rfl ?_
        have q := K8 _ _ H _ _ _ rfl
        exact q _
      · refine r_il rfl rfl ?_
        refine r_is (L' := [some (.ref a0), some (.int a1), some (.int t1), some (.int ys7_0), some (.int t15), some (.int ys7_2), some (.int t15)]) rfl (Nat.le_of_ble_eq_true rfl) rfl ?_
        refine r_il rfl rfl ?_
        refine r_isn (L' := [some (.ref a0), some (.int a1), some (.int t1), some (.int ys7_2), some (.int t15), some (.int ys7_2), some (.int t15)]) rfl rfl (Nat.le_of_ble_eq_true rfl) rfl ?_
        refine r_inc (v := 1) (L' := [some (.ref a0), some (.int a1), some (.int t1), some (.int ys7_2), some (.int t15), some (.int (ys7_2 + (1 : Int32))), some (.int t15)]) rfl rfl ci_1 rfl ?_
        refine r_go rfl ?_
        have q := K8 _ _ H _ _ _ rfl
        exact q _
  · refine r_aln rfl rfl rfl ?_
    refine r_iln rfl rfl rfl ?_
    refine r_vtI (rest := []) H rfl rfl rfl (s_X6_refuse a0 t1) rfl rfl ⟨rfl, rfl⟩ rfl (fun t17 h18 H => ?_)
    exact r_reti H rfl rfl ⟨Nat.zero_le _, Nat.zero_le _⟩
def f_X6_highest (a0 : Nat) (a1 : Int32) (a2 : Int32) : M Int32 := bnd (cv 5 a0 (f_X6_noPerson a0 a1)) fun t1 => bnd (f_X6_noChoice a2 (2 : Int32)) fun t3 => bnd (f_X6_first t1 t3) fun t5 => if t5 = (0 : Int32) then loopK NF (fun (s7 : Int32 × Int32) k8 => bnd (gR 5 0 a0) fun r10 => bnd (gR 4 0 r10) fun r11 => bnd (gI 0 0 r11) fun t12 => if t12 ≤ s7.2 then rt s7.1 else if ¬ s7.2 = a1 then bnd (gR 5 0 a0) fun r13 => bnd (gR 4 0 r13) fun r14 => bnd (gR 5 0 a0) fun r15 => bnd (gR 4 0 r15) fun r16 => bnd (gR 0 5 r16) fun r17 => bnd (aI r17 a1) fun t18 => bnd (cv 0 r14 (f_X0_word r14 s7.2 t18)) fun t19 => if s7.1 = (-9 : Int32) then k8 (t19, (s7.2 + (1 : Int32))) else if ¬ a2 = (0 : Int32) then if s7.1 ≤ t19 then k8 (s7.1, (s7.2 + (1 : Int32))) else k8 (t19, (s7.2 + (1 : Int32))) else if t19 ≤ s7.1 then k8 (s7.1, (s7.2 + (1 : Int32))) else k8 (t19, (s7.2 + (1 : Int32))) else k8 (s7.1, (s7.2 + (1 : Int32)))) ((-9 : Int32), (0 : Int32)) else bnd (cv 5 a0 (f_X6_refuse a0 t5)) fun t21 => rt t21
set_option maxRecDepth 20000 in
theorem s_X6_highest (a0 : Nat) (a1 : Int32) (a2 : Int32) : Sm eX6_highest [.ref a0, .int a1, .int a2] eI (f_X6_highest a0 a1 a2) := by
  intro hp vr hr H
  unfold f_X6_highest at H
  show Rn none 0 0 eX6_highest 0 [some (.ref a0), some (.int a1), some (.int a2), none, none, none, none] [] hp (eI vr, hr)
  refine r_aln rfl rfl rfl ?_
  refine r_iln rfl rfl rfl ?_
  refine r_vtI (rest := []) H rfl rfl rfl (s_X6_noPerson a0 a1) rfl rfl ⟨rfl, rfl⟩ rfl (fun t1 h2 H => ?_)
  refine r_iln rfl rfl rfl ?_
  refine r_ic (v := 2) rfl ci_2 ?_
  refine r_stI (rest := [.int t1]) H rfl rfl (s_X6_noChoice a2 (2 : Int32)) rfl rfl ⟨rfl, rfl⟩ rfl (fun t3 h4 H => ?_)
  refine r_stI (rest := []) H rfl rfl (s_X6_first t1 t3) rfl rfl ⟨rfl, rfl⟩ rfl (fun t5 h6 H => ?_)
  refine r_isn (L' := [some (.ref a0), some (.int a1), some (.int a2), some (.int t5), none, none, none]) rfl rfl (Nat.le_of_ble_eq_true rfl) rfl ?_
  refine r_iln rfl rfl rfl ?_
  refine r_if H rfl rfl (fun H => ?_) (fun H => ?_)
  · refine r_bi (v := -9) rfl cb_m9 ?_
    refine r_is (L' := [some (.ref a0), some (.int a1), some (.int a2), some (.int t5), some (.int (-9 : Int32)), none, none]) rfl (Nat.le_of_ble_eq_true rfl) rfl ?_
    refine r_ic (v := 0) rfl ci_0 ?_
    refine r_is (L' := [some (.ref a0), some (.int a1), some (.int a2), some (.int t5), some (.int (-9 : Int32)), some (.int (0 : Int32)), none]) rfl (Nat.le_of_ble_eq_true rfl) rfl ?_
    refine (r_loop (P := (fun (s7 : Int32 × Int32) hq => ∀ ys7_0 : Int32, ∀ ys7_1 : Int32, s7 = (ys7_0, ys7_1) → ∀ x9 : Option Value, Rn none 0 0 eX6_highest 18 [some (.ref a0), some (.int a1), some (.int a2), some (.int t5), some (.int ys7_0), some (.int ys7_1), x9] [] hq (eI vr, hr))) ?_ NF _ _ H) _ _ rfl _
    intro k8 K8 s7 hs7 H ys7_0 ys7_1 es7 x9
    subst es7
    refine r_il rfl rfl ?_
    refine r_aln rfl rfl rfl ?_
    refine r_gR H rfl kd_5_0 (fun r10 H => ?_)
    refine r_gR H rfl kd_4_0 (fun r11 H => ?_)
    refine r_gI' H rfl kl_0_0 (fun t12 H => ?_)
    refine r_cmp H rfl rfl (fun H => ?_) (fun H => ?_)
    · refine r_il rfl rfl ?_
      exact r_reti H rfl rfl ⟨Nat.zero_le _, Nat.zero_le _⟩
    · refine r_il rfl rfl ?_
      refine r_iln rfl rfl rfl ?_
      refine r_cmp H rfl rfl (fun H => ?_) (fun H => ?_)
      · refine r_aln rfl rfl rfl ?_
        refine r_gR H rfl kd_5_0 (fun r13 H => ?_)
        refine r_gR H rfl kd_4_0 (fun r14 H => ?_)
        refine r_il rfl rfl ?_
        refine r_aln rfl rfl rfl ?_
        refine r_gR H rfl kd_5_0 (fun r15 H => ?_)
        refine r_gR H rfl kd_4_0 (fun r16 H => ?_)
        refine r_gR H rfl kd_0_5 (fun r17 H => ?_)
        refine r_iln rfl rfl rfl ?_
        refine r_aI' H rfl (fun t18 H => ?_)
        refine r_vtI (rest := []) H rfl rfl rfl (s_X0_word r14 ys7_1 t18) rfl rfl ⟨rfl, rfl⟩ rfl (fun t19 h20 H => ?_)
        refine r_is (L' := [some (.ref a0), some (.int a1), some (.int a2), some (.int t5), some (.int ys7_0), some (.int ys7_1), some (.int t19)]) rfl (Nat.le_of_ble_eq_true rfl) rfl ?_
        refine r_il rfl rfl ?_
        refine r_bi (v := -9) rfl cb_m9 ?_
        refine r_cmp H rfl rfl (fun H => ?_) (fun H => ?_)
        · refine r_il rfl rfl ?_
          refine r_is (L' := [some (.ref a0), some (.int a1), some (.int a2), some (.int t5), some (.int t19), some (.int ys7_1), some (.int t19)]) rfl (Nat.le_of_ble_eq_true rfl) rfl ?_
          refine r_inc (v := 1) (L' := [some (.ref a0), some (.int a1), some (.int a2), some (.int t5), some (.int t19), some (.int (ys7_1 + (1 : Int32))), some (.int t19)]) rfl rfl ci_1 rfl ?_
          refine r_go rfl ?_
          have q := K8 _ _ H _ _ rfl
          exact q _
        · refine r_iln rfl rfl rfl ?_
          refine r_if H rfl rfl (fun H => ?_) (fun H => ?_)
          · refine r_il rfl rfl ?_
            refine r_il rfl rfl ?_
            refine r_cmp H rfl rfl (fun H => ?_) (fun H => ?_)
            · refine r_inc (v := 1) (L' := [some (.ref a0), some (.int a1), some (.int a2), some (.int t5), some (.int ys7_0), some (.int (ys7_1 + (1 : Int32))), some (.int t19)]) rfl rfl ci_1 rfl ?_
              refine r_go rfl ?_
              have q := K8 _ _ H _ _ rfl
              exact q _
            · refine r_il rfl rfl ?_
              refine r_is (L' := [some (.ref a0), some (.int a1), some (.int a2), some (.int t5), some (.int t19), some (.int ys7_1), some (.int t19)]) rfl (Nat.le_of_ble_eq_true rfl) rfl ?_
              refine r_inc (v := 1) (L' := [some (.ref a0), some (.int a1), some (.int a2), some (.int t5), some (.int t19), some (.int (ys7_1 + (1 : Int32))), some (.int t19)]) rfl rfl ci_1 rfl ?_
              refine r_go rfl ?_
              have q := K8 _ _ H _ _ rfl
              exact q _
          · refine r_il rfl rfl ?_
            refine r_il rfl rfl ?_
            refine r_cmp H rfl rfl (fun H => ?_) (fun H => ?_)
            · refine r_inc (v := 1) (L' := [some (.ref a0), some (.int a1), some (.int a2), some (.int t5), some (.int ys7_0), some (.int (ys7_1 + (1 : Int32))), some (.int t19)]) rfl rfl ci_1 rfl ?_
              refine r_go rfl ?_
              have q := K8 _ _ H _ _ rfl
              exact q _
            · refine r_go rfl ?_
              refine r_il rfl rfl ?_
              refine r_is (L' := [some (.ref a0), some (.int a1), some (.int a2), some (.int t5), some (.int t19), some (.int ys7_1), some (.int t19)]) rfl (Nat.le_of_ble_eq_true rfl) rfl ?_
              refine r_inc (v := 1) (L' := [some (.ref a0), some (.int a1), some (.int a2), some (.int t5), some (.int t19), some (.int (ys7_1 + (1 : Int32))), some (.int t19)]) rfl rfl ci_1 rfl ?_
              refine r_go rfl ?_
              have q := K8 _ _ H _ _ rfl
              exact q _
      · refine r_go rfl ?_
        refine r_inc (v := 1) (L' := [some (.ref a0), some (.int a1), some (.int a2), some (.int t5), some (.int ys7_0), some (.int (ys7_1 + (1 : Int32))), x9]) rfl rfl ci_1 rfl ?_
        refine r_go rfl ?_
        have q := K8 _ _ H _ _ rfl
        exact q _
  · refine r_aln rfl rfl rfl ?_
    refine r_iln rfl rfl rfl ?_
    refine r_vtI (rest := []) H rfl rfl rfl (s_X6_refuse a0 t5) rfl rfl ⟨rfl, rfl⟩ rfl (fun t21 h22 H => ?_)
    exact r_reti H rfl rfl ⟨Nat.zero_le _, Nat.zero_le _⟩
def f_X6_spread (a0 : Nat) (a1 : Int32) : M Int32 := bnd (f_X6_outside a1 (0 : Int32) (60 : Int32)) fun t1 => if t1 = (0 : Int32) then bnd (cv 5 a0 (f_X6_ahead a0 a1)) fun t3 => bnd (cv 0 t3 (f_X0_width t3)) fun t5 => rt t5 else bnd (cv 5 a0 (f_X6_refuse a0 t1)) fun t7 => rt t7
set_option maxRecDepth 20000 in
theorem s_X6_spread (a0 : Nat) (a1 : Int32) : Sm eX6_spread [.ref a0, .int a1] eI (f_X6_spread a0 a1) := by
  intro hp vr hr H
  unfold f_X6_spread at H
  show Rn none 0 0 eX6_spread 0 [some (.ref a0), some (.int a1), none] [] hp (eI vr, hr)
  refine r_iln rfl rfl rfl ?_
  refine r_ic (v := 0) rfl ci_0 ?_
  refine r_bi (v := 60) rfl cb_60 ?_
  refine r_stI (rest := []) H rfl rfl (s_X6_outside a1 (0 : Int32) (60 : Int32)) rfl rfl ⟨rfl, rfl⟩ rfl (fun t1 h2 H => ?_)
  refine r_isn (L' := [some (.ref a0), some (.int a1), some (.int t1)]) rfl rfl (Nat.le_of_ble_eq_true rfl) rfl ?_
  refine r_iln rfl rfl rfl ?_
  refine r_if H rfl rfl (fun H => ?_) (fun H => ?_)
  · refine r_aln rfl rfl rfl ?_
    refine r_iln rfl rfl rfl ?_
    refine r_vtR (rest := []) H rfl rfl rfl (s_X6_ahead a0 a1) rfl rfl ⟨rfl, rfl⟩ rfl (fun t3 h4 H => ?_)
    refine r_vtI (rest := []) H rfl rfl rfl (s_X0_width t3) rfl rfl ⟨rfl, rfl⟩ rfl (fun t5 h6 H => ?_)
    exact r_reti H rfl rfl ⟨Nat.zero_le _, Nat.zero_le _⟩
  · refine r_aln rfl rfl rfl ?_
    refine r_iln rfl rfl rfl ?_
    refine r_vtI (rest := []) H rfl rfl rfl (s_X6_refuse a0 t1) rfl rfl ⟨rfl, rfl⟩ rfl (fun t7 h8 H => ?_)
    refine r_go rfl ?_
    exact r_reti H rfl rfl ⟨Nat.zero_le _, Nat.zero_le _⟩
def f_X6_pairs (a0 : Nat) : M Int32 := bnd (gR 5 0 a0) fun r1 => bnd (gR 4 0 r1) fun r2 => loopK NF (fun (s3 : Int32 × Int32 × Int32) k4 => bnd (gI 0 0 r2) fun t7 => if t7 ≤ s3.2.2 then rt s3.1 else loopK NF (fun (s8 : Int32 × Int32 × Int32) k9 => bnd (gI 0 0 r2) fun t11 => if t11 ≤ s8.2.2 then k4 (s8.1, s8.2.1, (s3.2.2 + (1 : Int32))) else bnd (gR 0 7 r2) fun r12 => bnd (aI r12 s3.2.2) fun t13 => bnd (f_X6_holds t13 s8.2.2) fun t14 => jn (fun k17 => if t14 = (0 : Int32) then k17 (0 : Int32) else bnd (gR 0 7 r2) fun r22 => bnd (aI r22 s8.2.2) fun t23 => bnd (f_X6_holds t23 s3.2.2) fun t24 => if t24 = (0 : Int32) then k17 (0 : Int32) else k17 (1 : Int32)) (fun (s16 : Int32) => if s16 = (0 : Int32) then k9 (s8.1, s8.2.1, (s8.2.2 + (1 : Int32))) else bnd (cv 0 r2 (f_X0_apart r2 s3.2.2 s8.2.2)) fun t18 => if t18 ≤ s8.2.1 then k9 (s8.1, s8.2.1, (s8.2.2 + (1 : Int32))) else bnd (cv 0 r2 (f_X0_apart r2 s3.2.2 s8.2.2)) fun t20 => k9 ((((10 : Int32) * s3.2.2) + s8.2.2), t20, (s8.2.2 + (1 : Int32))))) (s3.1, s3.2.1, (s3.2.2 + (1 : Int32)))) ((-9 : Int32), (-9 : Int32), (0 : Int32))
set_option maxRecDepth 20000 in
theorem s_X6_pairs (a0 : Nat) : Sm eX6_pairs [.ref a0] eI (f_X6_pairs a0) := by
  intro hp vr hr H
  unfold f_X6_pairs at H
  show Rn none 0 0 eX6_pairs 0 [some (.ref a0), none, none, none, none, none, none] [] hp (eI vr, hr)
  refine r_aln rfl rfl rfl ?_
  refine r_gR H rfl kd_5_0 (fun r1 H => ?_)
  refine r_gR H rfl kd_4_0 (fun r2 H => ?_)
  refine r_asn (L' := [some (.ref a0), some (.ref r2), none, none, none, none, none]) rfl rfl (Nat.le_of_ble_eq_true rfl) rfl ?_
  refine r_bi (v := -9) rfl cb_m9 ?_
  refine r_isn (L' := [some (.ref a0), some (.ref r2), some (.int (-9 : Int32)), none, none, none, none]) rfl rfl (Nat.le_of_ble_eq_true rfl) rfl ?_
  refine r_bi (v := -9) rfl cb_m9 ?_
  refine r_isn (L' := [some (.ref a0), some (.ref r2), some (.int (-9 : Int32)), some (.int (-9 : Int32)), none, none, none]) rfl rfl (Nat.le_of_ble_eq_true rfl) rfl ?_
  refine r_ic (v := 0) rfl ci_0 ?_
  refine r_is (L' := [some (.ref a0), some (.ref r2), some (.int (-9 : Int32)), some (.int (-9 : Int32)), some (.int (0 : Int32)), none, none]) rfl (Nat.le_of_ble_eq_true rfl) rfl ?_
  refine (r_loop (P := (fun (s3 : Int32 × Int32 × Int32) hq => ∀ ys3_0 : Int32, ∀ ys3_1 : Int32, ∀ ys3_2 : Int32, s3 = (ys3_0, ys3_1, ys3_2) → ∀ x5 : Option Value, ∀ x6 : Option Value, Rn none 0 0 eX6_pairs 10 [some (.ref a0), some (.ref r2), some (.int ys3_0), some (.int ys3_1), some (.int ys3_2), x5, x6] [] hq (eI vr, hr))) ?_ NF _ _ H) _ _ _ rfl _ _
  intro k4 K4 s3 hs3 H ys3_0 ys3_1 ys3_2 es3 x5 x6
  subst es3
  refine r_il rfl rfl ?_
  refine r_aln rfl rfl rfl ?_
  refine r_gI' H rfl kl_0_0 (fun t7 H => ?_)
  refine r_cmp H rfl rfl (fun H => ?_) (fun H => ?_)
  · refine r_iln rfl rfl rfl ?_
    exact r_reti H rfl rfl ⟨Nat.zero_le _, Nat.zero_le _⟩
  · refine r_il rfl rfl ?_
    refine r_ic (v := 1) rfl ci_1 ?_
    refine r_add rfl ?_
    refine r_is (L' := [some (.ref a0), some (.ref r2), some (.int ys3_0), some (.int ys3_1), some (.int ys3_2), some (.int (ys3_2 + (1 : Int32))), x6]) rfl (Nat.le_of_ble_eq_true rfl) rfl ?_
    refine (r_loop (P := (fun (s8 : Int32 × Int32 × Int32) hq => ∀ ys8_0 : Int32, ∀ ys8_1 : Int32, ∀ ys8_2 : Int32, s8 = (ys8_0, ys8_1, ys8_2) → ∀ x10 : Option Value, Rn none 0 0 eX6_pairs 18 [some (.ref a0), some (.ref r2), some (.int ys8_0), some (.int ys8_1), some (.int ys3_2), some (.int ys8_2), x10] [] hq (eI vr, hr))) ?_ NF _ _ H) _ _ _ rfl _
    intro k9 K9 s8 hs8 H ys8_0 ys8_1 ys8_2 es8 x10
    subst es8
    refine r_il rfl rfl ?_
    refine r_aln rfl rfl rfl ?_
    refine r_gI' H rfl kl_0_0 (fun t11 H => ?_)
    refine r_cmp H rfl rfl (fun H => ?_) (fun H => ?_)
    · refine r_inc (v := 1) (L' := [some (.ref a0), some (.ref r2), some (.int ys8_0), some (.int ys8_1), some (.int (ys3_2 + (1 : Int32))), some (.int ys8_2), x10]) rfl rfl ci_1 rfl ?_
      refine r_go rfl ?_
      have q := K4 _ _ H _ _ _ rfl
      exact q _ _
    · refine r_aln rfl rfl rfl ?_
      refine r_gR H rfl kd_0_7 (fun r12 H => ?_)
      refine r_il rfl rfl ?_
      refine r_aI' H rfl (fun t13 H => ?_)
      refine r_il rfl rfl ?_
      refine r_stI (rest := []) H rfl rfl (s_X6_holds t13 ys8_2) rfl rfl ⟨rfl, rfl⟩ rfl (fun t14 h15 H => ?_)
      refine r_jn (P := (fun (s16 : Int32) hq => Rn none 0 0 eX6_pairs 39 [some (.ref a0), some (.ref r2), some (.int ys8_0), some (.int ys8_1), some (.int ys3_2), some (.int ys8_2), x10] [.int s16] hq (eI vr, hr))) H (fun s16 hs16 H  => ?_) (fun k17 K17 H => ?_)
      · refine r_is (L' := [some (.ref a0), some (.ref r2), some (.int ys8_0), some (.int ys8_1), some (.int ys3_2), some (.int ys8_2), some (.int s16)]) rfl (Nat.le_of_ble_eq_true rfl) rfl ?_
        refine r_il rfl rfl ?_
        refine r_if H rfl rfl (fun H => ?_) (fun H => ?_)
        · refine r_inc (v := 1) (L' := [some (.ref a0), some (.ref r2), some (.int ys8_0), some (.int ys8_1), some (.int ys3_2), some (.int (ys8_2 + (1 : Int32))), some (.int s16)]) rfl rfl ci_1 rfl ?_
          refine r_go rfl ?_
          have q := K9 _ _ H _ _ _ rfl
          exact q _
        · refine r_aln rfl rfl rfl ?_
          refine r_il rfl rfl ?_
          refine r_il rfl rfl ?_
          refine r_vtI (rest := []) H rfl rfl rfl (s_X0_apart r2 ys3_2 ys8_2) rfl rfl ⟨rfl, rfl⟩ rfl (fun t18 h19 H => ?_)
          refine r_iln rfl rfl rfl ?_
          refine r_cmp H rfl rfl (fun H => ?_) (fun H => ?_)
          · refine r_inc (v := 1) (L' := [some (.ref a0), some (.ref r2), some (.int ys8_0), some (.int ys8_1), some (.int ys3_2), some (.int (ys8_2 + (1 : Int32))), some (.int s16)]) rfl rfl ci_1 rfl ?_
            refine r_go rfl ?_
            have q := K9 _ _ H _ _ _ rfl
            exact q _
          · refine r_aln rfl rfl rfl ?_
            refine r_il rfl rfl ?_
            refine r_il rfl rfl ?_
            refine r_vtI (rest := []) H rfl rfl rfl (s_X0_apart r2 ys3_2 ys8_2) rfl rfl ⟨rfl, rfl⟩ rfl (fun t20 h21 H => ?_)
            refine r_isn (L' := [some (.ref a0), some (.ref r2), some (.int ys8_0), some (.int t20), some (.int ys3_2), some (.int ys8_2), some (.int s16)]) rfl rfl (Nat.le_of_ble_eq_true rfl) rfl ?_
            refine r_bi (v := 10) rfl cb_10 ?_
            refine r_il rfl rfl ?_
            refine r_mul rfl ?_
            refine r_il rfl rfl ?_
            refine r_add rfl ?_
            refine r_isn (L' := [some (.ref a0), some (.ref r2), some (.int (((10 : Int32) * ys3_2) + ys8_2)), some (.int t20), some (.int ys3_2), some (.int ys8_2), some (.int s16)]) rfl rfl (Nat.le_of_ble_eq_true rfl) rfl ?_
            refine r_inc (v := 1) (L' := [some (.ref a0), some (.ref r2), some (.int (((10 : Int32) * ys3_2) + ys8_2)), some (.int t20), some (.int ys3_2), some (.int (ys8_2 + (1 : Int32))), some (.int s16)]) rfl rfl ci_1 rfl ?_
            refine r_go rfl ?_
            have q := K9 _ _ H _ _ _ rfl
            exact q _
      · refine r_if H rfl rfl (fun H => ?_) (fun H => ?_)
        · refine r_ic (v := 0) rfl ci_0 ?_
          have q := K17 _ _ H
          exact q
        · refine r_aln rfl rfl rfl ?_
          refine r_gR H rfl kd_0_7 (fun r22 H => ?_)
          refine r_il rfl rfl ?_
          refine r_aI' H rfl (fun t23 H => ?_)
          refine r_il rfl rfl ?_
          refine r_stI (rest := []) H rfl rfl (s_X6_holds t23 ys3_2) rfl rfl ⟨rfl, rfl⟩ rfl (fun t24 h25 H => ?_)
          refine r_if H rfl rfl (fun H => ?_) (fun H => ?_)
          · refine r_ic (v := 0) rfl ci_0 ?_
            have q := K17 _ _ H
            exact q
          · refine r_ic (v := 1) rfl ci_1 ?_
            refine r_go rfl ?_
            have q := K17 _ _ H
            exact q
def f_X6_calm (a0 : Nat) (a1 : Int32) : M Int32 := bnd (f_X6_outside a1 (0 : Int32) (99 : Int32)) fun t1 => if t1 = (0 : Int32) then bnd (cv 5 a0 (f_X6_ahead a0 (0 : Int32))) fun t3 => loopK NF (fun (s5 : Int32) k6 => if (60 : Int32) < s5 then rt (-9 : Int32) else bnd (cv 0 t3 (f_X0_fooledBy t3 a1)) fun t8 => jn (fun k11 => if t8 = (0 : Int32) then k11 (0 : Int32) else k11 (1 : Int32)) (fun (s10 : Int32) => bnd (cv 0 t3 (f_X0_passWeek t3)) fun t12 => if s10 = (0 : Int32) then k6 (s5 + (1 : Int32)) else bnd (gI 0 2 t3) fun t14 => if a1 < t14 then k6 (s5 + (1 : Int32)) else rt s5)) (0 : Int32) else bnd (cv 5 a0 (f_X6_refuse a0 t1)) fun t15 => rt t15
set_option maxRecDepth 20000 in
theorem s_X6_calm (a0 : Nat) (a1 : Int32) : Sm eX6_calm [.ref a0, .int a1] eI (f_X6_calm a0 a1) := by
  intro hp vr hr H
  unfold f_X6_calm at H
  show Rn none 0 0 eX6_calm 0 [some (.ref a0), some (.int a1), none, none, none, none] [] hp (eI vr, hr)
  refine r_iln rfl rfl rfl ?_
  refine r_ic (v := 0) rfl ci_0 ?_
  refine r_bi (v := 99) rfl cb_99 ?_
  refine r_stI (rest := []) H rfl rfl (s_X6_outside a1 (0 : Int32) (99 : Int32)) rfl rfl ⟨rfl, rfl⟩ rfl (fun t1 h2 H => ?_)
  refine r_isn (L' := [some (.ref a0), some (.int a1), some (.int t1), none, none, none]) rfl rfl (Nat.le_of_ble_eq_true rfl) rfl ?_
  refine r_iln rfl rfl rfl ?_
  refine r_if H rfl rfl (fun H => ?_) (fun H => ?_)
  · refine r_aln rfl rfl rfl ?_
    refine r_ic (v := 0) rfl ci_0 ?_
    refine r_vtR (rest := []) H rfl rfl rfl (s_X6_ahead a0 (0 : Int32)) rfl rfl ⟨rfl, rfl⟩ rfl (fun t3 h4 H => ?_)
    refine r_asn (L' := [some (.ref a0), some (.int a1), some (.int t1), some (.ref t3), none, none]) rfl rfl (Nat.le_of_ble_eq_true rfl) rfl ?_
    refine r_ic (v := 0) rfl ci_0 ?_
    refine r_is (L' := [some (.ref a0), some (.int a1), some (.int t1), some (.ref t3), some (.int (0 : Int32)), none]) rfl (Nat.le_of_ble_eq_true rfl) rfl ?_
    refine (r_loop (P := (fun (s5 : Int32) hq => ∀ x7 : Option Value, Rn none 0 0 eX6_calm 17 [some (.ref a0), some (.int a1), some (.int t1), some (.ref t3), some (.int s5), x7] [] hq (eI vr, hr))) ?_ NF _ _ H) _
    intro k6 K6 s5 hs5 H x7
    refine r_il rfl rfl ?_
    refine r_bi (v := 60) rfl cb_60 ?_
    refine r_cmp H rfl rfl (fun H => ?_) (fun H => ?_)
    · refine r_bi (v := -9) rfl cb_m9 ?_
      exact r_reti H rfl rfl ⟨Nat.zero_le _, Nat.zero_le _⟩
    · refine r_aln rfl rfl rfl ?_
      refine r_iln rfl rfl rfl ?_
      refine r_vtI (rest := []) H rfl rfl rfl (s_X0_fooledBy t3 a1) rfl rfl ⟨rfl, rfl⟩ rfl (fun t8 h9 H => ?_)
      refine r_jn (P := (fun (s10 : Int32) hq => Rn none 0 0 eX6_calm 27 [some (.ref a0), some (.int a1), some (.int t1), some (.ref t3), some (.int s5), x7] [.int s10] hq (eI vr, hr))) H (fun s10 hs10 H  => ?_) (fun k11 K11 H => ?_)
      · refine r_is (L' := [some (.ref a0), some (.int a1), some (.int t1), some (.ref t3), some (.int s5), some (.int s10)]) rfl (Nat.le_of_ble_eq_true rfl) rfl ?_
        refine r_aln rfl rfl rfl ?_
        refine r_vtI (rest := []) H rfl rfl rfl (s_X0_passWeek t3) rfl rfl ⟨rfl, rfl⟩ rfl (fun t12 h13 H => ?_)
        refine r_popi rfl ?_
        refine r_il rfl rfl ?_
        refine r_if H rfl rfl (fun H => ?_) (fun H => ?_)
        · refine r_inc (v := 1) (L' := [some (.ref a0), some (.int a1), some (.int t1), some (.ref t3), some (.int (s5 + (1 : Int32))), some (.int s10)]) rfl rfl ci_1 rfl ?_
          refine r_go rfl ?_
          have q := K6 _ _ H
          exact q _
        · refine r_aln rfl rfl rfl ?_
          refine r_gI' H rfl kl_0_2 (fun t14 H => ?_)
          refine r_iln rfl rfl rfl ?_
          refine r_cmp H rfl rfl (fun H => ?_) (fun H => ?_)
          · refine r_inc (v := 1) (L' := [some (.ref a0), some (.int a1), some (.int t1), some (.ref t3), some (.int (s5 + (1 : Int32))), some (.int s10)]) rfl rfl ci_1 rfl ?_
            refine r_go rfl ?_
            have q := K6 _ _ H
            exact q _
          · refine r_il rfl rfl ?_
            exact r_reti H rfl rfl ⟨Nat.zero_le _, Nat.zero_le _⟩
      · refine r_if H rfl rfl (fun H => ?_) (fun H => ?_)
        · refine r_ic (v := 0) rfl ci_0 ?_
          have q := K11 _ _ H
          exact q
        · refine r_ic (v := 1) rfl ci_1 ?_
          refine r_go rfl ?_
          have q := K11 _ _ H
          exact q
  · refine r_aln rfl rfl rfl ?_
    refine r_iln rfl rfl rfl ?_
    refine r_vtI (rest := []) H rfl rfl rfl (s_X6_refuse a0 t1) rfl rfl ⟨rfl, rfl⟩ rfl (fun t15 h16 H => ?_)
    exact r_reti H rfl rfl ⟨Nat.zero_le _, Nat.zero_le _⟩
