def f_X0_copyFrom (a0 : Nat) (a1 : Nat) : M Unit := bnd (gI 0 0 a1) fun t1 => bnd (pI 0 0 a0 t1) fun _ => bnd (gI 0 1 a1) fun t2 => bnd (pI 0 1 a0 t2) fun _ => bnd (gR 0 3 a1) fun r3 => bnd (gR 0 3 a0) fun r4 => bnd (cpy r3 (0 : Int32) r4 (0 : Int32) (7 : Int32)) fun _ => bnd (gR 0 4 a1) fun r5 => bnd (gR 0 4 a0) fun r6 => bnd (cpy r5 (0 : Int32) r6 (0 : Int32) (7 : Int32)) fun _ => bnd (gR 0 5 a1) fun r7 => bnd (gR 0 5 a0) fun r8 => bnd (cpy r7 (0 : Int32) r8 (0 : Int32) (7 : Int32)) fun _ => bnd (gR 0 6 a1) fun r9 => bnd (gR 0 6 a0) fun r10 => bnd (cpy r9 (0 : Int32) r10 (0 : Int32) (7 : Int32)) fun _ => bnd (gR 0 7 a1) fun r11 => bnd (gR 0 7 a0) fun r12 => bnd (cpy r11 (0 : Int32) r12 (0 : Int32) (7 : Int32)) fun _ => rt ()
set_option maxRecDepth 20000 in
theorem s_X0_copyFrom (a0 : Nat) (a1 : Nat) : Sm eX0_copyFrom [.ref a0, .ref a1] eU (f_X0_copyFrom a0 a1) := by
  intro hp vr hr H
  unfold f_X0_copyFrom at H
  show Rn none 0 0 eX0_copyFrom 0 [some (.ref a0), some (.ref a1)] [] hp (eU vr, hr)
  refine r_aln rfl rfl rfl ?_
  refine r_aln rfl rfl rfl ?_
  refine r_gI' H rfl kl_0_0 (fun t1 H => ?_)
  refine r_pI H rfl kd_0_0 (fun H => ?_)
  refine r_aln rfl rfl rfl ?_
  refine r_aln rfl rfl rfl ?_
  refine r_gI' H rfl kl_0_1 (fun t2 H => ?_)
  refine r_pI H rfl kd_0_1 (fun H => ?_)
  refine r_aln rfl rfl rfl ?_
  refine r_gR H rfl kd_0_3 (fun r3 H => ?_)
  refine r_ic (v := 0) rfl ci_0 ?_
  refine r_aln rfl rfl rfl ?_
  refine r_gR H rfl kd_0_3 (fun r4 H => ?_)
  refine r_ic (v := 0) rfl ci_0 ?_
  refine r_bi (v := 7) rfl cb_7 ?_
  refine r_cpy H rfl (Nat.le_of_ble_eq_true rfl) (Nat.le_of_ble_eq_true rfl) (fun h17 H => ?_)
  refine r_aln rfl rfl rfl ?_
  refine r_gR H rfl kd_0_4 (fun r5 H => ?_)
  refine r_ic (v := 0) rfl ci_0 ?_
  refine r_aln rfl rfl rfl ?_
  refine r_gR H rfl kd_0_4 (fun r6 H => ?_)
  refine r_ic (v := 0) rfl ci_0 ?_
  refine r_bi (v := 7) rfl cb_7 ?_
  refine r_cpy H rfl (Nat.le_of_ble_eq_true rfl) (Nat.le_of_ble_eq_true rfl) (fun h16 H => ?_)
  refine r_aln rfl rfl rfl ?_
  refine r_gR H rfl kd_0_5 (fun r7 H => ?_)
  refine r_ic (v := 0) rfl ci_0 ?_
  refine r_aln rfl rfl rfl ?_
  refine r_gR H rfl kd_0_5 (fun r8 H => ?_)
  refine r_ic (v := 0) rfl ci_0 ?_
  refine r_bi (v := 7) rfl cb_7 ?_
  refine r_cpy H rfl (Nat.le_of_ble_eq_true rfl) (Nat.le_of_ble_eq_true rfl) (fun h15 H => ?_)
  refine r_aln rfl rfl rfl ?_
  refine r_gR H rfl kd_0_6 (fun r9 H => ?_)
  refine r_ic (v := 0) rfl ci_0 ?_
  refine r_aln rfl rfl rfl ?_
  refine r_gR H rfl kd_0_6 (fun r10 H => ?_)
  refine r_ic (v := 0) rfl ci_0 ?_
  refine r_bi (v := 7) rfl cb_7 ?_
  refine r_cpy H rfl (Nat.le_of_ble_eq_true rfl) (Nat.le_of_ble_eq_true rfl) (fun h14 H => ?_)
  refine r_aln rfl rfl rfl ?_
  refine r_gR H rfl kd_0_7 (fun r11 H => ?_)
  refine r_ic (v := 0) rfl ci_0 ?_
  refine r_aln rfl rfl rfl ?_
  refine r_gR H rfl kd_0_7 (fun r12 H => ?_)
  refine r_ic (v := 0) rfl ci_0 ?_
  refine r_bi (v := 7) rfl cb_7 ?_
  refine r_cpy H rfl (Nat.le_of_ble_eq_true rfl) (Nat.le_of_ble_eq_true rfl) (fun h13 H => ?_)
  exact r_retv H rfl rfl ⟨Nat.zero_le _, Nat.zero_le _⟩
def f_X0_has (a0 : Nat) (a1 : Int32) : M Int32 := if a1 < (0 : Int32) then retZ (0 : Int32) else bnd (gI 0 0 a0) fun t1 => if t1 ≤ a1 then retZ (0 : Int32) else retZ (1 : Int32)
set_option maxRecDepth 20000 in
theorem s_X0_has (a0 : Nat) (a1 : Int32) : Sm eX0_has [.ref a0, .int a1] eI (f_X0_has a0 a1) := by
  intro hp vr hr H
  unfold f_X0_has at H
  show Rn none 0 0 eX0_has 0 [some (.ref a0), some (.int a1)] [] hp (eI vr, hr)
  refine r_iln rfl rfl rfl ?_
  refine r_if H rfl rfl (fun H => ?_) (fun H => ?_)
  · refine r_ic (v := 0) rfl ci_0 ?_
    exact r_retz H rfl rfl ⟨Nat.zero_le _, Nat.zero_le _⟩
  · refine r_iln rfl rfl rfl ?_
    refine r_aln rfl rfl rfl ?_
    refine r_gI' H rfl kl_0_0 (fun t1 H => ?_)
    refine r_cmp H rfl rfl (fun H => ?_) (fun H => ?_)
    · refine r_ic (v := 0) rfl ci_0 ?_
      exact r_retz H rfl rfl ⟨Nat.zero_le _, Nat.zero_le _⟩
    · refine r_ic (v := 1) rfl ci_1 ?_
      refine r_go rfl ?_
      exact r_retz H rfl rfl ⟨Nat.zero_le _, Nat.zero_le _⟩
def f_X0_everybody (a0 : Nat) : M Int32 := bnd (gI 0 0 a0) fun t1 => rt (((1 : Int32) <<< (t1 &&& (31 : Int32))) - (1 : Int32))
set_option maxRecDepth 20000 in
theorem s_X0_everybody (a0 : Nat) : Sm eX0_everybody [.ref a0] eI (f_X0_everybody a0) := by
  intro hp vr hr H
  unfold f_X0_everybody at H
  show Rn none 0 0 eX0_everybody 0 [some (.ref a0)] [] hp (eI vr, hr)
  refine r_ic (v := 1) rfl ci_1 ?_
  refine r_aln rfl rfl rfl ?_
  refine r_gI' H rfl kl_0_0 (fun t1 H => ?_)
  refine r_shl rfl ?_
  refine r_ic (v := 1) rfl ci_1 ?_
  refine r_sub rfl ?_
  exact r_reti H rfl rfl ⟨Nat.zero_le _, Nat.zero_le _⟩
def f_X0_others (a0 : Nat) (a1 : Int32) : M Int32 := bnd (cv 0 a0 (f_X0_everybody a0)) fun t1 => rt (t1 &&& (((1 : Int32) <<< (a1 &&& (31 : Int32))) ^^^ (-1 : Int32)))
set_option maxRecDepth 20000 in
theorem s_X0_others (a0 : Nat) (a1 : Int32) : Sm eX0_others [.ref a0, .int a1] eI (f_X0_others a0 a1) := by
  intro hp vr hr H
  unfold f_X0_others at H
  show Rn none 0 0 eX0_others 0 [some (.ref a0), some (.int a1)] [] hp (eI vr, hr)
  refine r_aln rfl rfl rfl ?_
  refine r_vtI (rest := []) H rfl rfl rfl (s_X0_everybody a0) rfl rfl ⟨rfl, rfl⟩ rfl (fun t1 h2 H => ?_)
  refine r_ic (v := 1) rfl ci_1 ?_
  refine r_iln rfl rfl rfl ?_
  refine r_shl rfl ?_
  refine r_ic (v := -1) rfl ci_m1 ?_
  refine r_xor rfl ?_
  refine r_and rfl ?_
  exact r_reti H rfl rfl ⟨Nat.zero_le _, Nat.zero_le _⟩
def f_X0_add (a0 : Nat) (a1 : Int32) (a2 : Int32) (a3 : Int32) : M Int32 := bnd (gI 0 0 a0) fun t1 => if t1 < (7 : Int32) then bnd (gR 0 3 a0) fun r2 => bnd (gI 0 0 a0) fun t3 => bnd (sI r2 t3 a1) fun _ => bnd (gR 0 4 a0) fun r4 => bnd (gI 0 0 a0) fun t5 => bnd (sI r4 t5 a2) fun _ => bnd (gR 0 5 a0) fun r6 => bnd (gI 0 0 a0) fun t7 => bnd (sI r6 t7 a3) fun _ => bnd (gR 0 6 a0) fun r8 => bnd (gI 0 0 a0) fun t9 => bnd (sI r8 t9 a3) fun _ => bnd (gR 0 7 a0) fun r10 => bnd (gI 0 0 a0) fun t11 => bnd (sI r10 t11 (0 : Int32)) fun _ => bnd (gI 0 0 a0) fun t12 => bnd (pI 0 0 a0 (t12 + (1 : Int32))) fun _ => bnd (gI 0 0 a0) fun t13 => rt (t13 - (1 : Int32)) else rt (-9 : Int32)
set_option maxRecDepth 20000 in
theorem s_X0_add (a0 : Nat) (a1 : Int32) (a2 : Int32) (a3 : Int32) : Sm eX0_add [.ref a0, .int a1, .int a2, .int a3] eI (f_X0_add a0 a1 a2 a3) := by
  intro hp vr hr H
  unfold f_X0_add at H
  show Rn none 0 0 eX0_add 0 [some (.ref a0), some (.int a1), some (.int a2), some (.int a3)] [] hp (eI vr, hr)
  refine r_aln rfl rfl rfl ?_
  refine r_gI' H rfl kl_0_0 (fun t1 H => ?_)
  refine r_bi (v := 7) rfl cb_7 ?_
  refine r_cmp H rfl rfl (fun H => ?_) (fun H => ?_)
  · refine r_aln rfl rfl rfl ?_
    refine r_gR H rfl kd_0_3 (fun r2 H => ?_)
    refine r_aln rfl rfl rfl ?_
    refine r_gI' H rfl kl_0_0 (fun t3 H => ?_)
    refine r_iln rfl rfl rfl ?_
    refine r_sI H rfl (fun H => ?_)
    refine r_aln rfl rfl rfl ?_
    refine r_gR H rfl kd_0_4 (fun r4 H => ?_)
    refine r_aln rfl rfl rfl ?_
    refine r_gI' H rfl kl_0_0 (fun t5 H => ?_)
    refine r_iln rfl rfl rfl ?_
    refine r_sI H rfl (fun H => ?_)
    refine r_aln rfl rfl rfl ?_
    refine r_gR H rfl kd_0_5 (fun r6 H => ?_)
    refine r_aln rfl rfl rfl ?_
    refine r_gI' H rfl kl_0_0 (fun t7 H => ?_)
    refine r_iln rfl rfl rfl ?_
    refine r_sI H rfl (fun H => ?_)
    refine r_aln rfl rfl rfl ?_
    refine r_gR H rfl kd_0_6 (fun r8 H => ?_)
    refine r_aln rfl rfl rfl ?_
    refine r_gI' H rfl kl_0_0 (fun t9 H => ?_)
    refine r_iln rfl rfl rfl ?_
    refine r_sI H rfl (fun H => ?_)
    refine r_aln rfl rfl rfl ?_
    refine r_gR H rfl kd_0_7 (fun r10 H => ?_)
    refine r_aln rfl rfl rfl ?_
    refine r_gI' H rfl kl_0_0 (fun t11 H => ?_)
    refine r_ic (v := 0) rfl ci_0 ?_
    refine r_sI H rfl (fun H => ?_)
    refine r_aln rfl rfl rfl ?_
    refine r_dupr rfl ?_
    refine r_gI' H rfl kl_0_0 (fun t12 H => ?_)
    refine r_ic (v := 1) rfl ci_1 ?_
    refine r_add rfl ?_
    refine r_pI H rfl kd_0_0 (fun H => ?_)
    refine r_aln rfl rfl rfl ?_
    refine r_gI' H rfl kl_0_0 (fun t13 H => ?_)
    refine r_ic (v := 1) rfl ci_1 ?_
    refine r_sub rfl ?_
    exact r_reti H rfl rfl ⟨Nat.zero_le _, Nat.zero_le _⟩
  · refine r_bi (v := -9) rfl cb_m9 ?_
    exact r_reti H rfl rfl ⟨Nat.zero_le _, Nat.zero_le _⟩
def f_X0_word (a0 : Nat) (a1 : Int32) (a2 : Int32) : M Int32 := bnd (gR 0 4 a0) fun r1 => bnd (aI r1 a1) fun t2 => jn (fun k4 => if (a2 + t2) ≤ (99 : Int32) then bnd (gR 0 4 a0) fun r21 => bnd (aI r21 a1) fun t22 => k4 (a2 + t22) else k4 (99 : Int32)) (fun (s3 : Int32) => bnd (gR 0 4 a0) fun r5 => bnd (aI r5 a1) fun t6 => bnd (gR 0 3 a0) fun r7 => bnd (aI r7 a1) fun t8 => if t8 = (1 : Int32) then rt s3 else if t8 = (2 : Int32) then if ((2 : Int32) * t6) ≤ a2 then rt (a2 - ((2 : Int32) * t6)) else rt (0 : Int32) else if t8 = (3 : Int32) then bnd (gR 0 6 a0) fun r12 => bnd (aI r12 a1) fun t13 => bnd (divM (s3 + t13) (2 : Int32)) fun t14 => rt t14 else if t8 = (4 : Int32) then bnd (gR 0 6 a0) fun r16 => bnd (aI r16 a1) fun t17 => if ((2 : Int32) * t6) ≤ t17 then bnd (gR 0 6 a0) fun r18 => bnd (aI r18 a1) fun t19 => rt (t19 - ((2 : Int32) * t6)) else rt (0 : Int32) else if t8 = (5 : Int32) then rt ((99 : Int32) - a2) else rt a2)
set_option maxRecDepth 20000 in
theorem s_X0_word (a0 : Nat) (a1 : Int32) (a2 : Int32) : Sm eX0_word [.ref a0, .int a1, .int a2] eI (f_X0_word a0 a1 a2) := by
  intro hp vr hr H
  unfold f_X0_word at H
  show Rn none 0 0 eX0_word 0 [some (.ref a0), some (.int a1), some (.int a2), none, none] [] hp (eI vr, hr)
  refine r_iln rfl rfl rfl ?_
  refine r_aln rfl rfl rfl ?_
  refine r_gR H rfl kd_0_4 (fun r1 H => ?_)
  refine r_iln rfl rfl rfl ?_
  refine r_aI' H rfl (fun t2 H => ?_)
  refine r_add rfl ?_
  refine r_bi (v := 99) rfl cb_99 ?_
  refine r_jn (P := (fun (s3 : Int32) hq => Rn none 0 0 eX0_word 16 [some (.ref a0), some (.int a1), some (.int a2), none, none] [.int s3] hq (eI vr, hr))) H (fun s3 hs3 H  => ?_) (fun k4 K4 H => ?_)
  · refine r_isn (L' := [some (.ref a0), some (.int a1), some (.int a2), some (.int s3), none]) rfl rfl (Nat.le_of_ble_eq_true rfl) rfl ?_
    refine r_ic (v := 2) rfl ci_2 ?_
    refine r_aln rfl rfl rfl ?_
    refine r_gR H rfl kd_0_4 (fun r5 H => ?_)
    refine r_iln rfl rfl rfl ?_
    refine r_aI' H rfl (fun t6 H => ?_)
    refine r_mul rfl ?_
    refine r_is (L' := [some (.ref a0), some (.int a1), some (.int a2), some (.int s3), some (.int ((2 : Int32) * t6))]) rfl (Nat.le_of_ble_eq_true rfl) rfl ?_
    refine r_aln rfl rfl rfl ?_
    refine r_gR H rfl kd_0_3 (fun r7 H => ?_)
    refine r_iln rfl rfl rfl ?_
    refine r_aI' H rfl (fun t8 H => ?_)
    rcases Decidable.em (t8 = (1 : Int32)) with h9 | h9
    · rw [if_pos h9] at H; refine r_tab (t := 29) rfl (by rw [h9]; rfl) ?_
      refine r_iln rfl rfl rfl ?_
      exact r_reti H rfl rfl ⟨Nat.zero_le _, Nat.zero_le _⟩
    · rw [if_neg h9] at H; rcases Decidable.em (t8 = (2 : Int32)) with h10 | h10
      · rw [if_pos h10] at H; refine r_tab (t := 31) rfl (by rw [h10]; rfl) ?_
        refine r_iln rfl rfl rfl ?_
        refine r_il rfl rfl ?_
        refine r_cmp H rfl rfl (fun H => ?_) (fun H => ?_)
        · refine r_iln rfl rfl rfl ?_
          refine r_il rfl rfl ?_
          refine r_sub rfl ?_
          exact r_reti H rfl rfl ⟨Nat.zero_le _, Nat.zero_le _⟩
        · refine r_ic (v := 0) rfl ci_0 ?_
          refine r_go rfl ?_
          exact r_reti H rfl rfl ⟨Nat.zero_le _, Nat.zero_le _⟩
      · rw [if_neg h10] at H; rcases Decidable.em (t8 = (3 : Int32)) with h11 | h11
        · rw [if_pos h11] at H; refine r_tab (t := 40) rfl (by rw [h11]; rfl) ?_
          refine r_iln rfl rfl rfl ?_
          refine r_aln rfl rfl rfl ?_
          refine r_gR H rfl kd_0_6 (fun r12 H => ?_)
          refine r_iln rfl rfl rfl ?_
          refine r_aI' H rfl (fun t13 H => ?_)
          refine r_add rfl ?_
          refine r_ic (v := 2) rfl ci_2 ?_
          refine r_div H rfl (fun H => ?_)
          exact r_reti H rfl rfl ⟨Nat.zero_le _, Nat.zero_le _⟩
        · rw [if_neg h11] at H; rcases Decidable.em (t8 = (4 : Int32)) with h15 | h15
          · rw [if_pos h15] at H; refine r_tab (t := 49) rfl (by rw [h15]; rfl) ?_
            refine r_aln rfl rfl rfl ?_
            refine r_gR H rfl kd_0_6 (fun r16 H => ?_)
            refine r_iln rfl rfl rfl ?_
            refine r_aI' H rfl (fun t17 H => ?_)
            refine r_il rfl rfl ?_
            refine r_cmp H rfl rfl (fun H => ?_) (fun H => ?_)
            · refine r_aln rfl rfl rfl ?_
              refine r_gR H rfl kd_0_6 (fun r18 H => ?_)
              refine r_iln rfl rfl rfl ?_
              refine r_aI' H rfl (fun t19 H => ?_)
              refine r_il rfl rfl ?_
              refine r_sub rfl ?_
              exact r_reti H rfl rfl ⟨Nat.zero_le _, Nat.zero_le _⟩
            · refine r_ic (v := 0) rfl ci_0 ?_
              refine r_go rfl ?_
              exact r_reti H rfl rfl ⟨Nat.zero_le _, Nat.zero_le _⟩
          · rw [if_neg h15] at H; rcases Decidable.em (t8 = (5 : Int32)) with h20 | h20
            · rw [if_pos h20] at H; refine r_tab (t := 64) rfl (by rw [h20]; rfl) ?_
              refine r_bi (v := 99) rfl cb_99 ?_
              refine r_iln rfl rfl rfl ?_
              refine r_sub rfl ?_
              exact r_reti H rfl rfl ⟨Nat.zero_le _, Nat.zero_le _⟩
            · rw [if_neg h20] at H; refine r_tab (t := 68) rfl (by have g0 := sw_ne h9 (v := 1) rfl; have g1 := sw_ne h10 (v := 2) rfl; have g2 := sw_ne h11 (v := 3) rfl; have g3 := sw_ne h15 (v := 4) rfl; have g4 := sw_ne h20 (v := 5) rfl; exact (sw_out (by omega)).trans rfl) ?_
              refine r_iln rfl rfl rfl ?_
              exact r_reti H rfl rfl ⟨Nat.zero_le _, Nat.zero_le _⟩
  · refine r_cmp H rfl rfl (fun H => ?_) (fun H => ?_)
    · refine r_iln rfl rfl rfl ?_
      refine r_aln rfl rfl rfl ?_
      refine r_gR H rfl kd_0_4 (fun r21 H => ?_)
      refine r_iln rfl rfl rfl ?_
      refine r_aI' H rfl (fun t22 H => ?_)
      refine r_add rfl ?_
      exact K4 _ _ H
    · refine r_bi (v := 99) rfl cb_99 ?_
      refine r_go rfl ?_
      exact K4 _ _ H
def f_X6_holds (a0 : Int32) (a1 : Int32) : M Int32 := if ((a0 >>> (a1 &&& (31 : Int32))) &&& (1 : Int32)) = (0 : Int32) then retZ (0 : Int32) else retZ (1 : Int32)
set_option maxRecDepth 20000 in
theorem s_X6_holds (a0 : Int32) (a1 : Int32) : Sm eX6_holds [.int a0, .int a1] eI (f_X6_holds a0 a1) := by
  intro hp vr hr H
  unfold f_X6_holds at H
  show Rn none 0 0 eX6_holds 0 [some (.int a0), some (.int a1)] [] hp (eI vr, hr)
  refine r_iln rfl rfl rfl ?_
  refine r_iln rfl rfl rfl ?_
  refine r_shr rfl ?_
  refine r_ic (v := 1) rfl ci_1 ?_
  refine r_and rfl ?_
  refine r_if H rfl rfl (fun H => ?_) (fun H => ?_)
  · refine r_ic (v := 0) rfl ci_0 ?_
    exact r_retz H rfl rfl ⟨Nat.zero_le _, Nat.zero_le _⟩
  · refine r_ic (v := 1) rfl ci_1 ?_
    refine r_go rfl ?_
    exact r_retz H rfl rfl ⟨Nat.zero_le _, Nat.zero_le _⟩
def f_X0_mean (a0 : Nat) (a1 : Int32) (a2 : Int32) : M Int32 := loopK NF (fun (s1 : Int32 × Int32 × Int32) k2 => bnd (gI 0 0 a0) fun t3 => if t3 ≤ s1.2.2 then if ¬ s1.2.1 = (0 : Int32) then bnd (divM s1.1 s1.2.1) fun t4 => rt t4 else rt (-9 : Int32) else bnd (f_X6_holds a1 s1.2.2) fun t5 => if t5 = (0 : Int32) then k2 (s1.1, s1.2.1, (s1.2.2 + (1 : Int32))) else bnd (cv 0 a0 (f_X0_word a0 s1.2.2 a2)) fun t7 => k2 ((s1.1 + t7), (s1.2.1 + (1 : Int32)), (s1.2.2 + (1 : Int32)))) ((0 : Int32), (0 : Int32), (0 : Int32))
set_option maxRecDepth 20000 in
theorem s_X0_mean (a0 : Nat) (a1 : Int32) (a2 : Int32) : Sm eX0_mean [.ref a0, .int a1, .int a2] eI (f_X0_mean a0 a1 a2) := by
  intro hp vr hr H
  unfold f_X0_mean at H
  show Rn none 0 0 eX0_mean 0 [some (.ref a0), some (.int a1), some (.int a2), none, none, none] [] hp (eI vr, hr)
  refine r_ic (v := 0) rfl ci_0 ?_
  refine r_isn (L' := [some (.ref a0), some (.int a1), some (.int a2), some (.int (0 : Int32)), none, none]) rfl rfl (Nat.le_of_ble_eq_true rfl) rfl ?_
  refine r_ic (v := 0) rfl ci_0 ?_
  refine r_is (L' := [some (.ref a0), some (.int a1), some (.int a2), some (.int (0 : Int32)), some (.int (0 : Int32)), none]) rfl (Nat.le_of_ble_eq_true rfl) rfl ?_
  refine r_ic (v := 0) rfl ci_0 ?_
  refine r_is (L' := [some (.ref a0), some (.int a1), some (.int a2), some (.int (0 : Int32)), some (.int (0 : Int32)), some (.int (0 : Int32))]) rfl (Nat.le_of_ble_eq_true rfl) rfl ?_
  refine (r_loop (P := (fun (s1 : Int32 × Int32 × Int32) hq => Rn none 0 0 eX0_mean 6 [some (.ref a0), some (.int a1), some (.int a2), some (.int s1.1), some (.int s1.2.1), some (.int s1.2.2)] [] hq (eI vr, hr))) ?_ NF _ _ H)
  intro k2 K2 s1 hs1 H 
  refine r_il rfl rfl ?_
  refine r_aln rfl rfl rfl ?_
  refine r_gI' H rfl kl_0_0 (fun t3 H => ?_)
  refine r_cmp H rfl rfl (fun H => ?_) (fun H => ?_)
  · refine r_il rfl rfl ?_
    refine r_if H rfl rfl (fun H => ?_) (fun H => ?_)
    · refine r_iln rfl rfl rfl ?_
      refine r_il rfl rfl ?_
      refine r_div H rfl (fun H => ?_)
      exact r_reti H rfl rfl ⟨Nat.zero_le _, Nat.zero_le _⟩
    · refine r_bi (v := -9) rfl cb_m9 ?_
      refine r_go rfl ?_
      exact r_reti H rfl rfl ⟨Nat.zero_le _, Nat.zero_le _⟩
  · refine r_iln rfl rfl rfl ?_
    refine r_il rfl rfl ?_
    refine r_stI (rest := []) H rfl rfl (s_X6_holds a1 s1.2.2) rfl rfl ⟨rfl, rfl⟩ rfl (fun t5 h6 H => ?_)
    refine r_if H rfl rfl (fun H => ?_) (fun H => ?_)
    · refine r_inc (v := 1) (L' := [some (.ref a0), some (.int a1), some (.int a2), some (.int s1.1), some (.int s1.2.1), some (.int (s1.2.2 + (1 : Int32)))]) rfl rfl ci_1 rfl ?_
      refine r_go rfl ?_
      exact K2 _ _ H
    · refine r_iln rfl rfl rfl ?_
      refine r_aln rfl rfl rfl ?_
      refine r_il rfl rfl ?_
      refine r_iln rfl rfl rfl ?_
      refine r_vtI (rest := [.int s1.1]) H rfl rfl rfl (s_X0_word a0 s1.2.2 a2) rfl rfl ⟨rfl, rfl⟩ rfl (fun t7 h8 H => ?_)
      refine r_add rfl ?_
      refine r_isn (L' := [some (.ref a0), some (.int a1), some (.int a2), some (.int (s1.1 + t7)), some (.int s1.2.1), some (.int s1.2.2)]) rfl rfl (Nat.le_of_ble_eq_true rfl) rfl ?_
      refine r_inc (v := 1) (L' := [some (.ref a0), some (.int a1), some (.int a2), some (.int (s1.1 + t7)), some (.int (s1.2.1 + (1 : Int32))), some (.int s1.2.2)]) rfl rfl ci_1 rfl ?_
      refine r_inc (v := 1) (L' := [some (.ref a0), some (.int a1), some (.int a2), some (.int (s1.1 + t7)), some (.int (s1.2.1 + (1 : Int32))), some (.int (s1.2.2 + (1 : Int32)))]) rfl rfl ci_1 rfl ?_
      refine r_go rfl ?_
      exact K2 _ _ H
def f_J9_abs_0f7a4 (a0 : Int32) : M Int32 := if (0 : Int32) ≤ a0 then rt a0 else rt (-a0)
set_option maxRecDepth 20000 in
theorem s_J9_abs_0f7a4 (a0 : Int32) : Sm eJ9_abs_0f7a4 [.int a0] eI (f_J9_abs_0f7a4 a0) := by
  intro hp vr hr H
  unfold f_J9_abs_0f7a4 at H
  show Rn none 0 0 eJ9_abs_0f7a4 0 [some (.int a0)] [] hp (eI vr, hr)
  refine r_iln rfl rfl rfl ?_
  refine r_if H rfl rfl (fun H => ?_) (fun H => ?_)
  · refine r_iln rfl rfl rfl ?_
    exact r_reti H rfl rfl ⟨Nat.zero_le _, Nat.zero_le _⟩
  · refine r_iln rfl rfl rfl ?_
    refine r_neg rfl ?_
    refine r_go rfl ?_
    exact r_reti H rfl rfl ⟨Nat.zero_le _, Nat.zero_le _⟩
def f_J9_max_7cf53 (a0 : Int32) (a1 : Int32) : M Int32 := if a0 < a1 then rt a1 else rt a0
set_option maxRecDepth 20000 in
theorem s_J9_max_7cf53 (a0 : Int32) (a1 : Int32) : Sm eJ9_max_7cf53 [.int a0, .int a1] eI (f_J9_max_7cf53 a0 a1) := by
  intro hp vr hr H
  unfold f_J9_max_7cf53 at H
  show Rn none 0 0 eJ9_max_7cf53 0 [some (.int a0), some (.int a1)] [] hp (eI vr, hr)
  refine r_iln rfl rfl rfl ?_
  refine r_iln rfl rfl rfl ?_
  refine r_cmp H rfl rfl (fun H => ?_) (fun H => ?_)
  · refine r_iln rfl rfl rfl ?_
    exact r_reti H rfl rfl ⟨Nat.zero_le _, Nat.zero_le _⟩
  · refine r_iln rfl rfl rfl ?_
    refine r_go rfl ?_
    exact r_reti H rfl rfl ⟨Nat.zero_le _, Nat.zero_le _⟩
def f_X0_passWeek (a0 : Nat) : M Int32 := loopK NF (fun (s1 : Int32) k2 => bnd (gI 0 0 a0) fun t3 => if t3 ≤ s1 then bnd (pI 0 2 a0 (0 : Int32)) fun _ => loopK NF (fun (s4 : Int32 × Int32) k5 => bnd (gI 0 0 a0) fun t7 => if t7 ≤ s4.2 then bnd (gI 0 1 a0) fun t8 => bnd (pI 0 1 a0 (t8 + (1 : Int32))) fun _ => rt s4.1 else bnd (gR 0 8 a0) fun r9 => bnd (aI r9 s4.2) fun t10 => bnd (gR 0 6 a0) fun r11 => bnd (aI r11 s4.2) fun t12 => bnd (f_J9_abs_0f7a4 (t10 - t12)) fun t13 => bnd (gI 0 2 a0) fun t15 => bnd (f_J9_max_7cf53 t15 t13) fun t16 => bnd (pI 0 2 a0 t16) fun _ => jn (fun k19 => if ¬ t13 = (0 : Int32) then k19 (1 : Int32) else k19 (0 : Int32)) (fun (s18 : Int32) => bnd (gR 0 6 a0) fun r20 => bnd (gR 0 8 a0) fun r21 => bnd (aI r21 s4.2) fun t22 => bnd (sI r20 s4.2 t22) fun _ => k5 ((s4.1 + s18), (s4.2 + (1 : Int32))))) ((0 : Int32), (0 : Int32)) else bnd (gR 0 8 a0) fun r23 => bnd (gR 0 7 a0) fun r24 => bnd (aI r24 s1) fun t25 => if ¬ t25 = (0 : Int32) then bnd (gR 0 7 a0) fun r26 => bnd (aI r26 s1) fun t27 => bnd (gR 0 5 a0) fun r28 => bnd (aI r28 s1) fun t29 => bnd (cv 0 a0 (f_X0_mean a0 t27 t29)) fun t30 => bnd (sI r23 s1 t30) fun _ => k2 (s1 + (1 : Int32)) else bnd (gR 0 6 a0) fun r32 => bnd (aI r32 s1) fun t33 => bnd (sI r23 s1 t33) fun _ => k2 (s1 + (1 : Int32))) (0 : Int32)
set_option maxRecDepth 20000 in
theorem s_X0_passWeek (a0 : Nat) : Sm eX0_passWeek [.ref a0] eI (f_X0_passWeek a0) := by
  intro hp vr hr H
  unfold f_X0_passWeek at H
  show Rn none 0 0 eX0_passWeek 0 [some (.ref a0), none, none, none] [] hp (eI vr, hr)
  refine r_ic (v := 0) rfl ci_0 ?_
  refine r_isn (L' := [some (.ref a0), some (.int (0 : Int32)), none, none]) rfl rfl (Nat.le_of_ble_eq_true rfl) rfl ?_
  refine (r_loop (P := (fun (s1 : Int32) hq => Rn none 0 0 eX0_passWeek 2 [some (.ref a0), some (.int s1), none, none] [] hq (eI vr, hr))) ?_ NF _ _ H)
  intro k2 K2 s1 hs1 H 
  refine r_iln rfl rfl rfl ?_
  refine r_aln rfl rfl rfl ?_
  refine r_gI' H rfl kl_0_0 (fun t3 H => ?_)
  refine r_cmp H rfl rfl (fun H => ?_) (fun H => ?_)
  · refine r_ic (v := 0) rfl ci_0 ?_
    refine r_isn (L' := [some (.ref a0), some (.int (0 : Int32)), none, none]) rfl rfl (Nat.le_of_ble_eq_true rfl) rfl ?_
    refine r_aln rfl rfl rfl ?_
    refine r_ic (v := 0) rfl ci_0 ?_
    refine r_pI H rfl kd_0_2 (fun H => ?_)
    refine r_ic (v := 0) rfl ci_0 ?_
    refine r_isn (L' := [some (.ref a0), some (.int (0 : Int32)), some (.int (0 : Int32)), none]) rfl rfl (Nat.le_of_ble_eq_true rfl) rfl ?_
    refine (r_loop (P := (fun (s4 : Int32 × Int32) hq => ∀ x6 : Option Value, Rn none 0 0 eX0_passWeek 39 [some (.ref a0), some (.int s4.1), some (.int s4.2), x6] [] hq (eI vr, hr))) ?_ NF _ _ H) _
    intro k5 K5 s4 hs4 H x6
    refine r_iln rfl rfl rfl ?_
    refine r_aln rfl rfl rfl ?_
    refine r_gI' H rfl kl_0_0 (fun t7 H => ?_)
    refine r_cmp H rfl rfl (fun H => ?_) (fun H => ?_)
    · refine r_aln rfl rfl rfl ?_
      refine r_dupr rfl ?_
      refine r_gI' H rfl kl_0_1 (fun t8 H => ?_)
      refine r_ic (v := 1) rfl ci_1 ?_
      refine r_add rfl ?_
      refine r_pI H rfl kd_0_1 (fun H => ?_)
      refine r_iln rfl rfl rfl ?_
      exact r_reti H rfl rfl ⟨Nat.zero_le _, Nat.zero_le _⟩
    · refine r_aln rfl rfl rfl ?_
      refine r_gR H rfl kd_0_8 (fun r9 H => ?_)
      refine r_iln rfl rfl rfl ?_
      refine r_aI' H rfl (fun t10 H => ?_)
      refine r_aln rfl rfl rfl ?_
      refine r_gR H rfl kd_0_6 (fun r11 H => ?_)
      refine r_iln rfl rfl rfl ?_
      refine r_aI' H rfl (fun t12 H => ?_)
      refine r_sub rfl ?_
      refine r_stI (rest := []) H rfl rfl (s_J9_abs_0f7a4 (t10 - t12)) rfl rfl ⟨rfl, rfl⟩ rfl (fun t13 h14 H => ?_)
      refine r_isn (L' := [some (.ref a0), some (.int s4.1), some (.int s4.2), some (.int t13)]) rfl rfl (Nat.le_of_ble_eq_true rfl) rfl ?_
      refine r_aln rfl rfl rfl ?_
      refine r_aln rfl rfl rfl ?_
      refine r_gI' H rfl kl_0_2 (fun t15 H => ?_)
      refine r_iln rfl rfl rfl ?_
      refine r_stI (rest := [.ref a0]) H rfl rfl (s_J9_max_7cf53 t15 t13) rfl rfl ⟨rfl, rfl⟩ rfl (fun t16 h17 H => ?_)
      refine r_pI H rfl kd_0_2 (fun H => ?_)
      refine r_iln rfl rfl rfl ?_
      refine r_iln rfl rfl rfl ?_
      refine r_jn (P := (fun (s18 : Int32) hq => Rn none 0 0 eX0_passWeek 66 [some (.ref a0), some (.int s4.1), some (.int s4.2), some (.int t13)] [.int s18, .int s4.1] hq (eI vr, hr))) H (fun s18 hs18 H  => ?_) (fun k19 K19 H => ?_)
      · refine r_add rfl ?_
        refine r_isn (L' := [some (.ref a0), some (.int (s4.1 + s18)), some (.int s4.2), some (.int t13)]) rfl rfl (Nat.le_of_ble_eq_true rfl) rfl ?_
        refine r_aln rfl rfl rfl ?_
        refine r_gR H rfl kd_0_6 (fun r20 H => ?_)
        refine r_iln rfl rfl rfl ?_
        refine r_aln rfl rfl rfl ?_
        refine r_gR H rfl kd_0_8 (fun r21 H => ?_)
        refine r_iln rfl rfl rfl ?_
        refine r_aI' H rfl (fun t22 H => ?_)
        refine r_sI H rfl (fun H => ?_)
        refine r_inc (v := 1) (L' := [some (.ref a0), some (.int (s4.1 + s18)), some (.int (s4.2 + (1 : Int32))), some (.int t13)]) rfl rfl ci_1 rfl ?_
        refine r_go rfl ?_
        exact K5 _ _ H _
      · refine r_if H rfl rfl (fun H => ?_) (fun H => ?_)
        · refine r_ic (v := 1) rfl ci_1 ?_
          exact K19 _ _ H
        · refine r_ic (v := 0) rfl ci_0 ?_
          refine r_go rfl ?_
          exact K19 _ _ H
  · refine r_aln rfl rfl rfl ?_
    refine r_gR H rfl kd_0_8 (fun r23 H => ?_)
    refine r_iln rfl rfl rfl ?_
    refine r_aln rfl rfl rfl ?_
    refine r_gR H rfl kd_0_7 (fun r24 H => ?_)
    refine r_iln rfl rfl rfl ?_
    refine r_aI' H rfl (fun t25 H => ?_)
    refine r_if H rfl rfl (fun H => ?_) (fun H => ?_)
    · refine r_aln rfl rfl rfl ?_
      refine r_aln rfl rfl rfl ?_
      refine r_gR H rfl kd_0_7 (fun r26 H => ?_)
      refine r_iln rfl rfl rfl ?_
      refine r_aI' H rfl (fun t27 H => ?_)
      refine r_aln rfl rfl rfl ?_
      refine r_gR H rfl kd_0_5 (fun r28 H => ?_)
      refine r_iln rfl rfl rfl ?_
      refine r_aI' H rfl (fun t29 H => ?_)
      refine r_vtI (rest := [.int s1, .ref r23]) H rfl rfl rfl (s_X0_mean a0 t27 t29) rfl rfl ⟨rfl, rfl⟩ rfl (fun t30 h31 H => ?_)
      refine r_sI H rfl (fun H => ?_)
      refine r_inc (v := 1) (L' := [some (.ref a0), some (.int (s1 + (1 : Int32))), none, none]) rfl rfl ci_1 rfl ?_
      refine r_go rfl ?_
      exact K2 _ _ H
    · refine r_aln rfl rfl rfl ?_
      refine r_gR H rfl kd_0_6 (fun r32 H => ?_)
      refine r_iln rfl rfl rfl ?_
      refine r_aI' H rfl (fun t33 H => ?_)
      refine r_go rfl ?_
      refine r_sI H rfl (fun H => ?_)
      refine r_inc (v := 1) (L' := [some (.ref a0), some (.int (s1 + (1 : Int32))), none, none]) rfl rfl ci_1 rfl ?_
      refine r_go rfl ?_
      exact K2 _ _ H
def f_X0_passWeeks (a0 : Nat) (a1 : Int32) : M Unit := loopK NF (fun (s1 : Int32) k2 => if a1 ≤ s1 then rt () else bnd (cv 0 a0 (f_X0_passWeek a0)) fun t3 => k2 (s1 + (1 : Int32))) (0 : Int32)
set_option maxRecDepth 20000 in
theorem s_X0_passWeeks (a0 : Nat) (a1 : Int32) : Sm eX0_passWeeks [.ref a0, .int a1] eU (f_X0_passWeeks a0 a1) := by
  intro hp vr hr H
  unfold f_X0_passWeeks at H
  show Rn none 0 0 eX0_passWeeks 0 [some (.ref a0), some (.int a1), none] [] hp (eU vr, hr)
  refine r_ic (v := 0) rfl ci_0 ?_
  refine r_isn (L' := [some (.ref a0), some (.int a1), some (.int (0 : Int32))]) rfl rfl (Nat.le_of_ble_eq_true rfl) rfl ?_
  refine (r_loop (P := (fun (s1 : Int32) hq => Rn none 0 0 eX0_passWeeks 2 [some (.ref a0), some (.int a1), some (.int s1)] [] hq (eU vr, hr))) ?_ NF _ _ H)
  intro k2 K2 s1 hs1 H 
  refine r_iln rfl rfl rfl ?_
  refine r_iln rfl rfl rfl ?_
  refine r_cmp H rfl rfl (fun H => ?_) (fun H => ?_)
  · exact r_retv H rfl rfl ⟨Nat.zero_le _, Nat.zero_le _⟩
  · refine r_aln rfl rfl rfl ?_
    refine r_vtI (rest := []) H rfl rfl rfl (s_X0_passWeek a0) rfl rfl ⟨rfl, rfl⟩ rfl (fun t3 h4 H => ?_)
    refine r_popi rfl ?_
    refine r_inc (v := 1) (L' := [some (.ref a0), some (.int a1), some (.int (s1 + (1 : Int32)))]) rfl rfl ci_1 rfl ?_
    refine r_go rfl ?_
    exact K2 _ _ H
