def f_X0_copyFrom (a0 : Nat) (a1 : Nat) : M Unit := bnd (gI 0 0 a1) fun t1 => bnd (pI 0 0 a0 t1) fun _ => bnd (gI 0 1 a1) fun t2 => bnd (pI 0 1 a0 t2) fun _ => bnd (gR 0 3 a1) fun r3 => bnd (gR 0 3 a0) fun r4 => bnd (cpy r3 (0 : Int32) r4 (0 : Int32) (7 : Int32)) fun _ => bnd (gR 0 4 a1) fun r5 => bnd (gR 0 4 a0) fun r6 => bnd (cpy r5 (0 : Int32) r6 (0 : Int32) (7 : Int32)) fun _ => bnd (gR 0 5 a1) fun r7 => bnd (gR 0 5 a0) fun r8 => bnd (cpy r7 (0 : Int32) r8 (0 : Int32) (7 : Int32)) fun _ => bnd (gR 0 6 a1) fun r9 => bnd (gR 0 6 a0) fun r10 => bnd (cpy r9 (0 : Int32) r10 (0 : Int32) (7 : Int32)) fun _ => bnd (gR 0 7 a1) fun r11 => bnd (gR 0 7 a0) fun r12 => bnd (cpy r11 (0 : Int32) r12 (0 : Int32) (7 : Int32)) fun _ => rt ()
set_option maxRecDepth 20000 in
theorem s_X0_copyFrom (a0 : Nat) (a1 : Nat) : Sm eX0_copyFrom [.ref a0, .ref a1] eU (f_X0_copyFrom a0 a1) := by
  intro hp vr hr H
  unfold f_X0_copyFrom at H
  show Rn none 0 0 eX0_copyFrom 0 [some (.ref a0), some (.ref a1)] [] hp (eU vr, hr)
  refine r_aln rfl rfl rfl ?_
  refine r_aln rfl rfl rfl ?_
  refine r_gI' H rfl kl_0_0 (fun t1 H => ?_)
  refine r_pI H rfl kd_0_0 (fun H => ?_)
  refine r_aln rfl rfl rfl ?_
  refine r_aln rfl rfl rfl ?_
  refine r_gI' H rfl kl_0_1 (fun t2 H => ?_)
  refine r_pI H rfl kd_0_1 (fun H => ?_)
  refine r_aln rfl rfl rfl ?_
  refine r_gR H rfl kd_0_3 (fun r3 H => ?_)
  refine r_ic (v := 0) rfl ci_0 ?_
  refine r_aln rfl rfl rfl ?_
  refine r_gR H rfl kd_0_3 (fun r4 H => ?_)
  refine r_ic (v := 0) rfl ci_0 ?_
  refine r_bi (v := 7) rfl cb_7 ?_
  refine r_cpy H rfl (Nat.le_of_ble_eq_true rfl) (Nat.le_of_ble_eq_true rfl) (fun h17 H => ?_)
  refine r_aln rfl rfl rfl ?_
  refine r_gR H rfl kd_0_4 (fun r5 H => ?_)
  refine r_ic (v := 0) rfl ci_0 ?_
  refine r_aln rfl rfl rfl ?_
  refine r_gR H rfl kd_0_4 (fun r6 H => ?_)
  refine r_ic (v := 0) rfl ci_0 ?_
  refine r_bi (v := 7) rfl cb_7 ?_
  refine r_cpy H rfl (Nat.le_of_ble_eq_true rfl) (Nat.le_of_ble_eq_true rfl) (fun h16 H => ?_)
  refine r_aln rfl rfl rfl ?_
  refine r_gR H rfl kd_0_5 (fun r7 H => ?_)
  refine r_ic (v := 0) rfl ci_0 ?_
  refine r_aln rfl rfl rfl ?_
  refine r_gR H rfl kd_0_5 (fun r8 H => ?_)
  refine r_ic (v := 0) rfl ci_0 ?_
  refine r_bi (v := 7) rfl cb_7 ?_
  refine r_cpy H rfl (Nat.le_of_ble_eq_true rfl) (Nat.le_of_ble_eq_true rfl) (fun h15 H => ?_)
  refine r_aln rfl rfl rfl ?_
  refine r_gR H rfl kd_0_6 (fun r9 H => ?_)
  refine r_ic (v := 0) rfl ci_0 ?_
  refine r_aln rfl rfl rfl ?_
  refine r_gR H rfl kd_0_6 (fun r10 H => ?_)
  refine r_ic (v := 0) rfl ci_0 ?_
  refine r_bi (v := 7) rfl cb_7 ?_
  refine r_cpy H rfl (Nat.le_of_ble_eq_true rfl) (Nat.le_of_ble_eq_true rfl) (fun h14 H => ?_)
  refine r_aln rfl rfl rfl ?_
  refine r_gR H rfl kd_0_7 (fun r11 H => ?_)
  refine r_ic (v := 0) rfl ci_0 ?_
  refine r_aln rfl rfl rfl ?_
  refine r_gR H rfl kd_0_7 (fun r12 H => ?_)
  refine r_ic (v := 0) rfl ci_0 ?_
  refine r_bi (v := 7) rfl cb_7 ?_
  refine r_cpy H rfl (Nat.le_of_ble_eq_true rfl) (Nat.le_of_ble_eq_true rfl) (fun h13 H => ?_)
  exact r_retv H rfl rfl ⟨Nat.zero_le _, Nat.zero_le _⟩
def f_X0_has (a0 : Nat) (a1 : Int32) : M Int32 := if a1 < (0 : Int32) then retZ (0 : Int32) else bnd (gI 0 0 a0) fun t1 => if t1 ≤ a1 then retZ (0 : Int32) else retZ (1 : Int32)
set_option maxRecDepth 20000 in
theorem s_X0_has (a0 : Nat) (a1 : Int32) : Sm eX0_has [.ref a0, .int a1] eI (f_X0_has a0 a1) := by
  intro hp vr hr H
  unfold f_X0_has at H
  show Rn none 0 0 eX0_has 0 [some (.ref a0), some (.int a1)] [] hp (eI vr, hr)
  refine r_iln rfl rfl rfl ?_
  refine r_if H rfl rfl (fun H => ?_) (fun H => ?_)
  · refine r_ic (v := 0) rfl ci_0 ?_
    exact r_retz H rfl rfl ⟨Nat.zero_le _, Nat.zero_le _⟩
  · refine r_iln rfl rfl rfl ?_
    refine r_aln rfl rfl rfl ?_
    refine r_gI' H rfl kl_0_0 (fun t1 H => ?_)
    refine r_cmp H rfl rfl (fun H => ?_) (fun H => ?_)
    · refine r_ic (v := 0) rfl ci_0 ?_
      exact r_retz H rfl rfl ⟨Nat.zero_le _, Nat.zero_le _⟩
    · refine r_ic (v := 1) rfl ci_1 ?_
      refine r_go rfl ?_
      exact r_retz H rfl rfl ⟨Nat.zero_le _, Nat.zero_le _⟩
def f_X0_everybody (a0 : Nat) : M Int32 := bnd (gI 0 0 a0) fun t1 => rt (((1 : Int32) <<< (t1 &&& (31 : Int32))) - (1 : Int32))
set_option maxRecDepth 20000 in
theorem s_X0_everybody (a0 : Nat) : Sm eX0_everybody [.ref a0] eI (f_X0_everybody a0) := by
  intro hp vr hr H
  unfold f_X0_everybody at H
  show Rn none 0 0 eX0_everybody 0 [some (.ref a0)] [] hp (eI vr, hr)
  refine r_ic (v := 1) rfl ci_1 ?_
  refine r_aln rfl rfl rfl ?_
  refine r_gI' H rfl kl_0_0 (fun t1 H => ?_)
  refine r_shl rfl ?_
  refine r_ic (v := 1) rfl ci_1 ?_
  refine r_sub rfl ?_
  exact r_reti H rfl rfl ⟨Nat.zero_le _, Nat.zero_le _⟩
def f_X0_others (a0 : Nat) (a1 : Int32) : M Int32 := bnd (cv 0 a0 (f_X0_everybody a0)) fun t1 => rt (t1 &&& (((1 : Int32) <<< (a1 &&& (31 : Int32))) ^^^ (-1 : Int32)))
set_option maxRecDepth 20000 in
theorem s_X0_others (a0 : Nat) (a1 : Int32) : Sm eX0_others [.ref a0, .int a1] eI (f_X0_others a0 a1) := by
  intro hp vr hr H
  unfold f_X0_others at H
  show Rn none 0 0 eX0_others 0 [some (.ref a0), some (.int a1)] [] hp (eI vr, hr)
  refine r_aln rfl rfl rfl ?_
  refine r_vtI (rest := []) H rfl rfl rfl (s_X0_everybody a0) rfl rfl ⟨rfl, rfl⟩ rfl (fun t1 h2 H => ?_)
  refine r_ic (v := 1) rfl ci_1 ?_
  refine r_iln rfl rfl rfl ?_
  refine r_shl rfl ?_
  refine r_ic (v := -1) rfl ci_m1 ?_
  refine r_xor rfl ?_
  refine r_and rfl ?_
  exact r_reti H rfl rfl ⟨Nat.zero_le _, Nat.zero_le _⟩
def f_X0_add (a0 : Nat) (a1 : Int32) (a2 : Int32) (a3 : Int32) : M Int32 := bnd (gI 0 0 a0) fun t1 => if t1 < (7 : Int32) then bnd (gR 0 3 a0) fun r2 => bnd (gI 0 0 a0) fun t3 => bnd (sI r2 t3 a1) fun _ => bnd (gR 0 4 a0) fun r4 => bnd (gI 0 0 a0) fun t5 => bnd (sI r4 t5 a2) fun _ => bnd (gR 0 5 a0) fun r6 => bnd (gI 0 0 a0) fun t7 => bnd (sI r6 t7 a3) fun _ => bnd (gR 0 6 a0) fun r8 => bnd (gI 0 0 a0) fun t9 => bnd (sI r8 t9 a3) fun _ => bnd (gR 0 7 a0) fun r10 => bnd (gI 0 0 a0) fun t11 => bnd (sI r10 t11 (0 : Int32)) fun _ => bnd (gI 0 0 a0) fun t12 => bnd (pI 0 0 a0 (t12 + (1 : Int32))) fun _ => bnd (gI 0 0 a0) fun t13 => rt (t13 - (1 : Int32)) else rt (-9 : Int32)
set_option maxRecDepth 20000 in
theorem s_X0_add (a0 : Nat) (a1 : Int32) (a2 : Int32) (a3 : Int32) : Sm eX0_add [.ref a0, .int a1, .int a2, .int a3] eI (f_X0_add a0 a1 a2 a3) := by
  intro hp vr hr H
  unfold f_X0_add at H
  show Rn none 0 0 eX0_add 0 [some (.ref a0), some (.int a1), some (.int a2), some (.int a3)] [] hp (eI vr, hr)
  refine r_aln rfl rfl rfl ?_
  refine r_gI' H rfl kl_0_0 (fun t1 H => ?_)
  refine r_bi (v := 7) rfl cb_7 ?_
  refine r_cmp H rfl rfl (fun H => ?_) (fun H => ?_)
  · refine r_aln rfl rfl rfl ?_
    refine r_gR H rfl kd_0_3 (fun r2 H => ?_)
    refine r_aln rfl rfl rfl ?_
    refine r_gI' H rfl kl_0_0 (fun t3 H => ?_)
    refine r_iln rfl rfl rfl ?_
    refine r_sI H rfl (fun H => ?_)
    refine r_aln rfl rfl rfl ?_
    refine r_gR H rfl kd_0_4 (fun r4 H => ?_)
    refine r_aln rfl rfl rfl ?_
    refine r_gI' H rfl kl_0_0 (fun t5 H => ?_)
    refine r_iln rfl rfl rfl ?_
    refine r_sI H rfl (fun H => ?_)
    refine r_aln rfl rfl rfl ?_
    refine r_gR H rfl kd_0_5 (fun r6 H => ?_)
    refine r_aln rfl rfl rfl ?_
    refine r_gI' H rfl kl_0_0 (fun t7 H => ?_)
    refine r_iln rfl rfl rfl ?_
    refine r_sI H rfl (fun H => ?_)
    refine r_aln rfl rfl rfl ?_
    refine r_gR H rfl kd_0_6 (fun r8 H => ?_)
    refine r_aln rfl rfl rfl ?_
    refine r_gI' H rfl kl_0_0 (fun t9 H => ?_)
    refine r_iln rfl rfl rfl ?_
    refine r_sI H rfl (fun H => ?_)
    refine r_aln rfl rfl rfl ?_
    refine r_gR H rfl kd_0_7 (fun r10 H => ?_)
    refine r_aln rfl rfl rfl ?_
    refine r_gI' H rfl kl_0_0 (fun t11 H => ?_)
    refine r_ic (v := 0) rfl ci_0 ?_
    refine r_sI H rfl (fun H => ?_)
    refine r_aln rfl rfl rfl ?_
    refine r_dupr rfl ?_
    refine r_gI' H rfl kl_0_0 (fun t12 H => ?_)
    refine r_ic (v := 1) rfl ci_1 ?_
    refine r_add rfl ?_
    refine r_pI H rfl kd_0_0 (fun H => ?_)
    refine r_aln rfl rfl rfl ?_
    refine r_gI' H rfl kl_0_0 (fun t13 H => ?_)
    refine r_ic (v := 1) rfl ci_1 ?_
    refine r_sub rfl ?_
    exact r_reti H rfl rfl ⟨Nat.zero_le _, Nat.zero_le _⟩
  · refine r_bi (v := -9) rfl cb_m9 ?_
    exact r_reti H rfl rfl ⟨Nat.zero_le _, Nat.zero_le _⟩
def f_X0_word (a0 : Nat) (a1 : Int32) (a2 : Int32) : M Int32 := bnd (gR 0 4 a0) fun r1 => bnd (aI r1 a1) fun t2 => jn (fun k4 => if (a2 + t2) ≤ (99 : Int32) then bnd (gR 0 4 a0) fun r21 => bnd (aI r21 a1) fun t22 => k4 (a2 + t22) else k4 (99 : Int32)) (fun (s3 : Int32) => bnd (gR 0 4 a0) fun r5 => bnd (aI r5 a1) fun t6 => bnd (gR 0 3 a0) fun r7 => bnd (aI r7 a1) fun t8 => if t8 = (1 : Int32) then rt s3 else if t8 = (2 : Int32) then if ((2 : Int32) * t6) ≤ a2 then rt (a2 - ((2 : Int32) * t6)) else rt (0 : Int32) else if t8 = (3 : Int32) then bnd (gR 0 6 a0) fun r12 => bnd (aI r12 a1) fun t13 => bnd (divM (s3 + t13) (2 : Int32)) fun t14 => rt t14 else if t8 = (4 : Int32) then bnd (gR 0 6 a0) fun r16 => bnd (aI r16 a1) fun t17 => if ((2 : Int32) * t6) ≤ t17 then bnd (gR 0 6 a0) fun r18 => bnd (aI r18 a1) fun t19 => rt (t19 - ((2 : Int32) * t6)) else rt (0 : Int32) else if t8 = (5 : Int32) then rt ((99 : Int32) - a2) else rt a2)
set_option maxRecDepth 20000 in
theorem s_X0_word (a0 : Nat) (a1 : Int32) (a2 : Int32) : Sm eX0_word [.ref a0, .int a1, .int a2] eI (f_X0_word a0 a1 a2) := by
  intro hp vr hr H
  unfold f_X0_word at H
  show Rn none 0 0 eX0_word 0 [some (.ref a0), some (.int a1), some (.int a2), none, none] [] hp (eI vr, hr)
  refine r_iln rfl rfl rfl ?_
  refine r_aln rfl rfl rfl ?_
  refine r_gR H rfl kd_0_4 (fun r1 H => ?_)
  refine r_iln rfl rfl rfl ?_
  refine r_aI' H rfl (fun t2 H => ?_)
  refine r_add rfl ?_
  refine r_bi (v := 99) rfl cb_99 ?_
  refine r_jn (P := (fun (s3 : Int32) hq => Rn none 0 0 eX0_word 16 [some (.ref a0), some (.int a1), some (.int a2), none, none] [.int s3] hq (eI vr, hr))) H (fun s3 hs3 H  => ?_) (fun k4 K4 H => ?_)
  · refine r_isn (L' := [some (.ref a0), some (.int a1), some (.int a2), some (.int s3), none]) rfl rfl (Nat.le_of_ble_eq_true rfl) rfl ?_
    refine r_ic (v := 2) rfl ci_2 ?_
    refine r_aln rfl rfl rfl ?_
    refine r_gR H rfl kd_0_4 (fun r5 H => ?_)
    refine r_iln rfl rfl rfl ?_
    refine r_aI' H rfl (fun t6 H => ?_)
    refine r_mul rfl ?_
    refine r_is (L' := [some (.ref a0), some (.int a1), some (.int a2), some (.int s3), some (.int ((2 : Int32) * t6))]) rfl (Nat.le_of_ble_eq_true rfl) rfl ?_
    refine r_aln rfl rfl rfl ?_
    refine r_gR H rfl kd_0_3 (fun r7 H => ?_)
    refine r_iln rfl rfl rfl ?_
    refine r_aI' H rfl (fun t8 H => ?_)
    rcases Decidable.em (t8 = (1 : Int32)) with h9 | h9
    · rw [if_pos h9] at H; refine r_tab (t := 29) rfl (by rw [h9]; rfl) ?_
      refine r_iln rfl rfl rfl ?_
      exact r_reti H rfl rfl ⟨Nat.zero_le _, Nat.zero_le _⟩
    · rw [if_neg h9] at H; rcases Decidable.em (t8 = (2 : Int32)) with h10 | h10
      · rw [if_pos h10] at H; refine r_tab (t := 31) rfl (by rw [h10]; rfl) ?_
        refine r_iln rfl rfl rfl ?_
        refine r_il rfl rfl ?_
        refine r_cmp H rfl rfl (fun H => ?_) (fun H => ?_)
        · refine r_iln rfl rfl rfl ?_
          refine r_il rfl rfl ?_
          refine r_sub rfl ?_
          exact r_reti H rfl rfl ⟨Nat.zero_le _, Nat.zero_le _⟩
        · refine r_ic (v := 0) rfl ci_0 ?_
          refine r_go rfl ?_
          exact r_reti H rfl rfl ⟨Nat.zero_le _, Nat.zero_le _⟩
      · rw [if_neg h10] at H; rcases Decidable.em (t8 = (3 : Int32)) with h11 | h11
        · rw [if_pos h11] at H; refine r_tab (t := 40) rfl (by rw [h11]; rfl) ?_
          refine r_iln rfl rfl rfl ?_
          refine r_aln rfl rfl rfl ?_
          refine r_gR H rfl kd_0_6 (fun r12 H => ?_)
          refine r_iln rfl rfl rfl ?_
          refine r_aI' H rfl (fun t13 H => ?_)
          refine r_add rfl ?_
          refine r_ic (v := 2) rfl ci_2 ?_
          refine r_div H rfl (fun H => ?_)
          exact r_reti H rfl rfl ⟨Nat.zero_le _, Nat.zero_le _⟩
        · rw [if_neg h11] at H; rcases Decidable.em (t8 = (4 : Int32)) with h15 | h15
          · rw [if_pos h15] at H; refine r_tab (t := 49) rfl (by rw [h15]; rfl) ?_
            refine r_aln rfl rfl rfl ?_
            refine r_gR H rfl kd_0_6 (fun r16 H => ?_)
            refine r_iln rfl rfl rfl ?_
            refine r_aI' H rfl (fun t17 H => ?_)
            refine r_il rfl rfl ?_
            refine r_cmp H rfl rfl (fun H => ?_) (fun H => ?_)
            · refine r_aln rfl rfl rfl ?_
              refine r_gR H rfl kd_0_6 (fun r18 H => ?_)
              refine r_iln rfl rfl rfl ?_
              refine r_aI' H rfl (fun t19 H => ?_)
              refine r_il rfl rfl ?_
              refine r_sub rfl ?_
              exact r_reti H rfl rfl ⟨Nat.zero_le _, Nat.zero_le _⟩
            · refine r_ic (v := 0) rfl ci_0 ?_
              refine r_go rfl ?_
              exact r_reti H rfl rfl ⟨Nat.zero_le _, Nat.zero_le _⟩
          · rw [if_neg h15] at H; rcases Decidable.em (t8 = (5 : Int32)) with h20 | h20
            · rw [if_pos h20] at H; refine r_tab (t := 64) rfl (by rw [h20]; rfl) ?_
              refine r_bi (v := 99) rfl cb_99 ?_
              refine r_iln rfl rfl rfl ?_
              refine r_sub rfl ?_
              exact r_reti H rfl rfl ⟨Nat.zero_le _, Nat.zero_le _⟩
            · rw [if_neg h20] at H; refine r_tab (t := 68) rfl (by have g0 := sw_ne h9 (v := 1) rfl; have g1 := sw_ne h10 (v := 2) rfl; have g2 := sw_ne h11 (v := 3) rfl; have g3 := sw_ne h15 (v := 4) rfl; have g4 := sw_ne h20 (v := 5) rfl; exact (sw_out (by omega)).trans rfl) ?_
              refine r_iln rfl rfl rfl ?_
              exact r_reti H rfl rfl ⟨Nat.zero_le _, Nat.zero_le _⟩
  · refine r_cmp H rfl rfl (fun H => ?_) (fun H => ?_)
    · refine r_iln rfl rfl rfl ?_
      refine r_aln rfl rfl rfl ?_
      refine r_gR H rfl kd_0_4 (fun r21 H => ?_)
      refine r_iln rfl rfl rfl ?_
      refine r_aI' H rfl (fun t22 H => ?_)
      refine r_add rfl ?_
      have q := K4 _ _ H
      exact q
    · refine r_bi (v := 99) rfl cb_99 ?_
      refine r_go rfl ?_
      have q := K4 _ _ H
      exact q
def f_X6_holds (a0 : Int32) (a1 : Int32) : M Int32 := if ((a0 >>> (a1 &&& (31 : Int32))) &&& (1 : Int32)) = (0 : Int32) then retZ (0 : Int32) else retZ (1 : Int32)
set_option maxRecDepth 20000 in
theorem s_X6_holds (a0 : Int32) (a1 : Int32) : Sm eX6_holds [.int a0, .int a1] eI (f_X6_holds a0 a1) := by
  intro hp vr hr H
  unfold f_X6_holds at H
  show Rn none 0 0 eX6_holds 0 [some (.int a0), some (.int a1)] [] hp (eI vr, hr)
  refine r_iln rfl rfl rfl ?_
  refine r_iln rfl rfl rfl ?_
  refine r_shr rfl ?_
  refine r_ic (v := 1) rfl ci_1 ?_
  refine r_and rfl ?_
  refine r_if H rfl rfl (fun H => ?_) (fun H => ?_)
  · refine r_ic (v := 0) rfl ci_0 ?_
    exact r_retz H rfl rfl ⟨Nat.zero_le _, Nat.zero_le _⟩
  · refine r_ic (v := 1) rfl ci_1 ?_
    refine r_go rfl ?_
    exact r_retz H rfl rfl ⟨Nat.zero_le _, Nat.zero_le _⟩
def f_X0_mean (a0 : Nat) (a1 : Int32) (a2 : Int32) : M Int32 := loopK NF (fun (s1 : Int32 × Int32 × Int32) k2 => bnd (gI 0 0 a0) fun t3 => if t3 ≤ s1.2.2 then if ¬ s1.2.1 = (0 : Int32) then bnd (divM s1.1 s1.2.1) fun t4 => rt t4 else rt (-9 : Int32) else bnd (f_X6_holds a1 s1.2.2) fun t5 => if t5 = (0 : Int32) then k2 (s1.1, s1.2.1, (s1.2.2 + (1 : Int32))) else bnd (cv 0 a0 (f_X0_word a0 s1.2.2 a2)) fun t7 => k2 ((s1.1 + t7), (s1.2.1 + (1 : Int32)), (s1.2.2 + (1 : Int32)))) ((0 : Int32), (0 : Int32), (0 : Int32))
set_option maxRecDepth 20000 in
theorem s_X0_mean (a0 : Nat) (a1 : Int32) (a2 : Int32) : Sm eX0_mean [.ref a0, .int a1, .int a2] eI (f_X0_mean a0 a1 a2) := by
  intro hp vr hr H
  unfold f_X0_mean at H
  show Rn none 0 0 eX0_mean 0 [some (.ref a0), some (.int a1), some (.int a2), none, none, none] [] hp (eI vr, hr)
  refine r_ic (v := 0) rfl ci_0 ?_
  refine r_isn (L' := [some (.ref a0), some (.int a1), some (.int a2), some (.int (0 : Int32)), none, none]) rfl rfl (Nat.le_of_ble_eq_true rfl) rfl ?_
  refine r_ic (v := 0) rfl ci_0 ?_
  refine r_is (L' := [some (.ref a0), some (.int a1), some (.int a2), some (.int (0 : Int32)), some (.int (0 : Int32)), none]) rfl (Nat.le_of_ble_eq_true rfl) rfl ?_
  refine r_ic (v := 0) rfl ci_0 ?_
  refine r_is (L' := [some (.ref a0), some (.int a1), some (.int a2), some (.int (0 : Int32)), some (.int (0 : Int32)), some (.int (0 : Int32))]) rfl (Nat.le_of_ble_eq_true rfl) rfl ?_
  refine (r_loop (P := (fun (s1 : Int32 × Int32 × Int32) hq => ∀ ys1_0 : Int32, ∀ ys1_1 : Int32, ∀ ys1_2 : Int32, s1 = (ys1_0, ys1_1, ys1_2) → Rn none 0 0 eX0_mean 6 [some (.ref a0), some (.int a1), some (.int a2), some (.int ys1_0), some (.int ys1_1), some (.int ys1_2)] [] hq (eI vr, hr))) ?_ NF _ _ H) _ _ _ rfl
  intro k2 K2 s1 hs1 H ys1_0 ys1_1 ys1_2 es1 
  subst es1
  refine r_il rfl rfl ?_
  refine r_aln rfl rfl rfl ?_
  refine r_gI' H rfl kl_0_0 (fun t3 H => ?_)
  refine r_cmp H rfl rfl (fun H => ?_) (fun H => ?_)
  · refine r_il rfl rfl ?_
    refine r_if H rfl rfl (fun H => ?_) (fun H => ?_)
    · refine r_iln rfl rfl rfl ?_
      refine r_il rfl rfl ?_
      refine r_div H rfl (fun H => ?_)
      exact r_reti H rfl rfl ⟨Nat.zero_le _, Nat.zero_le _⟩
    · refine r_bi (v := -9) rfl cb_m9 ?_
      refine r_go rfl ?_
      exact r_reti H rfl rfl ⟨Nat.zero_le _, Nat.zero_le _⟩
  · refine r_iln rfl rfl rfl ?_
    refine r_il rfl rfl ?_
    refine r_stI (rest := []) H rfl rfl (s_X6_holds a1 ys1_2) rfl rfl ⟨rfl, rfl⟩ rfl (fun t5 h6 H => ?_)
    refine r_if H rfl rfl (fun H => ?_) (fun H => ?_)
    · refine r_inc (v := 1) (L' := [some (.ref a0), some (.int a1), some (.int a2), some (.int ys1_0), some (.int ys1_1), some (.int (ys1_2 + (1 : Int32)))]) rfl rfl ci_1 rfl ?_
      refine r_go rfl ?_
      have q := K2 _ _ H _ _ _ rfl
      exact q
    · refine r_iln rfl rfl rfl ?_
      refine r_aln rfl rfl rfl ?_
      refine r_il rfl rfl ?_
      refine r_iln rfl rfl rfl ?_
      refine r_vtI (rest := [.int ys1_0]) H rfl rfl rfl (s_X0_word a0 ys1_2 a2) rfl rfl ⟨rfl, rfl⟩ rfl (fun t7 h8 H => ?_)
      refine r_add rfl ?_
      refine r_isn (L' := [some (.ref a0), some (.int a1), some (.int a2), some (.int (ys1_0 + t7)), some (.int ys1_1), some (.int ys1_2)]) rfl rfl (Nat.le_of_ble_eq_true rfl) rfl ?_
      refine r_inc (v := 1) (L' := [some (.ref a0), some (.int a1), some (.int a2), some (.int (ys1_0 + t7)), some (.int (ys1_1 + (1 : Int32))), some (.int ys1_2)]) rfl rfl ci_1 rfl ?_
      refine r_inc (v := 1) (L' := [some (.ref a0), some (.int a1), some (.int a2), some (.int (ys1_0 + t7)), some (.int (ys1_1 + (1 : Int32))), some (.int (ys1_2 + (1 : Int32)))]) rfl rfl ci_1 rfl ?_
      refine r_go rfl ?_
      have q := K2 _ _ H _ _ _ rfl
      exact q
def f_X0_passWeek (a0 : Nat) : M Int32 := loopK NF (fun (s1 : Int32) k2 => bnd (gI 0 0 a0) fun t3 => if t3 ≤ s1 then bnd (pI 0 2 a0 (0 : Int32)) fun _ => loopK NF (fun (s4 : Int32 × Int32) k5 => bnd (gI 0 0 a0) fun t7 => if t7 ≤ s4.2 then bnd (gI 0 1 a0) fun t8 => bnd (pI 0 1 a0 (t8 + (1 : Int32))) fun _ => rt s4.1 else bnd (gR 0 8 a0) fun r9 => bnd (aI r9 s4.2) fun t10 => bnd (gR 0 6 a0) fun r11 => bnd (aI r11 s4.2) fun t12 => bnd (gI 0 2 a0) fun t13 => bnd (pI 0 2 a0 (mmax t13 (mabs (t10 - t12)))) fun _ => jn (fun k15 => if ¬ (mabs (t10 - t12)) = (0 : Int32) then k15 (1 : Int32) else k15 (0 : Int32)) (fun (s14 : Int32) => bnd (gR 0 6 a0) fun r16 => bnd (gR 0 8 a0) fun r17 => bnd (aI r17 s4.2) fun t18 => bnd (sI r16 s4.2 t18) fun _ => k5 ((s4.1 + s14), (s4.2 + (1 : Int32))))) ((0 : Int32), (0 : Int32)) else bnd (gR 0 8 a0) fun r19 => bnd (gR 0 7 a0) fun r20 => bnd (aI r20 s1) fun t21 => if ¬ t21 = (0 : Int32) then bnd (gR 0 7 a0) fun r22 => bnd (aI r22 s1) fun t23 => bnd (gR 0 5 a0) fun r24 => bnd (aI r24 s1) fun t25 => bnd (cv 0 a0 (f_X0_mean a0 t23 t25)) fun t26 => bnd (sI r19 s1 t26) fun _ => k2 (s1 + (1 : Int32)) else bnd (gR 0 6 a0) fun r28 => bnd (aI r28 s1) fun t29 => bnd (sI r19 s1 t29) fun _ => k2 (s1 + (1 : Int32))) (0 : Int32)
set_option maxRecDepth 20000 in
theorem s_X0_passWeek (a0 : Nat) : Sm eX0_passWeek [.ref a0] eI (f_X0_passWeek a0) := by
  intro hp vr hr H
  unfold f_X0_passWeek at H
  show Rn none 0 0 eX0_passWeek 0 [some (.ref a0), none, none, none] [] hp (eI vr, hr)
  refine r_ic (v := 0) rfl ci_0 ?_
  refine r_isn (L' := [some (.ref a0), some (.int (0 : Int32)), none, none]) rfl rfl (Nat.le_of_ble_eq_true rfl) rfl ?_
  refine (r_loop (P := (fun (s1 : Int32) hq => Rn none 0 0 eX0_passWeek 2 [some (.ref a0), some (.int s1), none, none] [] hq (eI vr, hr))) ?_ NF _ _ H)
  intro k2 K2 s1 hs1 H 
  refine r_iln rfl rfl rfl ?_
  refine r_aln rfl rfl rfl ?_
  refine r_gI' H rfl kl_0_0 (fun t3 H => ?_)
  refine r_cmp H rfl rfl (fun H => ?_) (fun H => ?_)
  · refine r_ic (v := 0) rfl ci_0 ?_
    refine r_isn (L' := [some (.ref a0), some (.int (0 : Int32)), none, none]) rfl rfl (Nat.le_of_ble_eq_true rfl) rfl ?_
    refine r_aln rfl rfl rfl ?_
    refine r_ic (v := 0) rfl ci_0 ?_
    refine r_pI H rfl kd_0_2 (fun H => ?_)
    refine r_ic (v := 0) rfl ci_0 ?_
    refine r_isn (L' := [some (.ref a0), some (.int (0 : Int32)), some (.int (0 : Int32)), none]) rfl rfl (Nat.le_of_ble_eq_true rfl) rfl ?_
    refine (r_loop (P := (fun (s4 : Int32 × Int32) hq => ∀ ys4_0 : Int32, ∀ ys4_1 : Int32, s4 = (ys4_0, ys4_1) → ∀ x6 : Option Value, Rn none 0 0 eX0_passWeek 39 [some (.ref a0), some (.int ys4_0), some (.int ys4_1), x6] [] hq (eI vr, hr))) ?_ NF _ _ H) _ _ rfl _
    intro k5 K5 s4 hs4 H ys4_0 ys4_1 es4 x6
    subst es4
    refine r_iln rfl rfl rfl ?_
    refine r_aln rfl rfl rfl ?_
    refine r_gI' H rfl kl_0_0 (fun t7 H => ?_)
    refine r_cmp H rfl rfl (fun H => ?_) (fun H => ?_)
    · refine r_aln rfl rfl rfl ?_
      refine r_dupr rfl ?_
      refine r_gI' H rfl kl_0_1 (fun t8 H => ?_)
      refine r_ic (v := 1) rfl ci_1 ?_
      refine r_add rfl ?_
      refine r_pI H rfl kd_0_1 (fun H => ?_)
      refine r_iln rfl rfl rfl ?_
      exact r_reti H rfl rfl ⟨Nat.zero_le _, Nat.zero_le _⟩
    · refine r_aln rfl rfl rfl ?_
      refine r_gR H rfl kd_0_8 (fun r9 H => ?_)
      refine r_iln rfl rfl rfl ?_
      refine r_aI' H rfl (fun t10 H => ?_)
      refine r_aln rfl rfl rfl ?_
      refine r_gR H rfl kd_0_6 (fun r11 H => ?_)
      refine r_iln rfl rfl rfl ?_
      refine r_aI' H rfl (fun t12 H => ?_)
      refine r_sub rfl ?_
      refine r_abs rfl rfl (Nat.le_of_ble_eq_true rfl) rfl ?_
      refine r_isn (L' := [some (.ref a0), some (.int ys4_0), some (.int ys4_1), some (.int (mabs (t10 - t12)))]) rfl rfl (Nat.le_of_ble_eq_true rfl) rfl ?_
      refine r_aln rfl rfl rfl ?_
      refine r_aln rfl rfl rfl ?_
      refine r_gI' H rfl kl_0_2 (fun t13 H => ?_)
      refine r_iln rfl rfl rfl ?_
      refine r_max rfl rfl (Nat.le_of_ble_eq_true rfl) rfl ?_
      refine r_pI H rfl kd_0_2 (fun H => ?_)
      refine r_iln rfl rfl rfl ?_
      refine r_iln rfl rfl rfl ?_
      refine r_jn (P := (fun (s14 : Int32) hq => Rn none 0 0 eX0_passWeek 66 [some (.ref a0), some (.int ys4_0), some (.int ys4_1), some (.int (mabs (t10 - t12)))] [.int s14, .int ys4_0] hq (eI vr, hr))) H (fun s14 hs14 H  => ?_) (fun k15 K15 H => ?_)
      · refine r_add rfl ?_
        refine r_isn (L' := [some (.ref a0), some (.int (ys4_0 + s14)), some (.int ys4_1), some (.int (mabs (t10 - t12)))]) rfl rfl (Nat.le_of_ble_eq_true rfl) rfl ?_
        refine r_aln rfl rfl rfl ?_
        refine r_gR H rfl kd_0_6 (fun r16 H => ?_)
        refine r_iln rfl rfl rfl ?_
        refine r_aln rfl rfl rfl ?_
        refine r_gR H rfl kd_0_8 (fun r17 H => ?_)
        refine r_iln rfl rfl rfl ?_
        refine r_aI' H rfl (fun t18 H => ?_)
        refine r_sI H rfl (fun H => ?_)
        refine r_inc (v := 1) (L' := [some (.ref a0), some (.int (ys4_0 + s14)), some (.int (ys4_1 + (1 : Int32))), some (.int (mabs (t10 - t12)))]) rfl rfl ci_1 rfl ?_
        refine r_go rfl ?_
        have q := K5 _ _ H _ _ rfl
        exact q _
      · refine r_if H rfl rfl (fun H => ?_) (fun H => ?_)
        · refine r_ic (v := 1) rfl ci_1 ?_
          have q := K15 _ _ H
          exact q
        · refine r_ic (v := 0) rfl ci_0 ?_
          refine r_go rfl ?_
          have q := K15 _ _ H
          exact q
  · refine r_aln rfl rfl rfl ?_
    refine r_gR H rfl kd_0_8 (fun r19 H => ?_)
    refine r_iln rfl rfl rfl ?_
    refine r_aln rfl rfl rfl ?_
    refine r_gR H rfl kd_0_7 (fun r20 H => ?_)
    refine r_iln rfl rfl rfl ?_
    refine r_aI' H rfl (fun t21 H => ?_)
    refine r_if H rfl rfl (fun H => ?_) (fun H => ?_)
    · refine r_aln rfl rfl rfl ?_
      refine r_aln rfl rfl rfl ?_
      refine r_gR H rfl kd_0_7 (fun r22 H => ?_)
      refine r_iln rfl rfl rfl ?_
      refine r_aI' H rfl (fun t23 H => ?_)
      refine r_aln rfl rfl rfl ?_
      refine r_gR H rfl kd_0_5 (fun r24 H => ?_)
      refine r_iln rfl rfl rfl ?_
      refine r_aI' H rfl (fun t25 H => ?_)
      refine r_vtI (rest := [.int s1, .ref r19]) H rfl rfl rfl (s_X0_mean a0 t23 t25) rfl rfl ⟨rfl, rfl⟩ rfl (fun t26 h27 H => ?_)
      refine r_sI H rfl (fun H => ?_)
      refine r_inc (v := 1) (L' := [some (.ref a0), some (.int (s1 + (1 : Int32))), none, none]) rfl rfl ci_1 rfl ?_
      refine r_go rfl ?_
      have q := K2 _ _ H
      exact q
    · refine r_aln rfl rfl rfl ?_
      refine r_gR H rfl kd_0_6 (fun r28 H => ?_)
      refine r_iln rfl rfl rfl ?_
      refine r_aI' H rfl (fun t29 H => ?_)
      refine r_go rfl ?_
      refine r_sI H rfl (fun H => ?_)
      refine r_inc (v := 1) (L' := [some (.ref a0), some (.int (s1 + (1 : Int32))), none, none]) rfl rfl ci_1 rfl ?_
      refine r_go rfl ?_
      have q := K2 _ _ H
      exact q
def f_X0_passWeeks (a0 : Nat) (a1 : Int32) : M Unit := loopK NF (fun (s1 : Int32) k2 => if a1 ≤ s1 then rt () else bnd (cv 0 a0 (f_X0_passWeek a0)) fun t3 => k2 (s1 + (1 : Int32))) (0 : Int32)
set_option maxRecDepth 20000 in
theorem s_X0_passWeeks (a0 : Nat) (a1 : Int32) : Sm eX0_passWeeks [.ref a0, .int a1] eU (f_X0_passWeeks a0 a1) := by
  intro hp vr hr H
  unfold f_X0_passWeeks at H
  show Rn none 0 0 eX0_passWeeks 0 [some (.ref a0), some (.int a1), none] [] hp (eU vr, hr)
  refine r_ic (v := 0) rfl ci_0 ?_
  refine r_isn (L' := [some (.ref a0), some (.int a1), some (.int (0 : Int32))]) rfl rfl (Nat.le_of_ble_eq_true rfl) rfl ?_
  refine (r_loop (P := (fun (s1 : Int32) hq => Rn none 0 0 eX0_passWeeks 2 [some (.ref a0), some (.int a1), some (.int s1)] [] hq (eU vr, hr))) ?_ NF _ _ H)
  intro k2 K2 s1 hs1 H 
  refine r_iln rfl rfl rfl ?_
  refine r_iln rfl rfl rfl ?_
  refine r_cmp H rfl rfl (fun H => ?_) (fun H => ?_)
  · exact r_retv H rfl rfl ⟨Nat.zero_le _, Nat.zero_le _⟩
  · refine r_aln rfl rfl rfl ?_
    refine r_vtI (rest := []) H rfl rfl rfl (s_X0_passWeek a0) rfl rfl ⟨rfl, rfl⟩ rfl (fun t3 h4 H => ?_)
    refine r_popi rfl ?_
    refine r_inc (v := 1) (L' := [some (.ref a0), some (.int a1), some (.int (s1 + (1 : Int32)))]) rfl rfl ci_1 rfl ?_
    refine r_go rfl ?_
    have q := K2 _ _ H
    exact q
def f_X0_unlike (a0 : Nat) (a1 : Nat) : M Int32 := loopK NF (fun (s1 : Int32 × Int32) k2 => bnd (gI 0 0 a0) fun t3 => if t3 ≤ s1.2 then rt s1.1 else bnd (gR 0 6 a0) fun r4 => bnd (aI r4 s1.2) fun t5 => bnd (gR 0 6 a1) fun r6 => bnd (aI r6 s1.2) fun t7 => if ¬ t5 = t7 then k2 ((s1.1 + (1 : Int32)), (s1.2 + (1 : Int32))) else k2 ((s1.1 + (0 : Int32)), (s1.2 + (1 : Int32)))) ((0 : Int32), (0 : Int32))
set_option maxRecDepth 20000 in
theorem s_X0_unlike (a0 : Nat) (a1 : Nat) : Sm eX0_unlike [.ref a0, .ref a1] eI (f_X0_unlike a0 a1) := by
  intro hp vr hr H
  unfold f_X0_unlike at H
  show Rn none 0 0 eX0_unlike 0 [some (.ref a0), some (.ref a1), none, none] [] hp (eI vr, hr)
  refine r_ic (v := 0) rfl ci_0 ?_
  refine r_isn (L' := [some (.ref a0), some (.ref a1), some (.int (0 : Int32)), none]) rfl rfl (Nat.le_of_ble_eq_true rfl) rfl ?_
  refine r_ic (v := 0) rfl ci_0 ?_
  refine r_isn (L' := [some (.ref a0), some (.ref a1), some (.int (0 : Int32)), some (.int (0 : Int32))]) rfl rfl (Nat.le_of_ble_eq_true rfl) rfl ?_
  refine (r_loop (P := (fun (s1 : Int32 × Int32) hq => ∀ ys1_0 : Int32, ∀ ys1_1 : Int32, s1 = (ys1_0, ys1_1) → Rn none 0 0 eX0_unlike 4 [some (.ref a0), some (.ref a1), some (.int ys1_0), some (.int ys1_1)] [] hq (eI vr, hr))) ?_ NF _ _ H) _ _ rfl
  intro k2 K2 s1 hs1 H ys1_0 ys1_1 es1 
  subst es1
  refine r_iln rfl rfl rfl ?_
  refine r_aln rfl rfl rfl ?_
  refine r_gI' H rfl kl_0_0 (fun t3 H => ?_)
  refine r_cmp H rfl rfl (fun H => ?_) (fun H => ?_)
  · refine r_iln rfl rfl rfl ?_
    exact r_reti H rfl rfl ⟨Nat.zero_le _, Nat.zero_le _⟩
  · refine r_iln rfl rfl rfl ?_
    refine r_aln rfl rfl rfl ?_
    refine r_gR H rfl kd_0_6 (fun r4 H => ?_)
    refine r_iln rfl rfl rfl ?_
    refine r_aI' H rfl (fun t5 H => ?_)
    refine r_aln rfl rfl rfl ?_
    refine r_gR H rfl kd_0_6 (fun r6 H => ?_)
    refine r_iln rfl rfl rfl ?_
    refine r_aI' H rfl (fun t7 H => ?_)
    refine r_cmp H rfl rfl (fun H => ?_) (fun H => ?_)
    · refine r_ic (v := 1) rfl ci_1 ?_
      refine r_add rfl ?_
      refine r_isn (L' := [some (.ref a0), some (.ref a1), some (.int (ys1_0 + (1 : Int32))), some (.int ys1_1)]) rfl rfl (Nat.le_of_ble_eq_true rfl) rfl ?_
      refine r_inc (v := 1) (L' := [some (.ref a0), some (.ref a1), some (.int (ys1_0 + (1 : Int32))), some (.int (ys1_1 + (1 : Int32)))]) rfl rfl ci_1 rfl ?_
      refine r_go rfl ?_
      have q := K2 _ _ H _ _ rfl
      exact q
    · refine r_ic (v := 0) rfl ci_0 ?_
      refine r_go rfl ?_
      refine r_add rfl ?_
      refine r_isn (L' := [some (.ref a0), some (.ref a1), some (.int (ys1_0 + (0 : Int32))), some (.int ys1_1)]) rfl rfl (Nat.le_of_ble_eq_true rfl) rfl ?_
      refine r_inc (v := 1) (L' := [some (.ref a0), some (.ref a1), some (.int (ys1_0 + (0 : Int32))), some (.int (ys1_1 + (1 : Int32)))]) rfl rfl ci_1 rfl ?_
      refine r_go rfl ?_
      have q := K2 _ _ H _ _ rfl
      exact q
def f_X0_allErrors (a0 : Nat) : M Int32 := loopK NF (fun (s1 : Int32 × Int32) k2 => bnd (gI 0 0 a0) fun t3 => if t3 ≤ s1.2 then rt s1.1 else bnd (gR 0 6 a0) fun r4 => bnd (aI r4 s1.2) fun t5 => bnd (gR 0 5 a0) fun r6 => bnd (aI r6 s1.2) fun t7 => k2 ((s1.1 + (mabs (t5 - t7))), (s1.2 + (1 : Int32)))) ((0 : Int32), (0 : Int32))
set_option maxRecDepth 20000 in
theorem s_X0_allErrors (a0 : Nat) : Sm eX0_allErrors [.ref a0] eI (f_X0_allErrors a0) := by
  intro hp vr hr H
  unfold f_X0_allErrors at H
  show Rn none 0 0 eX0_allErrors 0 [some (.ref a0), none, none] [] hp (eI vr, hr)
  refine r_ic (v := 0) rfl ci_0 ?_
  refine r_isn (L' := [some (.ref a0), some (.int (0 : Int32)), none]) rfl rfl (Nat.le_of_ble_eq_true rfl) rfl ?_
  refine r_ic (v := 0) rfl ci_0 ?_
  refine r_isn (L' := [some (.ref a0), some (.int (0 : Int32)), some (.int (0 : Int32))]) rfl rfl (Nat.le_of_ble_eq_true rfl) rfl ?_
  refine (r_loop (P := (fun (s1 : Int32 × Int32) hq => ∀ ys1_0 : Int32, ∀ ys1_1 : Int32, s1 = (ys1_0, ys1_1) → Rn none 0 0 eX0_allErrors 4 [some (.ref a0), some (.int ys1_0), some (.int ys1_1)] [] hq (eI vr, hr))) ?_ NF _ _ H) _ _ rfl
  intro k2 K2 s1 hs1 H ys1_0 ys1_1 es1 
  subst es1
  refine r_iln rfl rfl rfl ?_
  refine r_aln rfl rfl rfl ?_
  refine r_gI' H rfl kl_0_0 (fun t3 H => ?_)
  refine r_cmp H rfl rfl (fun H => ?_) (fun H => ?_)
  · refine r_iln rfl rfl rfl ?_
    exact r_reti H rfl rfl ⟨Nat.zero_le _, Nat.zero_le _⟩
  · refine r_iln rfl rfl rfl ?_
    refine r_aln rfl rfl rfl ?_
    refine r_gR H rfl kd_0_6 (fun r4 H => ?_)
    refine r_iln rfl rfl rfl ?_
    refine r_aI' H rfl (fun t5 H => ?_)
    refine r_aln rfl rfl rfl ?_
    refine r_gR H rfl kd_0_5 (fun r6 H => ?_)
    refine r_iln rfl rfl rfl ?_
    refine r_aI' H rfl (fun t7 H => ?_)
    refine r_sub rfl ?_
    refine r_abs rfl rfl (Nat.le_of_ble_eq_true rfl) rfl ?_
    refine r_add rfl ?_
    refine r_isn (L' := [some (.ref a0), some (.int (ys1_0 + (mabs (t5 - t7)))), some (.int ys1_1)]) rfl rfl (Nat.le_of_ble_eq_true rfl) rfl ?_
    refine r_inc (v := 1) (L' := [some (.ref a0), some (.int (ys1_0 + (mabs (t5 - t7)))), some (.int (ys1_1 + (1 : Int32)))]) rfl rfl ci_1 rfl ?_
    refine r_go rfl ?_
    have q := K2 _ _ H _ _ rfl
    exact q
def f_X0_fooledBy (a0 : Nat) (a1 : Int32) : M Int32 := loopK NF (fun (s1 : Int32 × Int32) k2 => bnd (gI 0 0 a0) fun t3 => if t3 ≤ s1.2 then rt s1.1 else bnd (gR 0 6 a0) fun r4 => bnd (aI r4 s1.2) fun t5 => bnd (gR 0 5 a0) fun r6 => bnd (aI r6 s1.2) fun t7 => if (mabs (t5 - t7)) ≤ a1 then k2 (s1.1, (s1.2 + (1 : Int32))) else k2 ((s1.1 ||| ((1 : Int32) <<< (s1.2 &&& (31 : Int32)))), (s1.2 + (1 : Int32)))) ((0 : Int32), (0 : Int32))
set_option maxRecDepth 20000 in
theorem s_X0_fooledBy (a0 : Nat) (a1 : Int32) : Sm eX0_fooledBy [.ref a0, .int a1] eI (f_X0_fooledBy a0 a1) := by
  intro hp vr hr H
  unfold f_X0_fooledBy at H
  show Rn none 0 0 eX0_fooledBy 0 [some (.ref a0), some (.int a1), none, none] [] hp (eI vr, hr)
  refine r_ic (v := 0) rfl ci_0 ?_
  refine r_isn (L' := [some (.ref a0), some (.int a1), some (.int (0 : Int32)), none]) rfl rfl (Nat.le_of_ble_eq_true rfl) rfl ?_
  refine r_ic (v := 0) rfl ci_0 ?_
  refine r_isn (L' := [some (.ref a0), some (.int a1), some (.int (0 : Int32)), some (.int (0 : Int32))]) rfl rfl (Nat.le_of_ble_eq_true rfl) rfl ?_
  refine (r_loop (P := (fun (s1 : Int32 × Int32) hq => ∀ ys1_0 : Int32, ∀ ys1_1 : Int32, s1 = (ys1_0, ys1_1) → Rn none 0 0 eX0_fooledBy 4 [some (.ref a0), some (.int a1), some (.int ys1_0), some (.int ys1_1)] [] hq (eI vr, hr))) ?_ NF _ _ H) _ _ rfl
  intro k2 K2 s1 hs1 H ys1_0 ys1_1 es1 
  subst es1
  refine r_iln rfl rfl rfl ?_
  refine r_aln rfl rfl rfl ?_
  refine r_gI' H rfl kl_0_0 (fun t3 H => ?_)
  refine r_cmp H rfl rfl (fun H => ?_) (fun H => ?_)
  · refine r_iln rfl rfl rfl ?_
    exact r_reti H rfl rfl ⟨Nat.zero_le _, Nat.zero_le _⟩
  · refine r_aln rfl rfl rfl ?_
    refine r_gR H rfl kd_0_6 (fun r4 H => ?_)
    refine r_iln rfl rfl rfl ?_
    refine r_aI' H rfl (fun t5 H => ?_)
    refine r_aln rfl rfl rfl ?_
    refine r_gR H rfl kd_0_5 (fun r6 H => ?_)
    refine r_iln rfl rfl rfl ?_
    refine r_aI' H rfl (fun t7 H => ?_)
    refine r_sub rfl ?_
    refine r_abs rfl rfl (Nat.le_of_ble_eq_true rfl) rfl ?_
    refine r_iln rfl rfl rfl ?_
    refine r_cmp H rfl rfl (fun H => ?_) (fun H => ?_)
    · refine r_inc (v := 1) (L' := [some (.ref a0), some (.int a1), some (.int ys1_0), some (.int (ys1_1 + (1 : Int32)))]) rfl rfl ci_1 rfl ?_
      refine r_go rfl ?_
      have q := K2 _ _ H _ _ rfl
      exact q
    · refine r_iln rfl rfl rfl ?_
      refine r_ic (v := 1) rfl ci_1 ?_
      refine r_iln rfl rfl rfl ?_
      refine r_shl rfl ?_
      refine r_or rfl ?_
      refine r_isn (L' := [some (.ref a0), some (.int a1), some (.int (ys1_0 ||| ((1 : Int32) <<< (ys1_1 &&& (31 : Int32))))), some (.int ys1_1)]) rfl rfl (Nat.le_of_ble_eq_true rfl) rfl ?_
      refine r_inc (v := 1) (L' := [some (.ref a0), some (.int a1), some (.int (ys1_0 ||| ((1 : Int32) <<< (ys1_1 &&& (31 : Int32))))), some (.int (ys1_1 + (1 : Int32)))]) rfl rfl ci_1 rfl ?_
      refine r_go rfl ?_
      have q := K2 _ _ H _ _ rfl
      exact q
def f_X0_apart (a0 : Nat) (a1 : Int32) (a2 : Int32) : M Int32 := bnd (gR 0 6 a0) fun r1 => bnd (aI r1 a1) fun t2 => bnd (gR 0 6 a0) fun r3 => bnd (aI r3 a2) fun t4 => rt (mabs (t2 - t4))
set_option maxRecDepth 20000 in
theorem s_X0_apart (a0 : Nat) (a1 : Int32) (a2 : Int32) : Sm eX0_apart [.ref a0, .int a1, .int a2] eI (f_X0_apart a0 a1 a2) := by
  intro hp vr hr H
  unfold f_X0_apart at H
  show Rn none 0 0 eX0_apart 0 [some (.ref a0), some (.int a1), some (.int a2)] [] hp (eI vr, hr)
  refine r_aln rfl rfl rfl ?_
  refine r_gR H rfl kd_0_6 (fun r1 H => ?_)
  refine r_iln rfl rfl rfl ?_
  refine r_aI' H rfl (fun t2 H => ?_)
  refine r_aln rfl rfl rfl ?_
  refine r_gR H rfl kd_0_6 (fun r3 H => ?_)
  refine r_iln rfl rfl rfl ?_
  refine r_aI' H rfl (fun t4 H => ?_)
  refine r_sub rfl ?_
  refine r_abs rfl rfl (Nat.le_of_ble_eq_true rfl) rfl ?_
  exact r_reti H rfl rfl ⟨Nat.zero_le _, Nat.zero_le _⟩
def f_X0_width (a0 : Nat) : M Int32 := bnd (gI 0 0 a0) fun t1 => if ¬ t1 = (0 : Int32) then bnd (gR 0 6 a0) fun r2 => bnd (aI r2 (0 : Int32)) fun t3 => bnd (gR 0 6 a0) fun r4 => bnd (aI r4 (0 : Int32)) fun t5 => loopK NF (fun (s6 : Int32 × Int32 × Int32) k7 => bnd (gI 0 0 a0) fun t8 => if t8 ≤ s6.2.2 then rt (s6.2.1 - s6.1) else bnd (gR 0 6 a0) fun r9 => bnd (aI r9 s6.2.2) fun t10 => bnd (gR 0 6 a0) fun r11 => bnd (aI r11 s6.2.2) fun t12 => k7 ((mmin s6.1 t10), (mmax s6.2.1 t12), (s6.2.2 + (1 : Int32)))) (t3, t5, (1 : Int32)) else rt (0 : Int32)
set_option maxRecDepth 20000 in
theorem s_X0_width (a0 : Nat) : Sm eX0_width [.ref a0] eI (f_X0_width a0) := by
  intro hp vr hr H
  unfold f_X0_width at H
  show Rn none 0 0 eX0_width 0 [some (.ref a0), none, none, none] [] hp (eI vr, hr)
  refine r_aln rfl rfl rfl ?_
  refine r_gI' H rfl kl_0_0 (fun t1 H => ?_)
  refine r_if H rfl rfl (fun H => ?_) (fun H => ?_)
  · refine r_aln rfl rfl rfl ?_
    refine r_gR H rfl kd_0_6 (fun r2 H => ?_)
    refine r_ic (v := 0) rfl ci_0 ?_
    refine r_aI' H rfl (fun t3 H => ?_)
    refine r_isn (L' := [some (.ref a0), some (.int t3), none, none]) rfl rfl (Nat.le_of_ble_eq_true rfl) rfl ?_
    refine r_aln rfl rfl rfl ?_
    refine r_gR H rfl kd_0_6 (fun r4 H => ?_)
    refine r_ic (v := 0) rfl ci_0 ?_
    refine r_aI' H rfl (fun t5 H => ?_)
    refine r_isn (L' := [some (.ref a0), some (.int t3), some (.int t5), none]) rfl rfl (Nat.le_of_ble_eq_true rfl) rfl ?_
    refine r_ic (v := 1) rfl ci_1 ?_
    refine r_isn (L' := [some (.ref a0), some (.int t3), some (.int t5), some (.int (1 : Int32))]) rfl rfl (Nat.le_of_ble_eq_true rfl) rfl ?_
    refine (r_loop (P := (fun (s6 : Int32 × Int32 × Int32) hq => ∀ ys6_0 : Int32, ∀ ys6_1 : Int32, ∀ ys6_2 : Int32, s6 = (ys6_0, ys6_1, ys6_2) → Rn none 0 0 eX0_width 17 [some (.ref a0), some (.int ys6_0), some (.int ys6_1), some (.int ys6_2)] [] hq (eI vr, hr))) ?_ NF _ _ H) _ _ _ rfl
    intro k7 K7 s6 hs6 H ys6_0 ys6_1 ys6_2 es6 
    subst es6
    refine r_iln rfl rfl rfl ?_
    refine r_aln rfl rfl rfl ?_
    refine r_gI' H rfl kl_0_0 (fun t8 H => ?_)
    refine r_cmp H rfl rfl (fun H => ?_) (fun H => ?_)
    · refine r_iln rfl rfl rfl ?_
      refine r_iln rfl rfl rfl ?_
      refine r_sub rfl ?_
      exact r_reti H rfl rfl ⟨Nat.zero_le _, Nat.zero_le _⟩
    · refine r_iln rfl rfl rfl ?_
      refine r_aln rfl rfl rfl ?_
      refine r_gR H rfl kd_0_6 (fun r9 H => ?_)
      refine r_iln rfl rfl rfl ?_
      refine r_aI' H rfl (fun t10 H => ?_)
      refine r_min rfl rfl (Nat.le_of_ble_eq_true rfl) rfl ?_
      refine r_isn (L' := [some (.ref a0), some (.int (mmin ys6_0 t10)), some (.int ys6_1), some (.int ys6_2)]) rfl rfl (Nat.le_of_ble_eq_true rfl) rfl ?_
      refine r_iln rfl rfl rfl ?_
      refine r_aln rfl rfl rfl ?_
      refine r_gR H rfl kd_0_6 (fun r11 H => ?_)
      refine r_iln rfl rfl rfl ?_
      refine r_aI' H rfl (fun t12 H => ?_)
      refine r_max rfl rfl (Nat.le_of_ble_eq_true rfl) rfl ?_
      refine r_isn (L' := [some (.ref a0), some (.int (mmin ys6_0 t10)), some (.int (mmax ys6_1 t12)), some (.int ys6_2)]) rfl rfl (Nat.le_of_ble_eq_true rfl) rfl ?_
      refine r_inc (v := 1) (L' := [some (.ref a0), some (.int (mmin ys6_0 t10)), some (.int (mmax ys6_1 t12)), some (.int (ys6_2 + (1 : Int32)))]) rfl rfl ci_1 rfl ?_
      refine r_go rfl ?_
      have q := K7 _ _ H _ _ _ rfl
      exact q
  · refine r_ic (v := 0) rfl ci_0 ?_
    exact r_reti H rfl rfl ⟨Nat.zero_le _, Nat.zero_le _⟩
def f_X2_next (a0 : Nat) (a1 : Int32) : M Int32 := loopK NF (fun (s1 : Int32 × Int32) k2 => bnd (len a0) fun t3 => if t3 ≤ s1.2 then rt s1.1 else bnd (f_X6_holds a1 s1.2) fun t4 => if t4 = (0 : Int32) then k2 (s1.1, (s1.2 + (1 : Int32))) else bnd (aI a0 s1.2) fun t6 => k2 ((s1.1 ||| t6), (s1.2 + (1 : Int32)))) ((0 : Int32), (0 : Int32))
set_option maxRecDepth 20000 in
theorem s_X2_next (a0 : Nat) (a1 : Int32) : Sm eX2_next [.ref a0, .int a1] eI (f_X2_next a0 a1) := by
  intro hp vr hr H
  unfold f_X2_next at H
  show Rn none 0 0 eX2_next 0 [some (.ref a0), some (.int a1), none, none] [] hp (eI vr, hr)
  refine r_ic (v := 0) rfl ci_0 ?_
  refine r_isn (L' := [some (.ref a0), some (.int a1), some (.int (0 : Int32)), none]) rfl rfl (Nat.le_of_ble_eq_true rfl) rfl ?_
  refine r_ic (v := 0) rfl ci_0 ?_
  refine r_isn (L' := [some (.ref a0), some (.int a1), some (.int (0 : Int32)), some (.int (0 : Int32))]) rfl rfl (Nat.le_of_ble_eq_true rfl) rfl ?_
  refine (r_loop (P := (fun (s1 : Int32 × Int32) hq => ∀ ys1_0 : Int32, ∀ ys1_1 : Int32, s1 = (ys1_0, ys1_1) → Rn none 0 0 eX2_next 4 [some (.ref a0), some (.int a1), some (.int ys1_0), some (.int ys1_1)] [] hq (eI vr, hr))) ?_ NF _ _ H) _ _ rfl
  intro k2 K2 s1 hs1 H ys1_0 ys1_1 es1 
  subst es1
  refine r_iln rfl rfl rfl ?_
  refine r_aln rfl rfl rfl ?_
  refine r_len H rfl (fun t3 H => ?_)
  refine r_cmp H rfl rfl (fun H => ?_) (fun H => ?_)
  · refine r_iln rfl rfl rfl ?_
    exact r_reti H rfl rfl ⟨Nat.zero_le _, Nat.zero_le _⟩
  · refine r_iln rfl rfl rfl ?_
    refine r_iln rfl rfl rfl ?_
    refine r_stI (rest := []) H rfl rfl (s_X6_holds a1 ys1_1) rfl rfl ⟨rfl, rfl⟩ rfl (fun t4 h5 H => ?_)
    refine r_if H rfl rfl (fun H => ?_) (fun H => ?_)
    · refine r_inc (v := 1) (L' := [some (.ref a0), some (.int a1), some (.int ys1_0), some (.int (ys1_1 + (1 : Int32)))]) rfl rfl ci_1 rfl ?_
      refine r_go rfl ?_
      have q := K2 _ _ H _ _ rfl
      exact q
    · refine r_iln rfl rfl rfl ?_
      refine r_aln rfl rfl rfl ?_
      refine r_iln rfl rfl rfl ?_
      refine r_aI' H rfl (fun t6 H => ?_)
      refine r_or rfl ?_
      refine r_isn (L' := [some (.ref a0), some (.int a1), some (.int (ys1_0 ||| t6)), some (.int ys1_1)]) rfl rfl (Nat.le_of_ble_eq_true rfl) rfl ?_
      refine r_inc (v := 1) (L' := [some (.ref a0), some (.int a1), some (.int (ys1_0 ||| t6)), some (.int (ys1_1 + (1 : Int32)))]) rfl rfl ci_1 rfl ?_
      refine r_go rfl ?_
      have q := K2 _ _ H _ _ rfl
      exact q
def f_X2_reach (a0 : Nat) (a1 : Int32) (a2 : Int32) : M Int32 := loopK NF (fun (s1 : Int32 × Int32) k2 => bnd (len a0) fun t3 => if t3 ≤ s1.2 then rt s1.1 else bnd (f_X2_next a0 s1.1) fun t4 => k2 ((s1.1 ||| (t4 &&& a2)), (s1.2 + (1 : Int32)))) (a1, (0 : Int32))
set_option maxRecDepth 20000 in
theorem s_X2_reach (a0 : Nat) (a1 : Int32) (a2 : Int32) : Sm eX2_reach [.ref a0, .int a1, .int a2] eI (f_X2_reach a0 a1 a2) := by
  intro hp vr hr H
  unfold f_X2_reach at H
  show Rn none 0 0 eX2_reach 0 [some (.ref a0), some (.int a1), some (.int a2), none, none] [] hp (eI vr, hr)
  refine r_iln rfl rfl rfl ?_
  refine r_isn (L' := [some (.ref a0), some (.int a1), some (.int a2), some (.int a1), none]) rfl rfl (Nat.le_of_ble_eq_true rfl) rfl ?_
  refine r_ic (v := 0) rfl ci_0 ?_
  refine r_is (L' := [some (.ref a0), some (.int a1), some (.int a2), some (.int a1), some (.int (0 : Int32))]) rfl (Nat.le_of_ble_eq_true rfl) rfl ?_
  refine (r_loop (P := (fun (s1 : Int32 × Int32) hq => ∀ ys1_0 : Int32, ∀ ys1_1 : Int32, s1 = (ys1_0, ys1_1) → Rn none 0 0 eX2_reach 4 [some (.ref a0), some (.int a1), some (.int a2), some (.int ys1_0), some (.int ys1_1)] [] hq (eI vr, hr))) ?_ NF _ _ H) _ _ rfl
  intro k2 K2 s1 hs1 H ys1_0 ys1_1 es1 
  subst es1
  refine r_il rfl rfl ?_
  refine r_aln rfl rfl rfl ?_
  refine r_len H rfl (fun t3 H => ?_)
  refine r_cmp H rfl rfl (fun H => ?_) (fun H => ?_)
  · refine r_iln rfl rfl rfl ?_
    exact r_reti H rfl rfl ⟨Nat.zero_le _, Nat.zero_le _⟩
  · refine r_iln rfl rfl rfl ?_
    refine r_aln rfl rfl rfl ?_
    refine r_iln rfl rfl rfl ?_
    refine r_stI (rest := [.int ys1_0]) H rfl rfl (s_X2_next a0 ys1_0) rfl rfl ⟨rfl, rfl⟩ rfl (fun t4 h5 H => ?_)
    refine r_iln rfl rfl rfl ?_
    refine r_and rfl ?_
    refine r_or rfl ?_
    refine r_isn (L' := [some (.ref a0), some (.int a1), some (.int a2), some (.int (ys1_0 ||| (t4 &&& a2))), some (.int ys1_1)]) rfl rfl (Nat.le_of_ble_eq_true rfl) rfl ?_
    refine r_inc (v := 1) (L' := [some (.ref a0), some (.int a1), some (.int a2), some (.int (ys1_0 ||| (t4 &&& a2))), some (.int (ys1_1 + (1 : Int32)))]) rfl rfl ci_1 rfl ?_
    refine r_go rfl ?_
    have q := K2 _ _ H _ _ rfl
    exact q
def f_X0_sources (a0 : Nat) (a1 : Int32) : M Int32 := bnd (gR 0 7 a0) fun r1 => bnd (gR 0 7 a0) fun r2 => bnd (aI r2 a1) fun t3 => bnd (f_X2_reach r1 t3 (-1 : Int32)) fun t4 => rt t4
set_option maxRecDepth 20000 in
theorem s_X0_sources (a0 : Nat) (a1 : Int32) : Sm eX0_sources [.ref a0, .int a1] eI (f_X0_sources a0 a1) := by
  intro hp vr hr H
  unfold f_X0_sources at H
  show Rn none 0 0 eX0_sources 0 [some (.ref a0), some (.int a1)] [] hp (eI vr, hr)
  refine r_aln rfl rfl rfl ?_
  refine r_gR H rfl kd_0_7 (fun r1 H => ?_)
  refine r_aln rfl rfl rfl ?_
  refine r_gR H rfl kd_0_7 (fun r2 H => ?_)
  refine r_iln rfl rfl rfl ?_
  refine r_aI' H rfl (fun t3 H => ?_)
  refine r_ic (v := -1) rfl ci_m1 ?_
  refine r_stI (rest := []) H rfl rfl (s_X2_reach r1 t3 (-1 : Int32)) rfl rfl ⟨rfl, rfl⟩ rfl (fun t4 h5 H => ?_)
  exact r_reti H rfl rfl ⟨Nat.zero_le _, Nat.zero_le _⟩
def f_X0_allAskEachOther (a0 : Nat) (a1 : Int32) : M Int32 := loopK NF (fun (s1 : Int32) k2 => bnd (gI 0 0 a0) fun t4 => if t4 ≤ s1 then retZ (1 : Int32) else bnd (f_X6_holds a1 s1) fun t5 => if t5 = (0 : Int32) then k2 (s1 + (1 : Int32)) else bnd (gR 0 7 a0) fun r7 => bnd (aI r7 s1) fun t8 => if ((a1 &&& (((1 : Int32) <<< (s1 &&& (31 : Int32))) ^^^ (-1 : Int32))) &&& (t8 ^^^ (-1 : Int32))) = (0 : Int32) then k2 (s1 + (1 : Int32)) else retZ (0 : Int32)) (0 : Int32)
set_option maxRecDepth 20000 in
theorem s_X0_allAskEachOther (a0 : Nat) (a1 : Int32) : Sm eX0_allAskEachOther [.ref a0, .int a1] eI (f_X0_allAskEachOther a0 a1) := by
  intro hp vr hr H
  unfold f_X0_allAskEachOther at H
  show Rn none 0 0 eX0_allAskEachOther 0 [some (.ref a0), some (.int a1), none, none] [] hp (eI vr, hr)
  refine r_ic (v := 0) rfl ci_0 ?_
  refine r_isn (L' := [some (.ref a0), some (.int a1), some (.int (0 : Int32)), none]) rfl rfl (Nat.le_of_ble_eq_true rfl) rfl ?_
  refine (r_loop (P := (fun (s1 : Int32) hq => ∀ x3 : Option Value, Rn none 0 0 eX0_allAskEachOther 2 [some (.ref a0), some (.int a1), some (.int s1), x3] [] hq (eI vr, hr))) ?_ NF _ _ H) _
  intro k2 K2 s1 hs1 H x3
  refine r_iln rfl rfl rfl ?_
  refine r_aln rfl rfl rfl ?_
  refine r_gI' H rfl kl_0_0 (fun t4 H => ?_)
  refine r_cmp H rfl rfl (fun H => ?_) (fun H => ?_)
  · refine r_ic (v := 1) rfl ci_1 ?_
    exact r_retz H rfl rfl ⟨Nat.zero_le _, Nat.zero_le _⟩
  · refine r_iln rfl rfl rfl ?_
    refine r_ic (v := 1) rfl ci_1 ?_
    refine r_iln rfl rfl rfl ?_
    refine r_shl rfl ?_
    refine r_ic (v := -1) rfl ci_m1 ?_
    refine r_xor rfl ?_
    refine r_and rfl ?_
    refine r_isn (L' := [some (.ref a0), some (.int a1), some (.int s1), some (.int (a1 &&& (((1 : Int32) <<< (s1 &&& (31 : Int32))) ^^^ (-1 : Int32))))]) rfl rfl (Nat.le_of_ble_eq_true rfl) rfl ?_
    refine r_iln rfl rfl rfl ?_
    refine r_iln rfl rfl rfl ?_
    refine r_stI (rest := []) H rfl rfl (s_X6_holds a1 s1) rfl rfl ⟨rfl, rfl⟩ rfl (fun t5 h6 H => ?_)
    refine r_if H rfl rfl (fun H => ?_) (fun H => ?_)
    · refine r_inc (v := 1) (L' := [some (.ref a0), some (.int a1), some (.int (s1 + (1 : Int32))), some (.int (a1 &&& (((1 : Int32) <<< (s1 &&& (31 : Int32))) ^^^ (-1 : Int32))))]) rfl rfl ci_1 rfl ?_
      refine r_go rfl ?_
      have q := K2 _ _ H
      exact q _
    · refine r_iln rfl rfl rfl ?_
      refine r_aln rfl rfl rfl ?_
      refine r_gR H rfl kd_0_7 (fun r7 H => ?_)
      refine r_iln rfl rfl rfl ?_
      refine r_aI' H rfl (fun t8 H => ?_)
      refine r_ic (v := -1) rfl ci_m1 ?_
      refine r_xor rfl ?_
      refine r_and rfl ?_
      refine r_if H rfl rfl (fun H => ?_) (fun H => ?_)
      · refine r_inc (v := 1) (L' := [some (.ref a0), some (.int a1), some (.int (s1 + (1 : Int32))), some (.int (a1 &&& (((1 : Int32) <<< (s1 &&& (31 : Int32))) ^^^ (-1 : Int32))))]) rfl rfl ci_1 rfl ?_
        refine r_go rfl ?_
        have q := K2 _ _ H
        exact q _
      · refine r_ic (v := 0) rfl ci_0 ?_
        exact r_retz H rfl rfl ⟨Nat.zero_le _, Nat.zero_le _⟩
def f_X0_untruth (a0 : Nat) (a1 : Int32) : M Int32 := loopK NF (fun (s1 : Int32 × Int32) k2 => bnd (gI 0 0 a0) fun t3 => if t3 ≤ s1.2 then rt s1.1 else if s1.2 = a1 then k2 (s1.1, (s1.2 + (1 : Int32))) else bnd (gR 0 5 a0) fun r4 => bnd (aI r4 s1.2) fun t5 => bnd (cv 0 a0 (f_X0_word a0 a1 t5)) fun t6 => bnd (gR 0 5 a0) fun r8 => bnd (aI r8 s1.2) fun t9 => k2 ((s1.1 + (mabs (t6 - t9))), (s1.2 + (1 : Int32)))) ((0 : Int32), (0 : Int32))
set_option maxRecDepth 20000 in
theorem s_X0_untruth (a0 : Nat) (a1 : Int32) : Sm eX0_untruth [.ref a0, .int a1] eI (f_X0_untruth a0 a1) := by
  intro hp vr hr H
  unfold f_X0_untruth at H
  show Rn none 0 0 eX0_untruth 0 [some (.ref a0), some (.int a1), none, none] [] hp (eI vr, hr)
  refine r_ic (v := 0) rfl ci_0 ?_
  refine r_isn (L' := [some (.ref a0), some (.int a1), some (.int (0 : Int32)), none]) rfl rfl (Nat.le_of_ble_eq_true rfl) rfl ?_
  refine r_ic (v := 0) rfl ci_0 ?_
  refine r_isn (L' := [some (.ref a0), some (.int a1), some (.int (0 : Int32)), some (.int (0 : Int32))]) rfl rfl (Nat.le_of_ble_eq_true rfl) rfl ?_
  refine (r_loop (P := (fun (s1 : Int32 × Int32) hq => ∀ ys1_0 : Int32, ∀ ys1_1 : Int32, s1 = (ys1_0, ys1_1) → Rn none 0 0 eX0_untruth 4 [some (.ref a0), some (.int a1), some (.int ys1_0), some (.int ys1_1)] [] hq (eI vr, hr))) ?_ NF _ _ H) _ _ rfl
  intro k2 K2 s1 hs1 H ys1_0 ys1_1 es1 
  subst es1
  refine r_iln rfl rfl rfl ?_
  refine r_aln rfl rfl rfl ?_
  refine r_gI' H rfl kl_0_0 (fun t3 H => ?_)
  refine r_cmp H rfl rfl (fun H => ?_) (fun H => ?_)
  · refine r_iln rfl rfl rfl ?_
    exact r_reti H rfl rfl ⟨Nat.zero_le _, Nat.zero_le _⟩
  · refine r_iln rfl rfl rfl ?_
    refine r_iln rfl rfl rfl ?_
    refine r_cmp H rfl rfl (fun H => ?_) (fun H => ?_)
    · refine r_inc (v := 1) (L' := [some (.ref a0), some (.int a1), some (.int ys1_0), some (.int (ys1_1 + (1 : Int32)))]) rfl rfl ci_1 rfl ?_
      refine r_go rfl ?_
      have q := K2 _ _ H _ _ rfl
      exact q
    · refine r_iln rfl rfl rfl ?_
      refine r_aln rfl rfl rfl ?_
      refine r_iln rfl rfl rfl ?_
      refine r_aln rfl rfl rfl ?_
      refine r_gR H rfl kd_0_5 (fun r4 H => ?_)
      refine r_iln rfl rfl rfl ?_
      refine r_aI' H rfl (fun t5 H => ?_)
      refine r_vtI (rest := [.int ys1_0]) H rfl rfl rfl (s_X0_word a0 a1 t5) rfl rfl ⟨rfl, rfl⟩ rfl (fun t6 h7 H => ?_)
      refine r_aln rfl rfl rfl ?_
      refine r_gR H rfl kd_0_5 (fun r8 H => ?_)
      refine r_iln rfl rfl rfl ?_
      refine r_aI' H rfl (fun t9 H => ?_)
      refine r_sub rfl ?_
      refine r_abs rfl rfl (Nat.le_of_ble_eq_true rfl) rfl ?_
      refine r_add rfl ?_
      refine r_isn (L' := [some (.ref a0), some (.int a1), some (.int (ys1_0 + (mabs (t6 - t9)))), some (.int ys1_1)]) rfl rfl (Nat.le_of_ble_eq_true rfl) rfl ?_
      refine r_inc (v := 1) (L' := [some (.ref a0), some (.int a1), some (.int (ys1_0 + (mabs (t6 - t9)))), some (.int (ys1_1 + (1 : Int32)))]) rfl rfl ci_1 rfl ?_
      refine r_go rfl ?_
      have q := K2 _ _ H _ _ rfl
      exact q
def f_X0_askByLot (a0 : Nat) (a1 : Int32) : M Int32 := loopK NF (fun (s1 : Int32 × Int32) k2 => bnd (gI 0 0 a0) fun t4 => if t4 ≤ s1.2 then rt s1.1 else bnd (divM (((s1.1 * (1103515245 : Int32)) + (12345 : Int32)) &&& (2147483647 : Int32)) (65536 : Int32)) fun t5 => bnd (remM t5 (128 : Int32)) fun t6 => bnd (gR 0 7 a0) fun r7 => bnd (cv 0 a0 (f_X0_others a0 s1.2)) fun t8 => bnd (sI r7 s1.2 (t6 &&& t8)) fun _ => k2 (((s1.1 * (1103515245 : Int32)) + (12345 : Int32)), (s1.2 + (1 : Int32)))) (a1, (0 : Int32))
set_option maxRecDepth 20000 in
theorem s_X0_askByLot (a0 : Nat) (a1 : Int32) : Sm eX0_askByLot [.ref a0, .int a1] eI (f_X0_askByLot a0 a1) := by
  intro hp vr hr H
  unfold f_X0_askByLot at H
  show Rn none 0 0 eX0_askByLot 0 [some (.ref a0), some (.int a1), none, none, none] [] hp (eI vr, hr)
  refine r_iln rfl rfl rfl ?_
  refine r_isn (L' := [some (.ref a0), some (.int a1), some (.int a1), none, none]) rfl rfl (Nat.le_of_ble_eq_true rfl) rfl ?_
  refine r_ic (v := 0) rfl ci_0 ?_
  refine r_isn (L' := [some (.ref a0), some (.int a1), some (.int a1), some (.int (0 : Int32)), none]) rfl rfl (Nat.le_of_ble_eq_true rfl) rfl ?_
  refine (r_loop (P := (fun (s1 : Int32 × Int32) hq => ∀ ys1_0 : Int32, ∀ ys1_1 : Int32, s1 = (ys1_0, ys1_1) → ∀ x3 : Option Value, Rn none 0 0 eX0_askByLot 4 [some (.ref a0), some (.int a1), some (.int ys1_0), some (.int ys1_1), x3] [] hq (eI vr, hr))) ?_ NF _ _ H) _ _ rfl _
  intro k2 K2 s1 hs1 H ys1_0 ys1_1 es1 x3
  subst es1
  refine r_iln rfl rfl rfl ?_
  refine r_aln rfl rfl rfl ?_
  refine r_gI' H rfl kl_0_0 (fun t4 H => ?_)
  refine r_cmp H rfl rfl (fun H => ?_) (fun H => ?_)
  · refine r_iln rfl rfl rfl ?_
    exact r_reti H rfl rfl ⟨Nat.zero_le _, Nat.zero_le _⟩
  · refine r_iln rfl rfl rfl ?_
    refine r_lc (v := 1103515245) rfl cn_1103515245 ?_
    refine r_mul rfl ?_
    refine r_si (v := 12345) rfl cs_12345 ?_
    refine r_add rfl ?_
    refine r_isn (L' := [some (.ref a0), some (.int a1), some (.int ((ys1_0 * (1103515245 : Int32)) + (12345 : Int32))), some (.int ys1_1), x3]) rfl rfl (Nat.le_of_ble_eq_true rfl) rfl ?_
    refine r_iln rfl rfl rfl ?_
    refine r_lc (v := 2147483647) rfl cn_2147483647 ?_
    refine r_and rfl ?_
    refine r_lc (v := 65536) rfl cn_65536 ?_
    refine r_div H rfl (fun H => ?_)
    refine r_si (v := 128) rfl cs_128 ?_
    refine r_rem H rfl (fun H => ?_)
    refine r_is (L' := [some (.ref a0), some (.int a1), some (.int ((ys1_0 * (1103515245 : Int32)) + (12345 : Int32))), some (.int ys1_1), some (.int (((((ys1_0 * (1103515245 : Int32)) + (12345 : Int32)) &&& (2147483647 : Int32)) / (65536 : Int32)) - ((((ys1_0 * (1103515245 : Int32)) + (12345 : Int32)) &&& (2147483647 : Int32)) / (65536 : Int32)) / (128 : Int32) * (128 : Int32)))]) rfl (Nat.le_of_ble_eq_true rfl) rfl ?_
    refine r_aln rfl rfl rfl ?_
    refine r_gR H rfl kd_0_7 (fun r7 H => ?_)
    refine r_iln rfl rfl rfl ?_
    refine r_il rfl rfl ?_
    refine r_aln rfl rfl rfl ?_
    refine r_iln rfl rfl rfl ?_
    refine r_vtI (rest := [.int (((((ys1_0 * (1103515245 : Int32)) + (12345 : Int32)) &&& (2147483647 : Int32)) / (65536 : Int32)) - ((((ys1_0 * (1103515245 : Int32)) + (12345 : Int32)) &&& (2147483647 : Int32)) / (65536 : Int32)) / (128 : Int32) * (128 : Int32)), .int ys1_1, .ref r7]) H rfl rfl rfl (s_X0_others a0 ys1_1) rfl rfl ⟨rfl, rfl⟩ rfl (fun t8 h9 H => ?_)
    refine r_and rfl ?_
    refine r_sI H rfl (fun H => ?_)
    refine r_inc (v := 1) (L' := [some (.ref a0), some (.int a1), some (.int ((ys1_0 * (1103515245 : Int32)) + (12345 : Int32))), some (.int (ys1_1 + (1 : Int32))), some (.int (((((ys1_0 * (1103515245 : Int32)) + (12345 : Int32)) &&& (2147483647 : Int32)) / (65536 : Int32)) - ((((ys1_0 * (1103515245 : Int32)) + (12345 : Int32)) &&& (2147483647 : Int32)) / (65536 : Int32)) / (128 : Int32) * (128 : Int32)))]) rfl rfl ci_1 rfl ?_
    refine r_go rfl ?_
    have q := K2 _ _ H _ _ rfl
    exact q _
def f_X0_sum (a0 : Nat) (a1 : Nat) : M Int32 := loopK NF (fun (s1 : Int32 × Int32) k2 => bnd (gI 0 0 a0) fun t3 => if t3 ≤ s1.2 then rt s1.1 else bnd (len a1) fun t4 => if t4 ≤ s1.2 then rt s1.1 else bnd (aI a1 s1.2) fun t5 => k2 ((s1.1 + t5), (s1.2 + (1 : Int32)))) ((0 : Int32), (0 : Int32))
set_option maxRecDepth 20000 in
theorem s_X0_sum (a0 : Nat) (a1 : Nat) : Sm eX0_sum [.ref a0, .ref a1] eI (f_X0_sum a0 a1) := by
  intro hp vr hr H
  unfold f_X0_sum at H
  show Rn none 0 0 eX0_sum 0 [some (.ref a0), some (.ref a1), none, none] [] hp (eI vr, hr)
  refine r_ic (v := 0) rfl ci_0 ?_
  refine r_isn (L' := [some (.ref a0), some (.ref a1), some (.int (0 : Int32)), none]) rfl rfl (Nat.le_of_ble_eq_true rfl) rfl ?_
  refine r_ic (v := 0) rfl ci_0 ?_
  refine r_isn (L' := [some (.ref a0), some (.ref a1), some (.int (0 : Int32)), some (.int (0 : Int32))]) rfl rfl (Nat.le_of_ble_eq_true rfl) rfl ?_
  refine (r_loop (P := (fun (s1 : Int32 × Int32) hq => ∀ ys1_0 : Int32, ∀ ys1_1 : Int32, s1 = (ys1_0, ys1_1) → Rn none 0 0 eX0_sum 4 [some (.ref a0), some (.ref a1), some (.int ys1_0), some (.int ys1_1)] [] hq (eI vr, hr))) ?_ NF _ _ H) _ _ rfl
  intro k2 K2 s1 hs1 H ys1_0 ys1_1 es1 
  subst es1
  refine r_iln rfl rfl rfl ?_
  refine r_aln rfl rfl rfl ?_
  refine r_gI' H rfl kl_0_0 (fun t3 H => ?_)
  refine r_cmp H rfl rfl (fun H => ?_) (fun H => ?_)
  · refine r_iln rfl rfl rfl ?_
    exact r_reti H rfl rfl ⟨Nat.zero_le _, Nat.zero_le _⟩
  · refine r_iln rfl rfl rfl ?_
    refine r_aln rfl rfl rfl ?_
    refine r_len H rfl (fun t4 H => ?_)
    refine r_cmp H rfl rfl (fun H => ?_) (fun H => ?_)
    · refine r_iln rfl rfl rfl ?_
      exact r_reti H rfl rfl ⟨Nat.zero_le _, Nat.zero_le _⟩
    · refine r_iln rfl rfl rfl ?_
      refine r_aln rfl rfl rfl ?_
      refine r_iln rfl rfl rfl ?_
      refine r_aI' H rfl (fun t5 H => ?_)
      refine r_add rfl ?_
      refine r_isn (L' := [some (.ref a0), some (.ref a1), some (.int (ys1_0 + t5)), some (.int ys1_1)]) rfl rfl (Nat.le_of_ble_eq_true rfl) rfl ?_
      refine r_inc (v := 1) (L' := [some (.ref a0), some (.ref a1), some (.int (ys1_0 + t5)), some (.int (ys1_1 + (1 : Int32)))]) rfl rfl ci_1 rfl ?_
      refine r_go rfl ?_
      have q := K2 _ _ H _ _ rfl
      exact q
def f_X1_add (a0 : Nat) (a1 : Int32) : M Int32 := bnd (gI 1 0 a0) fun t1 => if (96 : Int32) ≤ t1 then bnd (gI 1 0 a0) fun t2 => rt t2 else bnd (gR 1 1 a0) fun r3 => bnd (gI 1 0 a0) fun t4 => bnd (sI r3 t4 a1) fun _ => bnd (gI 1 0 a0) fun t5 => bnd (pI 1 0 a0 (t5 + (1 : Int32))) fun _ => bnd (gI 1 0 a0) fun t6 => rt t6
set_option maxRecDepth 20000 in
theorem s_X1_add (a0 : Nat) (a1 : Int32) : Sm eX1_add [.ref a0, .int a1] eI (f_X1_add a0 a1) := by
  intro hp vr hr H
  unfold f_X1_add at H
  show Rn none 0 0 eX1_add 0 [some (.ref a0), some (.int a1)] [] hp (eI vr, hr)
  refine r_aln rfl rfl rfl ?_
  refine r_gI' H rfl kl_1_0 (fun t1 H => ?_)
  refine r_bi (v := 96) rfl cb_96 ?_
  refine r_cmp H rfl rfl (fun H => ?_) (fun H => ?_)
  · refine r_aln rfl rfl rfl ?_
    refine r_gI' H rfl kl_1_0 (fun t2 H => ?_)
    exact r_reti H rfl rfl ⟨Nat.zero_le _, Nat.zero_le _⟩
  · refine r_aln rfl rfl rfl ?_
    refine r_gR H rfl kd_1_1 (fun r3 H => ?_)
    refine r_aln rfl rfl rfl ?_
    refine r_gI' H rfl kl_1_0 (fun t4 H => ?_)
    refine r_iln rfl rfl rfl ?_
    refine r_sI H rfl (fun H => ?_)
    refine r_aln rfl rfl rfl ?_
    refine r_dupr rfl ?_
    refine r_gI' H rfl kl_1_0 (fun t5 H => ?_)
    refine r_ic (v := 1) rfl ci_1 ?_
    refine r_add rfl ?_
    refine r_pI H rfl kd_1_0 (fun H => ?_)
    refine r_aln rfl rfl rfl ?_
    refine r_gI' H rfl kl_1_0 (fun t6 H => ?_)
    exact r_reti H rfl rfl ⟨Nat.zero_le _, Nat.zero_le _⟩
def f_X1_digitsBehind (a0 : Int32) : M Int32 := if a0 = (97 : Int32) then rt (2 : Int32) else if a0 = (98 : Int32) then rt (3 : Int32) else if a0 = (103 : Int32) then rt (2 : Int32) else if a0 = (110 : Int32) then rt (1 : Int32) else if a0 = (112 : Int32) then rt (4 : Int32) else if a0 = (119 : Int32) then rt (2 : Int32) else rt (-9 : Int32)
set_option maxRecDepth 20000 in
theorem s_X1_digitsBehind (a0 : Int32) : Sm eX1_digitsBehind [.int a0] eI (f_X1_digitsBehind a0) := by
  intro hp vr hr H
  unfold f_X1_digitsBehind at H
  show Rn none 0 0 eX1_digitsBehind 0 [some (.int a0)] [] hp (eI vr, hr)
  refine r_iln rfl rfl rfl ?_
  rcases Decidable.em (a0 = (97 : Int32)) with h1 | h1
  · rw [if_pos h1] at H; refine r_look (t := 6) rfl (by rw [h1]; rfl) ?_
    refine r_ic (v := 2) rfl ci_2 ?_
    exact r_reti H rfl rfl ⟨Nat.zero_le _, Nat.zero_le _⟩
  · rw [if_neg h1] at H; rcases Decidable.em (a0 = (98 : Int32)) with h2 | h2
    · rw [if_pos h2] at H; refine r_look (t := 4) rfl (by rw [h2]; rfl) ?_
      refine r_ic (v := 3) rfl ci_3 ?_
      exact r_reti H rfl rfl ⟨Nat.zero_le _, Nat.zero_le _⟩
    · rw [if_neg h2] at H; rcases Decidable.em (a0 = (103 : Int32)) with h3 | h3
      · rw [if_pos h3] at H; refine r_look (t := 6) rfl (by rw [h3]; rfl) ?_
        refine r_ic (v := 2) rfl ci_2 ?_
        exact r_reti H rfl rfl ⟨Nat.zero_le _, Nat.zero_le _⟩
      · rw [if_neg h3] at H; rcases Decidable.em (a0 = (110 : Int32)) with h4 | h4
        · rw [if_pos h4] at H; refine r_look (t := 8) rfl (by rw [h4]; rfl) ?_
          refine r_ic (v := 1) rfl ci_1 ?_
          exact r_reti H rfl rfl ⟨Nat.zero_le _, Nat.zero_le _⟩
        · rw [if_neg h4] at H; rcases Decidable.em (a0 = (112 : Int32)) with h5 | h5
          · rw [if_pos h5] at H; refine r_look (t := 2) rfl (by rw [h5]; rfl) ?_
            refine r_ic (v := 4) rfl ci_4 ?_
            exact r_reti H rfl rfl ⟨Nat.zero_le _, Nat.zero_le _⟩
          · rw [if_neg h5] at H; rcases Decidable.em (a0 = (119 : Int32)) with h6 | h6
            · rw [if_pos h6] at H; refine r_look (t := 6) rfl (by rw [h6]; rfl) ?_
              refine r_ic (v := 2) rfl ci_2 ?_
              exact r_reti H rfl rfl ⟨Nat.zero_le _, Nat.zero_le _⟩
            · rw [if_neg h6] at H; refine r_look (t := 10) rfl (by have g0 := sw_ne h1 (v := 97) rfl; have g1 := sw_ne h2 (v := 98) rfl; have g2 := sw_ne h3 (v := 103) rfl; have g3 := sw_ne h4 (v := 110) rfl; have g4 := sw_ne h5 (v := 112) rfl; have g5 := sw_ne h6 (v := 119) rfl; show lookTo [97, 98, 103, 110, 112, 119] _ _ = _; simp only [lookTo, if_neg g0, if_neg g1, if_neg g2, if_neg g3, if_neg g4, if_neg g5]) ?_
              refine r_bi (v := -9) rfl cb_m9 ?_
              exact r_reti H rfl rfl ⟨Nat.zero_le _, Nat.zero_le _⟩
def f_X1_faultOfForm (a0 : Nat) : M Int32 := bnd (gI 1 0 a0) fun t1 => if ¬ t1 = (0 : Int32) then loopK NF (fun (s2 : Int32 × Int32 × Int32) k3 => bnd (gI 1 0 a0) fun t5 => if t5 ≤ s2.2.2 then if s2.2.1 = (0 : Int32) then rt (-9 : Int32) else bnd (gI 1 0 a0) fun t6 => rt t6 else bnd (gR 1 1 a0) fun r7 => bnd (aI r7 s2.2.2) fun t8 => if ¬ s2.2.1 = (0 : Int32) then if s2.1 ≤ (0 : Int32) then if t8 = (59 : Int32) then k3 (s2.1, (0 : Int32), (s2.2.2 + (1 : Int32))) else rt s2.2.2 else if t8 < (48 : Int32) then rt s2.2.2 else if t8 ≤ (57 : Int32) then k3 ((s2.1 + (-1 : Int32)), s2.2.1, (s2.2.2 + (1 : Int32))) else rt s2.2.2 else bnd (f_X1_digitsBehind t8) fun t9 => if ¬ t9 = (-9 : Int32) then k3 (t9, (1 : Int32), (s2.2.2 + (1 : Int32))) else rt s2.2.2) ((0 : Int32), (0 : Int32), (0 : Int32)) else rt (0 : Int32)
set_option maxRecDepth 20000 in
theorem s_X1_faultOfForm (a0 : Nat) : Sm eX1_faultOfForm [.ref a0] eI (f_X1_faultOfForm a0) := by
  intro hp vr hr H
  unfold f_X1_faultOfForm at H
  show Rn none 0 0 eX1_faultOfForm 0 [some (.ref a0), none, none, none, none] [] hp (eI vr, hr)
  refine r_aln rfl rfl rfl ?_
  refine r_gI' H rfl kl_1_0 (fun t1 H => ?_)
  refine r_if H rfl rfl (fun H => ?_) (fun H => ?_)
  · refine r_ic (v := 0) rfl ci_0 ?_
    refine r_isn (L' := [some (.ref a0), some (.int (0 : Int32)), none, none, none]) rfl rfl (Nat.le_of_ble_eq_true rfl) rfl ?_
    refine r_ic (v := 0) rfl ci_0 ?_
    refine r_isn (L' := [some (.ref a0), some (.int (0 : Int32)), some (.int (0 : Int32)), none, none]) rfl rfl (Nat.le_of_ble_eq_true rfl) rfl ?_
    refine r_ic (v := 0) rfl ci_0 ?_
    refine r_isn (L' := [some (.ref a0), some (.int (0 : Int32)), some (.int (0 : Int32)), some (.int (0 : Int32)), none]) rfl rfl (Nat.le_of_ble_eq_true rfl) rfl ?_
    refine (r_loop (P := (fun (s2 : Int32 × Int32 × Int32) hq => ∀ ys2_0 : Int32, ∀ ys2_1 : Int32, ∀ ys2_2 : Int32, s2 = (ys2_0, ys2_1, ys2_2) → ∀ x4 : Option Value, Rn none 0 0 eX1_faultOfForm 11 [some (.ref a0), some (.int ys2_0), some (.int ys2_1), some (.int ys2_2), x4] [] hq (eI vr, hr))) ?_ NF _ _ H) _ _ _ rfl _
    intro k3 K3 s2 hs2 H ys2_0 ys2_1 ys2_2 es2 x4
    subst es2
    refine r_iln rfl rfl rfl ?_
    refine r_aln rfl rfl rfl ?_
    refine r_gI' H rfl kl_1_0 (fun t5 H => ?_)
    refine r_cmp H rfl rfl (fun H => ?_) (fun H => ?_)
    · refine r_iln rfl rfl rfl ?_
      refine r_if H rfl rfl (fun H => ?_) (fun H => ?_)
      · refine r_bi (v := -9) rfl cb_m9 ?_
        exact r_reti H rfl rfl ⟨Nat.zero_le _, Nat.zero_le _⟩
      · refine r_aln rfl rfl rfl ?_
        refine r_gI' H rfl kl_1_0 (fun t6 H => ?_)
        refine r_go rfl ?_
        exact r_reti H rfl rfl ⟨Nat.zero_le _, Nat.zero_le _⟩
    · refine r_aln rfl rfl rfl ?_
      refine r_gR H rfl kd_1_1 (fun r7 H => ?_)
      refine r_iln rfl rfl rfl ?_
      refine r_aI' H rfl (fun t8 H => ?_)
      refine r_is (L' := [some (.ref a0), some (.int ys2_0), some (.int ys2_1), some (.int ys2_2), some (.int t8)]) rfl (Nat.le_of_ble_eq_true rfl) rfl ?_
      refine r_iln rfl rfl rfl ?_
      refine r_if H rfl rfl (fun H => ?_) (fun H => ?_)
      · refine r_iln rfl rfl rfl ?_
        refine r_if H rfl rfl (fun H => ?_) (fun H => ?_)
        · refine r_il rfl rfl ?_
          refine r_bi (v := 59) rfl cb_59 ?_
          refine r_cmp H rfl rfl (fun H => ?_) (fun H => ?_)
          · refine r_ic (v := 0) rfl ci_0 ?_
            refine r_isn (L' := [some (.ref a0), some (.int ys2_0), some (.int (0 : Int32)), some (.int ys2_2), some (.int t8)]) rfl rfl (Nat.le_of_ble_eq_true rfl) rfl ?_
            refine r_inc (v := 1) (L' := [some (.ref a0), some (.int ys2_0), some (.int (0 : Int32)), some (.int (ys2_2 + (1 : Int32))), some (.int t8)]) rfl rfl ci_1 rfl ?_
            refine r_go rfl ?_
            have q := K3 _ _ H _ _ _ rfl
            exact q _
          · refine r_iln rfl rfl rfl ?_
            exact r_reti H rfl rfl ⟨Nat.zero_le _, Nat.zero_le _⟩
        · refine r_il rfl rfl ?_
          refine r_bi (v := 48) rfl cb_48 ?_
          refine r_cmp H rfl rfl (fun H => ?_) (fun H => ?_)
          · refine r_iln rfl rfl rfl ?_
            exact r_reti H rfl rfl ⟨Nat.zero_le _, Nat.zero_le _⟩
          · refine r_il rfl rfl ?_
            refine r_bi (v := 57) rfl cb_57 ?_
            refine r_cmp H rfl rfl (fun H => ?_) (fun H => ?_)
            · refine r_inc (v := -1) (L' := [some (.ref a0), some (.int (ys2_0 + (-1 : Int32))), some (.int ys2_1), some (.int ys2_2), some (.int t8)]) rfl rfl ci_m1 rfl ?_
              refine r_go rfl ?_
              refine r_inc (v := 1) (L' := [some (.ref a0), some (.int (ys2_0 + (-1 : Int32))), some (.int ys2_1), some (.int (ys2_2 + (1 : Int32))), some (.int t8)]) rfl rfl ci_1 rfl ?_
              refine r_go rfl ?_
              have q := K3 _ _ H _ _ _ rfl
              exact q _
            · refine r_iln rfl rfl rfl ?_
              exact r_reti H rfl rfl ⟨Nat.zero_le _, Nat.zero_le _⟩
      · refine r_il rfl rfl ?_
        refine r_stI (rest := []) H rfl rfl (s_X1_digitsBehind t8) rfl rfl ⟨rfl, rfl⟩ rfl (fun t9 h10 H => ?_)
        refine r_isn (L' := [some (.ref a0), some (.int t9), some (.int ys2_1), some (.int ys2_2), some (.int t8)]) rfl rfl (Nat.le_of_ble_eq_true rfl) rfl ?_
        refine r_iln rfl rfl rfl ?_
        refine r_bi (v := -9) rfl cb_m9 ?_
        refine r_cmp H rfl rfl (fun H => ?_) (fun H => ?_)
        · refine r_ic (v := 1) rfl ci_1 ?_
          refine r_isn (L' := [some (.ref a0), some (.int t9), some (.int (1 : Int32)), some (.int ys2_2), some (.int t8)]) rfl rfl (Nat.le_of_ble_eq_true rfl) rfl ?_
          refine r_go rfl ?_
          refine r_inc (v := 1) (L' := [some (.ref a0), some (.int t9), some (.int (1 : Int32)), some (.int (ys2_2 + (1 : Int32))), some (.int t8)]) rfl rfl ci_1 rfl ?_
          refine r_go rfl ?_
          have q := K3 _ _ H _ _ _ rfl
          exact q _
        · refine r_iln rfl rfl rfl ?_
          exact r_reti H rfl rfl ⟨Nat.zero_le _, Nat.zero_le _⟩
  · refine r_ic (v := 0) rfl ci_0 ?_
    exact r_reti H rfl rfl ⟨Nat.zero_le _, Nat.zero_le _⟩
def f_X1_digit (a0 : Nat) (a1 : Int32) : M Int32 := bnd (gI 1 0 a0) fun t1 => if t1 ≤ a1 then rt (0 : Int32) else bnd (gR 1 1 a0) fun r2 => bnd (aI r2 a1) fun t3 => rt (t3 - (48 : Int32))
set_option maxRecDepth 20000 in
theorem s_X1_digit (a0 : Nat) (a1 : Int32) : Sm eX1_digit [.ref a0, .int a1] eI (f_X1_digit a0 a1) := by
  intro hp vr hr H
  unfold f_X1_digit at H
  show Rn none 0 0 eX1_digit 0 [some (.ref a0), some (.int a1)] [] hp (eI vr, hr)
  refine r_iln rfl rfl rfl ?_
  refine r_aln rfl rfl rfl ?_
  refine r_gI' H rfl kl_1_0 (fun t1 H => ?_)
  refine r_cmp H rfl rfl (fun H => ?_) (fun H => ?_)
  · refine r_ic (v := 0) rfl ci_0 ?_
    exact r_reti H rfl rfl ⟨Nat.zero_le _, Nat.zero_le _⟩
  · refine r_aln rfl rfl rfl ?_
    refine r_gR H rfl kd_1_1 (fun r2 H => ?_)
    refine r_iln rfl rfl rfl ?_
    refine r_aI' H rfl (fun t3 H => ?_)
    refine r_bi (v := 48) rfl cb_48 ?_
    refine r_sub rfl ?_
    refine r_go rfl ?_
    exact r_reti H rfl rfl ⟨Nat.zero_le _, Nat.zero_le _⟩
def f_X1_twoDigits (a0 : Nat) (a1 : Int32) : M Int32 := bnd (cv 1 a0 (f_X1_digit a0 a1)) fun t1 => bnd (cv 1 a0 (f_X1_digit a0 (a1 + (1 : Int32)))) fun t3 => rt (((10 : Int32) * t1) + t3)
set_option maxRecDepth 20000 in
theorem s_X1_twoDigits (a0 : Nat) (a1 : Int32) : Sm eX1_twoDigits [.ref a0, .int a1] eI (f_X1_twoDigits a0 a1) := by
  intro hp vr hr H
  unfold f_X1_twoDigits at H
  show Rn none 0 0 eX1_twoDigits 0 [some (.ref a0), some (.int a1)] [] hp (eI vr, hr)
  refine r_bi (v := 10) rfl cb_10 ?_
  refine r_aln rfl rfl rfl ?_
  refine r_iln rfl rfl rfl ?_
  refine r_vtI (rest := [.int (10 : Int32)]) H rfl rfl rfl (s_X1_digit a0 a1) rfl rfl ⟨rfl, rfl⟩ rfl (fun t1 h2 H => ?_)
  refine r_mul rfl ?_
  refine r_aln rfl rfl rfl ?_
  refine r_iln rfl rfl rfl ?_
  refine r_ic (v := 1) rfl ci_1 ?_
  refine r_add rfl ?_
  refine r_vtI (rest := [.int ((10 : Int32) * t1)]) H rfl rfl rfl (s_X1_digit a0 (a1 + (1 : Int32))) rfl rfl ⟨rfl, rfl⟩ rfl (fun t3 h4 H => ?_)
  refine r_add rfl ?_
  exact r_reti H rfl rfl ⟨Nat.zero_le _, Nat.zero_le _⟩
def f_X1_onePersonMore (a0 : Nat) (a1 : Int32) (a2 : Nat) : M Int32 := bnd (cv 1 a0 (f_X1_digit a0 (a1 + (1 : Int32)))) fun t1 => if (6 : Int32) ≤ t1 then retZ (0 : Int32) else bnd (gI 0 0 a2) fun t3 => if t3 < (7 : Int32) then bnd (cv 1 a0 (f_X1_digit a0 (a1 + (2 : Int32)))) fun t4 => bnd (cv 1 a0 (f_X1_twoDigits a0 (a1 + (3 : Int32)))) fun t6 => bnd (cv 0 a2 (f_X0_add a2 t1 t4 t6)) fun t8 => retZ (1 : Int32) else retZ (0 : Int32)
set_option maxRecDepth 20000 in
theorem s_X1_onePersonMore (a0 : Nat) (a1 : Int32) (a2 : Nat) : Sm eX1_onePersonMore [.ref a0, .int a1, .ref a2] eI (f_X1_onePersonMore a0 a1 a2) := by
  intro hp vr hr H
  unfold f_X1_onePersonMore at H
  show Rn none 0 0 eX1_onePersonMore 0 [some (.ref a0), some (.int a1), some (.ref a2), none] [] hp (eI vr, hr)
  refine r_aln rfl rfl rfl ?_
  refine r_iln rfl rfl rfl ?_
  refine r_ic (v := 1) rfl ci_1 ?_
  refine r_add rfl ?_
  refine r_vtI (rest := []) H rfl rfl rfl (s_X1_digit a0 (a1 + (1 : Int32))) rfl rfl ⟨rfl, rfl⟩ rfl (fun t1 h2 H => ?_)
  refine r_isn (L' := [some (.ref a0), some (.int a1), some (.ref a2), some (.int t1)]) rfl rfl (Nat.le_of_ble_eq_true rfl) rfl ?_
  refine r_iln rfl rfl rfl ?_
  refine r_bi (v := 6) rfl cb_6 ?_
  refine r_cmp H rfl rfl (fun H => ?_) (fun H => ?_)
  · refine r_ic (v := 0) rfl ci_0 ?_
    exact r_retz H rfl rfl ⟨Nat.zero_le _, Nat.zero_le _⟩
  · refine r_aln rfl rfl rfl ?_
    refine r_gI' H rfl kl_0_0 (fun t3 H => ?_)
    refine r_bi (v := 7) rfl cb_7 ?_
    refine r_cmp H rfl rfl (fun H => ?_) (fun H => ?_)
    · refine r_aln rfl rfl rfl ?_
      refine r_iln rfl rfl rfl ?_
      refine r_aln rfl rfl rfl ?_
      refine r_iln rfl rfl rfl ?_
      refine r_ic (v := 2) rfl ci_2 ?_
      refine r_add rfl ?_
      refine r_vtI (rest := [.int t1, .ref a2]) H rfl rfl rfl (s_X1_digit a0 (a1 + (2 : Int32))) rfl rfl ⟨rfl, rfl⟩ rfl (fun t4 h5 H => ?_)
      refine r_aln rfl rfl rfl ?_
      refine r_iln rfl rfl rfl ?_
      refine r_ic (v := 3) rfl ci_3 ?_
      refine r_add rfl ?_
      refine r_vtI (rest := [.int t4, .int t1, .ref a2]) H rfl rfl rfl (s_X1_twoDigits a0 (a1 + (3 : Int32))) rfl rfl ⟨rfl, rfl⟩ rfl (fun t6 h7 H => ?_)
      refine r_vtI (rest := []) H rfl rfl rfl (s_X0_add a2 t1 t4 t6) rfl rfl ⟨rfl, rfl⟩ rfl (fun t8 h9 H => ?_)
      refine r_popi rfl ?_
      refine r_ic (v := 1) rfl ci_1 ?_
      exact r_retz H rfl rfl ⟨Nat.zero_le _, Nat.zero_le _⟩
    · refine r_ic (v := 0) rfl ci_0 ?_
      exact r_retz H rfl rfl ⟨Nat.zero_le _, Nat.zero_le _⟩
def f_X1_oneAsks (a0 : Nat) (a1 : Int32) (a2 : Int32) : M Int32 := bnd (cv 0 a0 (f_X0_has a0 a1)) fun t1 => if t1 = (0 : Int32) then retZ (0 : Int32) else bnd (cv 0 a0 (f_X0_has a0 a2)) fun t3 => if t3 = (0 : Int32) then retZ (0 : Int32) else if ¬ a1 = a2 then bnd (gR 0 7 a0) fun r5 => bnd (aI r5 a1) fun t6 => bnd (sI r5 a1 (t6 ^^^ ((1 : Int32) <<< (a2 &&& (31 : Int32))))) fun _ => retZ (1 : Int32) else retZ (0 : Int32)
set_option maxRecDepth 20000 in
theorem s_X1_oneAsks (a0 : Nat) (a1 : Int32) (a2 : Int32) : Sm eX1_oneAsks [.ref a0, .int a1, .int a2] eI (f_X1_oneAsks a0 a1 a2) := by
  intro hp vr hr H
  unfold f_X1_oneAsks at H
  show Rn none 0 0 eX1_oneAsks 0 [some (.ref a0), some (.int a1), some (.int a2)] [] hp (eI vr, hr)
  refine r_aln rfl rfl rfl ?_
  refine r_iln rfl rfl rfl ?_
  refine r_vtI (rest := []) H rfl rfl rfl (s_X0_has a0 a1) rfl rfl ⟨rfl, rfl⟩ rfl (fun t1 h2 H => ?_)
  refine r_if H rfl rfl (fun H => ?_) (fun H => ?_)
  · refine r_ic (v := 0) rfl ci_0 ?_
    exact r_retz H rfl rfl ⟨Nat.zero_le _, Nat.zero_le _⟩
  · refine r_aln rfl rfl rfl ?_
    refine r_iln rfl rfl rfl ?_
    refine r_vtI (rest := []) H rfl rfl rfl (s_X0_has a0 a2) rfl rfl ⟨rfl, rfl⟩ rfl (fun t3 h4 H => ?_)
    refine r_if H rfl rfl (fun H => ?_) (fun H => ?_)
    · refine r_ic (v := 0) rfl ci_0 ?_
      exact r_retz H rfl rfl ⟨Nat.zero_le _, Nat.zero_le _⟩
    · refine r_iln rfl rfl rfl ?_
      refine r_iln rfl rfl rfl ?_
      refine r_cmp H rfl rfl (fun H => ?_) (fun H => ?_)
      · refine r_aln rfl rfl rfl ?_
        refine r_gR H rfl kd_0_7 (fun r5 H => ?_)
        refine r_iln rfl rfl rfl ?_
        refine r_dup2 rfl ?_
        refine r_aI' H rfl (fun t6 H => ?_)
        refine r_ic (v := 1) rfl ci_1 ?_
        refine r_iln rfl rfl rfl ?_
        refine r_shl rfl ?_
        refine r_xor rfl ?_
        refine r_sI H rfl (fun H => ?_)
        refine r_ic (v := 1) rfl ci_1 ?_
        exact r_retz H rfl rfl ⟨Nat.zero_le _, Nat.zero_le _⟩
      · refine r_ic (v := 0) rfl ci_0 ?_
        exact r_retz H rfl rfl ⟨Nat.zero_le _, Nat.zero_le _⟩
def f_X1_oneBelieves (a0 : Nat) (a1 : Int32) (a2 : Int32) : M Int32 := bnd (cv 0 a0 (f_X0_has a0 a1)) fun t1 => if ¬ t1 = (0 : Int32) then bnd (gR 0 6 a0) fun r3 => bnd (sI r3 a1 a2) fun _ => retZ (1 : Int32) else retZ (0 : Int32)
set_option maxRecDepth 20000 in
theorem s_X1_oneBelieves (a0 : Nat) (a1 : Int32) (a2 : Int32) : Sm eX1_oneBelieves [.ref a0, .int a1, .int a2] eI (f_X1_oneBelieves a0 a1 a2) := by
  intro hp vr hr H
  unfold f_X1_oneBelieves at H
  show Rn none 0 0 eX1_oneBelieves 0 [some (.ref a0), some (.int a1), some (.int a2)] [] hp (eI vr, hr)
  refine r_aln rfl rfl rfl ?_
  refine r_iln rfl rfl rfl ?_
  refine r_vtI (rest := []) H rfl rfl rfl (s_X0_has a0 a1) rfl rfl ⟨rfl, rfl⟩ rfl (fun t1 h2 H => ?_)
  refine r_if H rfl rfl (fun H => ?_) (fun H => ?_)
  · refine r_aln rfl rfl rfl ?_
    refine r_gR H rfl kd_0_6 (fun r3 H => ?_)
    refine r_iln rfl rfl rfl ?_
    refine r_iln rfl rfl rfl ?_
    refine r_sI H rfl (fun H => ?_)
    refine r_ic (v := 1) rfl ci_1 ?_
    exact r_retz H rfl rfl ⟨Nat.zero_le _, Nat.zero_le _⟩
  · refine r_ic (v := 0) rfl ci_0 ?_
    exact r_retz H rfl rfl ⟨Nat.zero_le _, Nat.zero_le _⟩
def f_X6_isPlace (a0 : Int32) : M Int32 := if a0 < (0 : Int32) then retZ (0 : Int32) else if (8 : Int32) ≤ a0 then retZ (0 : Int32) else retZ (1 : Int32)
set_option maxRecDepth 20000 in
theorem s_X6_isPlace (a0 : Int32) : Sm eX6_isPlace [.int a0] eI (f_X6_isPlace a0) := by
  intro hp vr hr H
  unfold f_X6_isPlace at H
  show Rn none 0 0 eX6_isPlace 0 [some (.int a0)] [] hp (eI vr, hr)
  refine r_iln rfl rfl rfl ?_
  refine r_if H rfl rfl (fun H => ?_) (fun H => ?_)
  · refine r_ic (v := 0) rfl ci_0 ?_
    exact r_retz H rfl rfl ⟨Nat.zero_le _, Nat.zero_le _⟩
  · refine r_iln rfl rfl rfl ?_
    refine r_bi (v := 8) rfl cb_8 ?_
    refine r_cmp H rfl rfl (fun H => ?_) (fun H => ?_)
    · refine r_ic (v := 0) rfl ci_0 ?_
      exact r_retz H rfl rfl ⟨Nat.zero_le _, Nat.zero_le _⟩
    · refine r_ic (v := 1) rfl ci_1 ?_
      refine r_go rfl ?_
      exact r_retz H rfl rfl ⟨Nat.zero_le _, Nat.zero_le _⟩
def f_X4_join (a0 : Nat) (a1 : Int32) (a2 : Int32) : M Int32 := bnd (gR 3 0 a0) fun r1 => bnd (aI r1 a1) fun t2 => bnd (sI r1 a1 (t2 ^^^ ((1 : Int32) <<< (a2 &&& (31 : Int32))))) fun _ => bnd (gR 3 0 a0) fun r3 => bnd (aI r3 a2) fun t4 => bnd (sI r3 a2 (t4 ^^^ ((1 : Int32) <<< (a1 &&& (31 : Int32))))) fun _ => bnd (gR 3 0 a0) fun r5 => bnd (aI r5 a1) fun t6 => rt ((t6 >>> (a2 &&& (31 : Int32))) &&& (1 : Int32))
set_option maxRecDepth 20000 in
theorem s_X4_join (a0 : Nat) (a1 : Int32) (a2 : Int32) : Sm eX4_join [.ref a0, .int a1, .int a2] eI (f_X4_join a0 a1 a2) := by
  intro hp vr hr H
  unfold f_X4_join at H
  show Rn none 0 0 eX4_join 0 [some (.ref a0), some (.int a1), some (.int a2)] [] hp (eI vr, hr)
  refine r_aln rfl rfl rfl ?_
  refine r_gR H rfl kd_3_0 (fun r1 H => ?_)
  refine r_iln rfl rfl rfl ?_
  refine r_dup2 rfl ?_
  refine r_aI' H rfl (fun t2 H => ?_)
  refine r_ic (v := 1) rfl ci_1 ?_
  refine r_iln rfl rfl rfl ?_
  refine r_shl rfl ?_
  refine r_xor rfl ?_
  refine r_sI H rfl (fun H => ?_)
  refine r_aln rfl rfl rfl ?_
  refine r_gR H rfl kd_3_0 (fun r3 H => ?_)
  refine r_iln rfl rfl rfl ?_
  refine r_dup2 rfl ?_
  refine r_aI' H rfl (fun t4 H => ?_)
  refine r_ic (v := 1) rfl ci_1 ?_
  refine r_iln rfl rfl rfl ?_
  refine r_shl rfl ?_
  refine r_xor rfl ?_
  refine r_sI H rfl (fun H => ?_)
  refine r_aln rfl rfl rfl ?_
  refine r_gR H rfl kd_3_0 (fun r5 H => ?_)
  refine r_iln rfl rfl rfl ?_
  refine r_aI' H rfl (fun t6 H => ?_)
  refine r_iln rfl rfl rfl ?_
  refine r_shr rfl ?_
  refine r_ic (v := 1) rfl ci_1 ?_
  refine r_and rfl ?_
  exact r_reti H rfl rfl ⟨Nat.zero_le _, Nat.zero_le _⟩
def f_X1_wayGoes (a0 : Nat) (a1 : Int32) (a2 : Int32) : M Int32 := bnd (f_X6_isPlace a1) fun t1 => if t1 = (0 : Int32) then retZ (0 : Int32) else bnd (f_X6_isPlace a2) fun t3 => if t3 = (0 : Int32) then retZ (0 : Int32) else if ¬ a1 = a2 then bnd (cv 3 a0 (f_X4_join a0 a1 a2)) fun t5 => retZ (1 : Int32) else retZ (0 : Int32)
set_option maxRecDepth 20000 in
theorem s_X1_wayGoes (a0 : Nat) (a1 : Int32) (a2 : Int32) : Sm eX1_wayGoes [.ref a0, .int a1, .int a2] eI (f_X1_wayGoes a0 a1 a2) := by
  intro hp vr hr H
  unfold f_X1_wayGoes at H
  show Rn none 0 0 eX1_wayGoes 0 [some (.ref a0), some (.int a1), some (.int a2)] [] hp (eI vr, hr)
  refine r_iln rfl rfl rfl ?_
  refine r_stI (rest := []) H rfl rfl (s_X6_isPlace a1) rfl rfl ⟨rfl, rfl⟩ rfl (fun t1 h2 H => ?_)
  refine r_if H rfl rfl (fun H => ?_) (fun H => ?_)
  · refine r_ic (v := 0) rfl ci_0 ?_
    exact r_retz H rfl rfl ⟨Nat.zero_le _, Nat.zero_le _⟩
  · refine r_iln rfl rfl rfl ?_
    refine r_stI (rest := []) H rfl rfl (s_X6_isPlace a2) rfl rfl ⟨rfl, rfl⟩ rfl (fun t3 h4 H => ?_)
    refine r_if H rfl rfl (fun H => ?_) (fun H => ?_)
    · refine r_ic (v := 0) rfl ci_0 ?_
      exact r_retz H rfl rfl ⟨Nat.zero_le _, Nat.zero_le _⟩
    · refine r_iln rfl rfl rfl ?_
      refine r_iln rfl rfl rfl ?_
      refine r_cmp H rfl rfl (fun H => ?_) (fun H => ?_)
      · refine r_aln rfl rfl rfl ?_
        refine r_iln rfl rfl rfl ?_
        refine r_iln rfl rfl rfl ?_
        refine r_vtI (rest := []) H rfl rfl rfl (s_X4_join a0 a1 a2) rfl rfl ⟨rfl, rfl⟩ rfl (fun t5 h6 H => ?_)
        refine r_popi rfl ?_
        refine r_ic (v := 1) rfl ci_1 ?_
        exact r_retz H rfl rfl ⟨Nat.zero_le _, Nat.zero_le _⟩
      · refine r_ic (v := 0) rfl ci_0 ?_
        exact r_retz H rfl rfl ⟨Nat.zero_le _, Nat.zero_le _⟩
def f_X1_thingHangs (a0 : Nat) (a1 : Int32) (a2 : Int32) : M Int32 := bnd (f_X6_isPlace a1) fun t1 => if t1 = (0 : Int32) then retZ (0 : Int32) else if a2 < (4 : Int32) then bnd (gR 3 1 a0) fun r3 => bnd (sI r3 a1 a2) fun _ => retZ (1 : Int32) else retZ (0 : Int32)
set_option maxRecDepth 20000 in
theorem s_X1_thingHangs (a0 : Nat) (a1 : Int32) (a2 : Int32) : Sm eX1_thingHangs [.ref a0, .int a1, .int a2] eI (f_X1_thingHangs a0 a1 a2) := by
  intro hp vr hr H
  unfold f_X1_thingHangs at H
  show Rn none 0 0 eX1_thingHangs 0 [some (.ref a0), some (.int a1), some (.int a2)] [] hp (eI vr, hr)
  refine r_iln rfl rfl rfl ?_
  refine r_stI (rest := []) H rfl rfl (s_X6_isPlace a1) rfl rfl ⟨rfl, rfl⟩ rfl (fun t1 h2 H => ?_)
  refine r_if H rfl rfl (fun H => ?_) (fun H => ?_)
  · refine r_ic (v := 0) rfl ci_0 ?_
    exact r_retz H rfl rfl ⟨Nat.zero_le _, Nat.zero_le _⟩
  · refine r_iln rfl rfl rfl ?_
    refine r_ic (v := 4) rfl ci_4 ?_
    refine r_cmp H rfl rfl (fun H => ?_) (fun H => ?_)
    · refine r_aln rfl rfl rfl ?_
      refine r_gR H rfl kd_3_1 (fun r3 H => ?_)
      refine r_iln rfl rfl rfl ?_
      refine r_iln rfl rfl rfl ?_
      refine r_sI H rfl (fun H => ?_)
      refine r_ic (v := 1) rfl ci_1 ?_
      exact r_retz H rfl rfl ⟨Nat.zero_le _, Nat.zero_le _⟩
    · refine r_ic (v := 0) rfl ci_0 ?_
      exact r_retz H rfl rfl ⟨Nat.zero_le _, Nat.zero_le _⟩
def f_X1_weeksPass (a0 : Nat) (a1 : Int32) : M Int32 := bnd (gI 0 1 a0) fun t1 => if (t1 + a1) ≤ (999 : Int32) then loopK NF (fun (s2 : Int32) k3 => if a1 ≤ s2 then retZ (1 : Int32) else bnd (cv 0 a0 (f_X0_passWeek a0)) fun t4 => k3 (s2 + (1 : Int32))) (0 : Int32) else retZ (0 : Int32)
set_option maxRecDepth 20000 in
theorem s_X1_weeksPass (a0 : Nat) (a1 : Int32) : Sm eX1_weeksPass [.ref a0, .int a1] eI (f_X1_weeksPass a0 a1) := by
  intro hp vr hr H
  unfold f_X1_weeksPass at H
  show Rn none 0 0 eX1_weeksPass 0 [some (.ref a0), some (.int a1), none] [] hp (eI vr, hr)
  refine r_aln rfl rfl rfl ?_
  refine r_gI' H rfl kl_0_1 (fun t1 H => ?_)
  refine r_iln rfl rfl rfl ?_
  refine r_add rfl ?_
  refine r_si (v := 999) rfl cs_999 ?_
  refine r_cmp H rfl rfl (fun H => ?_) (fun H => ?_)
  · refine r_ic (v := 0) rfl ci_0 ?_
    refine r_isn (L' := [some (.ref a0), some (.int a1), some (.int (0 : Int32))]) rfl rfl (Nat.le_of_ble_eq_true rfl) rfl ?_
    refine (r_loop (P := (fun (s2 : Int32) hq => Rn none 0 0 eX1_weeksPass 10 [some (.ref a0), some (.int a1), some (.int s2)] [] hq (eI vr, hr))) ?_ NF _ _ H)
    intro k3 K3 s2 hs2 H 
    refine r_iln rfl rfl rfl ?_
    refine r_iln rfl rfl rfl ?_
    refine r_cmp H rfl rfl (fun H => ?_) (fun H => ?_)
    · refine r_ic (v := 1) rfl ci_1 ?_
      exact r_retz H rfl rfl ⟨Nat.zero_le _, Nat.zero_le _⟩
    · refine r_aln rfl rfl rfl ?_
      refine r_vtI (rest := []) H rfl rfl rfl (s_X0_passWeek a0) rfl rfl ⟨rfl, rfl⟩ rfl (fun t4 h5 H => ?_)
      refine r_popi rfl ?_
      refine r_inc (v := 1) (L' := [some (.ref a0), some (.int a1), some (.int (s2 + (1 : Int32)))]) rfl rfl ci_1 rfl ?_
      refine r_go rfl ?_
      have q := K3 _ _ H
      exact q
  · refine r_ic (v := 0) rfl ci_0 ?_
    exact r_retz H rfl rfl ⟨Nat.zero_le _, Nat.zero_le _⟩
def f_X1_comesTrue (a0 : Nat) (a1 : Int32) (a2 : Nat) : M Int32 := bnd (gR 1 1 a0) fun r1 => bnd (aI r1 a1) fun t2 => if t2 = (97 : Int32) then bnd (gR 4 0 a2) fun r4 => bnd (cv 1 a0 (f_X1_digit a0 (a1 + (1 : Int32)))) fun t5 => bnd (cv 1 a0 (f_X1_digit a0 (a1 + (2 : Int32)))) fun t7 => bnd (f_X1_oneAsks r4 t5 t7) fun t9 => retZ t9 else if t2 = (98 : Int32) then bnd (gR 4 0 a2) fun r12 => bnd (cv 1 a0 (f_X1_digit a0 (a1 + (1 : Int32)))) fun t13 => bnd (cv 1 a0 (f_X1_twoDigits a0 (a1 + (2 : Int32)))) fun t15 => bnd (f_X1_oneBelieves r12 t13 t15) fun t17 => retZ t17 else if t2 = (103 : Int32) then bnd (gR 4 1 a2) fun r20 => bnd (cv 1 a0 (f_X1_digit a0 (a1 + (1 : Int32)))) fun t21 => bnd (cv 1 a0 (f_X1_digit a0 (a1 + (2 : Int32)))) fun t23 => bnd (f_X1_thingHangs r20 t21 t23) fun t25 => retZ t25 else if t2 = (112 : Int32) then bnd (gR 4 0 a2) fun r28 => bnd (cv 1 a0 (f_X1_onePersonMore a0 a1 r28)) fun t29 => retZ t29 else if t2 = (119 : Int32) then bnd (gR 4 1 a2) fun r32 => bnd (cv 1 a0 (f_X1_digit a0 (a1 + (1 : Int32)))) fun t33 => bnd (cv 1 a0 (f_X1_digit a0 (a1 + (2 : Int32)))) fun t35 => bnd (f_X1_wayGoes r32 t33 t35) fun t37 => retZ t37 else bnd (gR 4 0 a2) fun r39 => bnd (cv 1 a0 (f_X1_digit a0 (a1 + (1 : Int32)))) fun t40 => bnd (f_X1_weeksPass r39 t40) fun t42 => retZ t42
set_option maxRecDepth 20000 in
theorem s_X1_comesTrue (a0 : Nat) (a1 : Int32) (a2 : Nat) : Sm eX1_comesTrue [.ref a0, .int a1, .ref a2] eI (f_X1_comesTrue a0 a1 a2) := by
  intro hp vr hr H
  unfold f_X1_comesTrue at H
  show Rn none 0 0 eX1_comesTrue 0 [some (.ref a0), some (.int a1), some (.ref a2)] [] hp (eI vr, hr)
  refine r_aln rfl rfl rfl ?_
  refine r_gR H rfl kd_1_1 (fun r1 H => ?_)
  refine r_iln rfl rfl rfl ?_
  refine r_aI' H rfl (fun t2 H => ?_)
  rcases Decidable.em (t2 = (97 : Int32)) with h3 | h3
  · rw [if_pos h3] at H; refine r_look (t := 11) rfl (by rw [h3]; rfl) ?_
    refine r_aln rfl rfl rfl ?_
    refine r_gR H rfl kd_4_0 (fun r4 H => ?_)
    refine r_aln rfl rfl rfl ?_
    refine r_iln rfl rfl rfl ?_
    refine r_ic (v := 1) rfl ci_1 ?_
    refine r_add rfl ?_
    refine r_vtI (rest := [.ref r4]) H rfl rfl rfl (s_X1_digit a0 (a1 + (1 : Int32))) rfl rfl ⟨rfl, rfl⟩ rfl (fun t5 h6 H => ?_)
    refine r_aln rfl rfl rfl ?_
    refine r_iln rfl rfl rfl ?_
    refine r_ic (v := 2) rfl ci_2 ?_
    refine r_add rfl ?_
    refine r_vtI (rest := [.int t5, .ref r4]) H rfl rfl rfl (s_X1_digit a0 (a1 + (2 : Int32))) rfl rfl ⟨rfl, rfl⟩ rfl (fun t7 h8 H => ?_)
    refine r_stI (rest := []) H rfl rfl (s_X1_oneAsks r4 t5 t7) rfl rfl ⟨rfl, rfl⟩ rfl (fun t9 h10 H => ?_)
    exact r_retz H rfl rfl ⟨Nat.zero_le _, Nat.zero_le _⟩
  · rw [if_neg h3] at H; rcases Decidable.em (t2 = (98 : Int32)) with h11 | h11
    · rw [if_pos h11] at H; refine r_look (t := 25) rfl (by rw [h11]; rfl) ?_
      refine r_aln rfl rfl rfl ?_
      refine r_gR H rfl kd_4_0 (fun r12 H => ?_)
      refine r_aln rfl rfl rfl ?_
      refine r_iln rfl rfl rfl ?_
      refine r_ic (v := 1) rfl ci_1 ?_
      refine r_add rfl ?_
      refine r_vtI (rest := [.ref r12]) H rfl rfl rfl (s_X1_digit a0 (a1 + (1 : Int32))) rfl rfl ⟨rfl, rfl⟩ rfl (fun t13 h14 H => ?_)
      refine r_aln rfl rfl rfl ?_
      refine r_iln rfl rfl rfl ?_
      refine r_ic (v := 2) rfl ci_2 ?_
      refine r_add rfl ?_
      refine r_vtI (rest := [.int t13, .ref r12]) H rfl rfl rfl (s_X1_twoDigits a0 (a1 + (2 : Int32))) rfl rfl ⟨rfl, rfl⟩ rfl (fun t15 h16 H => ?_)
      refine r_stI (rest := []) H rfl rfl (s_X1_oneBelieves r12 t13 t15) rfl rfl ⟨rfl, rfl⟩ rfl (fun t17 h18 H => ?_)
      exact r_retz H rfl rfl ⟨Nat.zero_le _, Nat.zero_le _⟩
    · rw [if_neg h11] at H; rcases Decidable.em (t2 = (103 : Int32)) with h19 | h19
      · rw [if_pos h19] at H; refine r_look (t := 53) rfl (by rw [h19]; rfl) ?_
        refine r_aln rfl rfl rfl ?_
        refine r_gR H rfl kd_4_1 (fun r20 H => ?_)
        refine r_aln rfl rfl rfl ?_
        refine r_iln rfl rfl rfl ?_
        refine r_ic (v := 1) rfl ci_1 ?_
        refine r_add rfl ?_
        refine r_vtI (rest := [.ref r20]) H rfl rfl rfl (s_X1_digit a0 (a1 + (1 : Int32))) rfl rfl ⟨rfl, rfl⟩ rfl (fun t21 h22 H => ?_)
        refine r_aln rfl rfl rfl ?_
        refine r_iln rfl rfl rfl ?_
        refine r_ic (v := 2) rfl ci_2 ?_
        refine r_add rfl ?_
        refine r_vtI (rest := [.int t21, .ref r20]) H rfl rfl rfl (s_X1_digit a0 (a1 + (2 : Int32))) rfl rfl ⟨rfl, rfl⟩ rfl (fun t23 h24 H => ?_)
        refine r_stI (rest := []) H rfl rfl (s_X1_thingHangs r20 t21 t23) rfl rfl ⟨rfl, rfl⟩ rfl (fun t25 h26 H => ?_)
        exact r_retz H rfl rfl ⟨Nat.zero_le _, Nat.zero_le _⟩
      · rw [if_neg h19] at H; rcases Decidable.em (t2 = (112 : Int32)) with h27 | h27
        · rw [if_pos h27] at H; refine r_look (t := 5) rfl (by rw [h27]; rfl) ?_
          refine r_aln rfl rfl rfl ?_
          refine r_iln rfl rfl rfl ?_
          refine r_aln rfl rfl rfl ?_
          refine r_gR H rfl kd_4_0 (fun r28 H => ?_)
          refine r_vtI (rest := []) H rfl rfl rfl (s_X1_onePersonMore a0 a1 r28) rfl rfl ⟨rfl, rfl⟩ rfl (fun t29 h30 H => ?_)
          exact r_retz H rfl rfl ⟨Nat.zero_le _, Nat.zero_le _⟩
        · rw [if_neg h27] at H; rcases Decidable.em (t2 = (119 : Int32)) with h31 | h31
          · rw [if_pos h31] at H; refine r_look (t := 39) rfl (by rw [h31]; rfl) ?_
            refine r_aln rfl rfl rfl ?_
            refine r_gR H rfl kd_4_1 (fun r32 H => ?_)
            refine r_aln rfl rfl rfl ?_
            refine r_iln rfl rfl rfl ?_
            refine r_ic (v := 1) rfl ci_1 ?_
            refine r_add rfl ?_
            refine r_vtI (rest := [.ref r32]) H rfl rfl rfl (s_X1_digit a0 (a1 + (1 : Int32))) rfl rfl ⟨rfl, rfl⟩ rfl (fun t33 h34 H => ?_)
            refine r_aln rfl rfl rfl ?_
            refine r_iln rfl rfl rfl ?_
            refine r_ic (v := 2) rfl ci_2 ?_
            refine r_add rfl ?_
            refine r_vtI (rest := [.int t33, .ref r32]) H rfl rfl rfl (s_X1_digit a0 (a1 + (2 : Int32))) rfl rfl ⟨rfl, rfl⟩ rfl (fun t35 h36 H => ?_)
            refine r_stI (rest := []) H rfl rfl (s_X1_wayGoes r32 t33 t35) rfl rfl ⟨rfl, rfl⟩ rfl (fun t37 h38 H => ?_)
            exact r_retz H rfl rfl ⟨Nat.zero_le _, Nat.zero_le _⟩
          · rw [if_neg h31] at H; refine r_look (t := 67) rfl (by have g0 := sw_ne h3 (v := 97) rfl; have g1 := sw_ne h11 (v := 98) rfl; have g2 := sw_ne h19 (v := 103) rfl; have g3 := sw_ne h27 (v := 112) rfl; have g4 := sw_ne h31 (v := 119) rfl; show lookTo [97, 98, 103, 112, 119] _ _ = _; simp only [lookTo, if_neg g0, if_neg g1, if_neg g2, if_neg g3, if_neg g4]) ?_
            refine r_aln rfl rfl rfl ?_
            refine r_gR H rfl kd_4_0 (fun r39 H => ?_)
            refine r_aln rfl rfl rfl ?_
            refine r_iln rfl rfl rfl ?_
            refine r_ic (v := 1) rfl ci_1 ?_
            refine r_add rfl ?_
            refine r_vtI (rest := [.ref r39]) H rfl rfl rfl (s_X1_digit a0 (a1 + (1 : Int32))) rfl rfl ⟨rfl, rfl⟩ rfl (fun t40 h41 H => ?_)
            refine r_stI (rest := []) H rfl rfl (s_X1_weeksPass r39 t40) rfl rfl ⟨rfl, rfl⟩ rfl (fun t42 h43 H => ?_)
            exact r_retz H rfl rfl ⟨Nat.zero_le _, Nat.zero_le _⟩
def f_X1_read (a0 : Nat) (a1 : Nat) : M Int32 := bnd (cv 1 a0 (f_X1_faultOfForm a0)) fun t1 => if t1 < (0 : Int32) then loopK NF (fun (s3 : Int32 × Int32) k4 => bnd (gI 1 0 a0) fun t6 => if t6 ≤ s3.2 then rt s3.1 else jn (fun k8 => if s3.2 = (0 : Int32) then k8 (1 : Int32) else bnd (gR 1 1 a0) fun r13 => bnd (aI r13 (s3.2 - (1 : Int32))) fun t14 => if ¬ t14 = (59 : Int32) then k8 (0 : Int32) else k8 (1 : Int32)) (fun (s7 : Int32) => jn (fun k10 => if s7 = (0 : Int32) then k10 () else bnd (cv 1 a0 (f_X1_comesTrue a0 s3.2 a1)) fun t11 => if ¬ t11 = (0 : Int32) then k10 () else rt ((-2000 : Int32) - s3.2)) (fun (s9 : Unit) => if s7 = (0 : Int32) then k4 ((s3.1 + (0 : Int32)), (s3.2 + (1 : Int32))) else k4 ((s3.1 + (1 : Int32)), (s3.2 + (1 : Int32)))))) ((0 : Int32), (0 : Int32)) else rt ((-1000 : Int32) - t1)
set_option maxRecDepth 20000 in
theorem s_X1_read (a0 : Nat) (a1 : Nat) : Sm eX1_read [.ref a0, .ref a1] eI (f_X1_read a0 a1) := by
  intro hp vr hr H
  unfold f_X1_read at H
  show Rn none 0 0 eX1_read 0 [some (.ref a0), some (.ref a1), none, none, none, none] [] hp (eI vr, hr)
  refine r_aln rfl rfl rfl ?_
  refine r_vtI (rest := []) H rfl rfl rfl (s_X1_faultOfForm a0) rfl rfl ⟨rfl, rfl⟩ rfl (fun t1 h2 H => ?_)
  refine r_isn (L' := [some (.ref a0), some (.ref a1), some (.int t1), none, none, none]) rfl rfl (Nat.le_of_ble_eq_true rfl) rfl ?_
  refine r_iln rfl rfl rfl ?_
  refine r_if H rfl rfl (fun H => ?_) (fun H => ?_)
  · refine r_ic (v := 0) rfl ci_0 ?_
    refine r_isn (L' := [some (.ref a0), some (.ref a1), some (.int t1), some (.int (0 : Int32)), none, none]) rfl rfl (Nat.le_of_ble_eq_true rfl) rfl ?_
    refine r_ic (v := 0) rfl ci_0 ?_
    refine r_is (L' := [some (.ref a0), some (.ref a1), some (.int t1), some (.int (0 : Int32)), some (.int (0 : Int32)), none]) rfl (Nat.le_of_ble_eq_true rfl) rfl ?_
    refine (r_loop (P := (fun (s3 : Int32 × Int32) hq => ∀ ys3_0 : Int32, ∀ ys3_1 : Int32, s3 = (ys3_0, ys3_1) → ∀ x5 : Option Value, Rn none 0 0 eX1_read 13 [some (.ref a0), some (.ref a1), some (.int t1), some (.int ys3_0), some (.int ys3_1), x5] [] hq (eI vr, hr))) ?_ NF _ _ H) _ _ rfl _
    intro k4 K4 s3 hs3 H ys3_0 ys3_1 es3 x5
    subst es3
    refine r_il rfl rfl ?_
    refine r_aln rfl rfl rfl ?_
    refine r_gI' H rfl kl_1_0 (fun t6 H => ?_)
    refine r_cmp H rfl rfl (fun H => ?_) (fun H => ?_)
    · refine r_iln rfl rfl rfl ?_
      exact r_reti H rfl rfl ⟨Nat.zero_le _, Nat.zero_le _⟩
    · refine r_il rfl rfl ?_
      refine r_jn (P := (fun (s7 : Int32) hq => Rn none 0 0 eX1_read 30 [some (.ref a0), some (.ref a1), some (.int t1), some (.int ys3_0), some (.int ys3_1), x5] [.int s7] hq (eI vr, hr))) H (fun s7 hs7 H  => ?_) (fun k8 K8 H => ?_)
      · refine r_is (L' := [some (.ref a0), some (.ref a1), some (.int t1), some (.int ys3_0), some (.int ys3_1), some (.int s7)]) rfl (Nat.le_of_ble_eq_true rfl) rfl ?_
        refine r_il rfl rfl ?_
        refine r_jn (P := (fun (s9 : Unit) hq => Rn none 0 0 eX1_read 42 [some (.ref a0), some (.ref a1), some (.int t1), some (.int ys3_0), some (.int ys3_1), some (.int s7)] [] hq (eI vr, hr))) H (fun s9 hs9 H  => ?_) (fun k10 K10 H => ?_)
        · refine r_iln rfl rfl rfl ?_
          refine r_il rfl rfl ?_
          refine r_if H rfl rfl (fun H => ?_) (fun H => ?_)
          · refine r_ic (v := 0) rfl ci_0 ?_
            refine r_add rfl ?_
            refine r_isn (L' := [some (.ref a0), some (.ref a1), some (.int t1), some (.int (ys3_0 + (0 : Int32))), some (.int ys3_1), some (.int s7)]) rfl rfl (Nat.le_of_ble_eq_true rfl) rfl ?_
            refine r_inc (v := 1) (L' := [some (.ref a0), some (.ref a1), some (.int t1), some (.int (ys3_0 + (0 : Int32))), some (.int (ys3_1 + (1 : Int32))), some (.int s7)]) rfl rfl ci_1 rfl ?_
            refine r_go rfl ?_
            have q := K4 _ _ H _ _ rfl
            exact q _
          · refine r_ic (v := 1) rfl ci_1 ?_
            refine r_go rfl ?_
            refine r_add rfl ?_
            refine r_isn (L' := [some (.ref a0), some (.ref a1), some (.int t1), some (.int (ys3_0 + (1 : Int32))), some (.int ys3_1), some (.int s7)]) rfl rfl (Nat.le_of_ble_eq_true rfl) rfl ?_
            refine r_inc (v := 1) (L' := [some (.ref a0), some (.ref a1), some (.int t1), some (.int (ys3_0 + (1 : Int32))), some (.int (ys3_1 + (1 : Int32))), some (.int s7)]) rfl rfl ci_1 rfl ?_
            refine r_go rfl ?_
            have q := K4 _ _ H _ _ rfl
            exact q _
        · refine r_if H rfl rfl (fun H => ?_) (fun H => ?_)
          · have q := K10 _ _ H
            exact q
          · refine r_aln rfl rfl rfl ?_
            refine r_il rfl rfl ?_
            refine r_aln rfl rfl rfl ?_
            refine r_vtI (rest := []) H rfl rfl rfl (s_X1_comesTrue a0 ys3_1 a1) rfl rfl ⟨rfl, rfl⟩ rfl (fun t11 h12 H => ?_)
            refine r_if H rfl rfl (fun H => ?_) (fun H => ?_)
            · have q := K10 _ _ H
              exact q
            · refine r_si (v := -2000) rfl cs_m2000 ?_
              refine r_il rfl rfl ?_
              refine r_sub rfl ?_
              exact r_reti H rfl rfl ⟨Nat.zero_le _, Nat.zero_le _⟩
      · refine r_if H rfl rfl (fun H => ?_) (fun H => ?_)
        · refine r_ic (v := 1) rfl ci_1 ?_
          refine r_go rfl ?_
          have q := K8 _ _ H
          exact q
        · refine r_aln rfl rfl rfl ?_
          refine r_gR H rfl kd_1_1 (fun r13 H => ?_)
          refine r_il rfl rfl ?_
          refine r_ic (v := 1) rfl ci_1 ?_
          refine r_sub rfl ?_
          refine r_aI' H rfl (fun t14 H => ?_)
          refine r_bi (v := 59) rfl cb_59 ?_
          refine r_cmp H rfl rfl (fun H => ?_) (fun H => ?_)
          · refine r_ic (v := 0) rfl ci_0 ?_
            have q := K8 _ _ H
            exact q
          · refine r_ic (v := 1) rfl ci_1 ?_
            refine r_go rfl ?_
            have q := K8 _ _ H
            exact q
  · refine r_si (v := -1000) rfl cs_m1000 ?_
    refine r_iln rfl rfl rfl ?_
    refine r_sub rfl ?_
    exact r_reti H rfl rfl ⟨Nat.zero_le _, Nat.zero_le _⟩
def f_X2_distance (a0 : Nat) (a1 : Int32) (a2 : Int32) : M Int32 := loopK NF (fun (s1 : Int32 × Int32) k2 => bnd (len a0) fun t3 => if t3 ≤ s1.2 then rt (-9 : Int32) else bnd (f_X6_holds s1.1 a2) fun t4 => if t4 = (0 : Int32) then bnd (f_X2_next a0 s1.1) fun t6 => k2 ((s1.1 ||| t6), (s1.2 + (1 : Int32))) else rt s1.2) (((1 : Int32) <<< (a1 &&& (31 : Int32))), (0 : Int32))
set_option maxRecDepth 20000 in
theorem s_X2_distance (a0 : Nat) (a1 : Int32) (a2 : Int32) : Sm eX2_distance [.ref a0, .int a1, .int a2] eI (f_X2_distance a0 a1 a2) := by
  intro hp vr hr H
  unfold f_X2_distance at H
  show Rn none 0 0 eX2_distance 0 [some (.ref a0), some (.int a1), some (.int a2), none, none] [] hp (eI vr, hr)
  refine r_ic (v := 1) rfl ci_1 ?_
  refine r_iln rfl rfl rfl ?_
  refine r_shl rfl ?_
  refine r_isn (L' := [some (.ref a0), some (.int a1), some (.int a2), some (.int ((1 : Int32) <<< (a1 &&& (31 : Int32)))), none]) rfl rfl (Nat.le_of_ble_eq_true rfl) rfl ?_
  refine r_ic (v := 0) rfl ci_0 ?_
  refine r_is (L' := [some (.ref a0), some (.int a1), some (.int a2), some (.int ((1 : Int32) <<< (a1 &&& (31 : Int32)))), some (.int (0 : Int32))]) rfl (Nat.le_of_ble_eq_true rfl) rfl ?_
  refine (r_loop (P := (fun (s1 : Int32 × Int32) hq => ∀ ys1_0 : Int32, ∀ ys1_1 : Int32, s1 = (ys1_0, ys1_1) → Rn none 0 0 eX2_distance 6 [some (.ref a0), some (.int a1), some (.int a2), some (.int ys1_0), some (.int ys1_1)] [] hq (eI vr, hr))) ?_ NF _ _ H) _ _ rfl
  intro k2 K2 s1 hs1 H ys1_0 ys1_1 es1 
  subst es1
  refine r_il rfl rfl ?_
  refine r_aln rfl rfl rfl ?_
  refine r_len H rfl (fun t3 H => ?_)
  refine r_cmp H rfl rfl (fun H => ?_) (fun H => ?_)
  · refine r_bi (v := -9) rfl cb_m9 ?_
    exact r_reti H rfl rfl ⟨Nat.zero_le _, Nat.zero_le _⟩
  · refine r_iln rfl rfl rfl ?_
    refine r_iln rfl rfl rfl ?_
    refine r_stI (rest := []) H rfl rfl (s_X6_holds ys1_0 a2) rfl rfl ⟨rfl, rfl⟩ rfl (fun t4 h5 H => ?_)
    refine r_if H rfl rfl (fun H => ?_) (fun H => ?_)
    · refine r_iln rfl rfl rfl ?_
      refine r_aln rfl rfl rfl ?_
      refine r_iln rfl rfl rfl ?_
      refine r_stI (rest := [.int ys1_0]) H rfl rfl (s_X2_next a0 ys1_0) rfl rfl ⟨rfl, rfl⟩ rfl (fun t6 h7 H => ?_)
      refine r_or rfl ?_
      refine r_isn (L' := [some (.ref a0), some (.int a1), some (.int a2), some (.int (ys1_0 ||| t6)), some (.int ys1_1)]) rfl rfl (Nat.le_of_ble_eq_true rfl) rfl ?_
      refine r_inc (v := 1) (L' := [some (.ref a0), some (.int a1), some (.int a2), some (.int (ys1_0 ||| t6)), some (.int (ys1_1 + (1 : Int32)))]) rfl rfl ci_1 rfl ?_
      refine r_go rfl ?_
      have q := K2 _ _ H _ _ rfl
      exact q
    · refine r_il rfl rfl ?_
      exact r_reti H rfl rfl ⟨Nat.zero_le _, Nat.zero_le _⟩
def f_X2_farthest (a0 : Nat) (a1 : Int32) : M Int32 := bnd (f_X2_reach a0 ((1 : Int32) <<< (a1 &&& (31 : Int32))) (-1 : Int32)) fun t1 => loopK NF (fun (s3 : Int32 × Int32 × Int32) k4 => bnd (len a0) fun t5 => if t5 ≤ s3.2.2 then rt s3.2.1 else if s3.1 = t1 then rt s3.2.1 else bnd (f_X2_next a0 s3.1) fun t6 => k4 ((s3.1 ||| t6), s3.2.2, (s3.2.2 + (1 : Int32)))) (((1 : Int32) <<< (a1 &&& (31 : Int32))), (0 : Int32), (1 : Int32))
set_option maxRecDepth 20000 in
theorem s_X2_farthest (a0 : Nat) (a1 : Int32) : Sm eX2_farthest [.ref a0, .int a1] eI (f_X2_farthest a0 a1) := by
  intro hp vr hr H
  unfold f_X2_farthest at H
  show Rn none 0 0 eX2_farthest 0 [some (.ref a0), some (.int a1), none, none, none, none] [] hp (eI vr, hr)
  refine r_aln rfl rfl rfl ?_
  refine r_ic (v := 1) rfl ci_1 ?_
  refine r_iln rfl rfl rfl ?_
  refine r_shl rfl ?_
  refine r_ic (v := -1) rfl ci_m1 ?_
  refine r_stI (rest := []) H rfl rfl (s_X2_reach a0 ((1 : Int32) <<< (a1 &&& (31 : Int32))) (-1 : Int32)) rfl rfl ⟨rfl, rfl⟩ rfl (fun t1 h2 H => ?_)
  refine r_isn (L' := [some (.ref a0), some (.int a1), some (.int t1), none, none, none]) rfl rfl (Nat.le_of_ble_eq_true rfl) rfl ?_
  refine r_ic (v := 1) rfl ci_1 ?_
  refine r_iln rfl rfl rfl ?_
  refine r_shl rfl ?_
  refine r_isn (L' := [some (.ref a0), some (.int a1), some (.int t1), some (.int ((1 : Int32) <<< (a1 &&& (31 : Int32)))), none, none]) rfl rfl (Nat.le_of_ble_eq_true rfl) rfl ?_
  refine r_ic (v := 0) rfl ci_0 ?_
  refine r_is (L' := [some (.ref a0), some (.int a1), some (.int t1), some (.int ((1 : Int32) <<< (a1 &&& (31 : Int32)))), some (.int (0 : Int32)), none]) rfl (Nat.le_of_ble_eq_true rfl) rfl ?_
  refine r_ic (v := 1) rfl ci_1 ?_
  refine r_is (L' := [some (.ref a0), some (.int a1), some (.int t1), some (.int ((1 : Int32) <<< (a1 &&& (31 : Int32)))), some (.int (0 : Int32)), some (.int (1 : Int32))]) rfl (Nat.le_of_ble_eq_true rfl) rfl ?_
  refine (r_loop (P := (fun (s3 : Int32 × Int32 × Int32) hq => ∀ ys3_0 : Int32, ∀ ys3_1 : Int32, ∀ ys3_2 : Int32, s3 = (ys3_0, ys3_1, ys3_2) → Rn none 0 0 eX2_farthest 15 [some (.ref a0), some (.int a1), some (.int t1), some (.int ys3_0), some (.int ys3_1), some (.int ys3_2)] [] hq (eI vr, hr))) ?_ NF _ _ H) _ _ _ rfl
  intro k4 K4 s3 hs3 H ys3_0 ys3_1 ys3_2 es3 
  subst es3
  refine r_il rfl rfl ?_
  refine r_aln rfl rfl rfl ?_
  refine r_len H rfl (fun t5 H => ?_)
  refine r_cmp H rfl rfl (fun H => ?_) (fun H => ?_)
  · refine r_il rfl rfl ?_
    exact r_reti H rfl rfl ⟨Nat.zero_le _, Nat.zero_le _⟩
  · refine r_iln rfl rfl rfl ?_
    refine r_iln rfl rfl rfl ?_
    refine r_cmp H rfl rfl (fun H => ?_) (fun H => ?_)
    · refine r_il rfl rfl ?_
      exact r_reti H rfl rfl ⟨Nat.zero_le _, Nat.zero_le _⟩
    · refine r_iln rfl rfl rfl ?_
      refine r_aln rfl rfl rfl ?_
      refine r_iln rfl rfl rfl ?_
      refine r_stI (rest := [.int ys3_0]) H rfl rfl (s_X2_next a0 ys3_0) rfl rfl ⟨rfl, rfl⟩ rfl (fun t6 h7 H => ?_)
      refine r_or rfl ?_
      refine r_isn (L' := [some (.ref a0), some (.int a1), some (.int t1), some (.int (ys3_0 ||| t6)), some (.int ys3_1), some (.int ys3_2)]) rfl rfl (Nat.le_of_ble_eq_true rfl) rfl ?_
      refine r_il rfl rfl ?_
      refine r_is (L' := [some (.ref a0), some (.int a1), some (.int t1), some (.int (ys3_0 ||| t6)), some (.int ys3_2), some (.int ys3_2)]) rfl (Nat.le_of_ble_eq_true rfl) rfl ?_
      refine r_inc (v := 1) (L' := [some (.ref a0), some (.int a1), some (.int t1), some (.int (ys3_0 ||| t6)), some (.int ys3_2), some (.int (ys3_2 + (1 : Int32)))]) rfl rfl ci_1 rfl ?_
      refine r_go rfl ?_
      have q := K4 _ _ H _ _ _ rfl
      exact q
def f_X3_dropOldest (a0 : Nat) : M Unit := bnd (gR 2 1 a0) fun r1 => bnd (aR r1 (0 : Int32)) fun r2 => loopK NF (fun (s3 : Int32) k4 => if (8 : Int32) ≤ s3 then bnd (gR 2 1 a0) fun r5 => bnd (sR r5 (7 : Int32) r2) fun _ => bnd (pI 2 0 a0 (7 : Int32)) fun _ => rt () else bnd (gR 2 1 a0) fun r6 => bnd (gR 2 1 a0) fun r7 => bnd (aR r7 s3) fun r8 => bnd (sR r6 (s3 - (1 : Int32)) r8) fun _ => k4 (s3 + (1 : Int32))) (1 : Int32)
set_option maxRecDepth 20000 in
theorem s_X3_dropOldest (a0 : Nat) : Sm eX3_dropOldest [.ref a0] eU (f_X3_dropOldest a0) := by
  intro hp vr hr H
  unfold f_X3_dropOldest at H
  show Rn none 0 0 eX3_dropOldest 0 [some (.ref a0), none, none] [] hp (eU vr, hr)
  refine r_aln rfl rfl rfl ?_
  refine r_gR H rfl kd_2_1 (fun r1 H => ?_)
  refine r_ic (v := 0) rfl ci_0 ?_
  refine r_aR H rfl (fun r2 H => ?_)
  refine r_asn (L' := [some (.ref a0), some (.ref r2), none]) rfl rfl (Nat.le_of_ble_eq_true rfl) rfl ?_
  refine r_ic (v := 1) rfl ci_1 ?_
  refine r_isn (L' := [some (.ref a0), some (.ref r2), some (.int (1 : Int32))]) rfl rfl (Nat.le_of_ble_eq_true rfl) rfl ?_
  refine (r_loop (P := (fun (s3 : Int32) hq => Rn none 0 0 eX3_dropOldest 7 [some (.ref a0), some (.ref r2), some (.int s3)] [] hq (eU vr, hr))) ?_ NF _ _ H)
  intro k4 K4 s3 hs3 H 
  refine r_iln rfl rfl rfl ?_
  refine r_bi (v := 8) rfl cb_8 ?_
  refine r_cmp H rfl rfl (fun H => ?_) (fun H => ?_)
  · refine r_aln rfl rfl rfl ?_
    refine r_gR H rfl kd_2_1 (fun r5 H => ?_)
    refine r_bi (v := 7) rfl cb_7 ?_
    refine r_aln rfl rfl rfl ?_
    refine r_sR H rfl (fun H => ?_)
    refine r_aln rfl rfl rfl ?_
    refine r_bi (v := 7) rfl cb_7 ?_
    refine r_pI H rfl kd_2_0 (fun H => ?_)
    exact r_retv H rfl rfl ⟨Nat.zero_le _, Nat.zero_le _⟩
  · refine r_aln rfl rfl rfl ?_
    refine r_gR H rfl kd_2_1 (fun r6 H => ?_)
    refine r_iln rfl rfl rfl ?_
    refine r_ic (v := 1) rfl ci_1 ?_
    refine r_sub rfl ?_
    refine r_aln rfl rfl rfl ?_
    refine r_gR H rfl kd_2_1 (fun r7 H => ?_)
    refine r_iln rfl rfl rfl ?_
    refine r_aR H rfl (fun r8 H => ?_)
    refine r_sR H rfl (fun H => ?_)
    refine r_inc (v := 1) (L' := [some (.ref a0), some (.ref r2), some (.int (s3 + (1 : Int32)))]) rfl rfl ci_1 rfl ?_
    refine r_go rfl ?_
    have q := K4 _ _ H
    exact q
def f_X3_keep (a0 : Nat) (a1 : Nat) : M Unit := bnd (gI 2 0 a0) fun t1 => jn (fun k3 => if t1 < (8 : Int32) then k3 () else bnd (cv 2 a0 (f_X3_dropOldest a0)) fun _ => k3 ()) (fun (s2 : Unit) => bnd (gR 2 1 a0) fun r4 => bnd (gI 2 0 a0) fun t5 => bnd (aR r4 t5) fun r6 => bnd (cv 0 r6 (f_X0_copyFrom r6 a1)) fun _ => bnd (gI 2 0 a0) fun t9 => bnd (pI 2 0 a0 (t9 + (1 : Int32))) fun _ => rt ())
set_option maxRecDepth 20000 in
theorem s_X3_keep (a0 : Nat) (a1 : Nat) : Sm eX3_keep [.ref a0, .ref a1] eU (f_X3_keep a0 a1) := by
  intro hp vr hr H
  unfold f_X3_keep at H
  show Rn none 0 0 eX3_keep 0 [some (.ref a0), some (.ref a1)] [] hp (eU vr, hr)
  refine r_aln rfl rfl rfl ?_
  refine r_gI' H rfl kl_2_0 (fun t1 H => ?_)
  refine r_bi (v := 8) rfl cb_8 ?_
  refine r_jn (P := (fun (s2 : Unit) hq => Rn none 0 0 eX3_keep 6 [some (.ref a0), some (.ref a1)] [] hq (eU vr, hr))) H (fun s2 hs2 H  => ?_) (fun k3 K3 H => ?_)
  · refine r_aln rfl rfl rfl ?_
    refine r_gR H rfl kd_2_1 (fun r4 H => ?_)
    refine r_aln rfl rfl rfl ?_
    refine r_gI' H rfl kl_2_0 (fun t5 H => ?_)
    refine r_aR H rfl (fun r6 H => ?_)
    refine r_aln rfl rfl rfl ?_
    refine r_vtU (rest := []) H rfl rfl rfl (s_X0_copyFrom r6 a1) rfl rfl ⟨rfl, rfl⟩ rfl (fun t7 h8 H => ?_)
    refine r_aln rfl rfl rfl ?_
    refine r_dupr rfl ?_
    refine r_gI' H rfl kl_2_0 (fun t9 H => ?_)
    refine r_ic (v := 1) rfl ci_1 ?_
    refine r_add rfl ?_
    refine r_pI H rfl kd_2_0 (fun H => ?_)
    exact r_retv H rfl rfl ⟨Nat.zero_le _, Nat.zero_le _⟩
  · refine r_cmp H rfl rfl (fun H => ?_) (fun H => ?_)
    · have q := K3 _ _ H
      exact q
    · refine r_aln rfl rfl rfl ?_
      refine r_vtU (rest := []) H rfl rfl rfl (s_X3_dropOldest a0) rfl rfl ⟨rfl, rfl⟩ rfl (fun t10 h11 H => ?_)
      have q := K3 _ _ H
      exact q
def f_X3_takeBack (a0 : Nat) (a1 : Nat) : M Int32 := bnd (gI 2 0 a0) fun t1 => if t1 ≤ (0 : Int32) then bnd (gI 2 0 a0) fun t2 => rt t2 else bnd (gI 2 0 a0) fun t3 => bnd (pI 2 0 a0 (t3 - (1 : Int32))) fun _ => bnd (gR 2 1 a0) fun r4 => bnd (gI 2 0 a0) fun t5 => bnd (aR r4 t5) fun r6 => bnd (cv 0 a1 (f_X0_copyFrom a1 r6)) fun _ => bnd (gI 2 0 a0) fun t9 => rt t9
set_option maxRecDepth 20000 in
theorem s_X3_takeBack (a0 : Nat) (a1 : Nat) : Sm eX3_takeBack [.ref a0, .ref a1] eI (f_X3_takeBack a0 a1) := by
  intro hp vr hr H
  unfold f_X3_takeBack at H
  show Rn none 0 0 eX3_takeBack 0 [some (.ref a0), some (.ref a1)] [] hp (eI vr, hr)
  refine r_aln rfl rfl rfl ?_
  refine r_gI' H rfl kl_2_0 (fun t1 H => ?_)
  refine r_if H rfl rfl (fun H => ?_) (fun H => ?_)
  · refine r_aln rfl rfl rfl ?_
    refine r_gI' H rfl kl_2_0 (fun t2 H => ?_)
    exact r_reti H rfl rfl ⟨Nat.zero_le _, Nat.zero_le _⟩
  · refine r_aln rfl rfl rfl ?_
    refine r_dupr rfl ?_
    refine r_gI' H rfl kl_2_0 (fun t3 H => ?_)
    refine r_ic (v := 1) rfl ci_1 ?_
    refine r_sub rfl ?_
    refine r_pI H rfl kd_2_0 (fun H => ?_)
    refine r_aln rfl rfl rfl ?_
    refine r_aln rfl rfl rfl ?_
    refine r_gR H rfl kd_2_1 (fun r4 H => ?_)
    refine r_aln rfl rfl rfl ?_
    refine r_gI' H rfl kl_2_0 (fun t5 H => ?_)
    refine r_aR H rfl (fun r6 H => ?_)
    refine r_vtU (rest := []) H rfl rfl rfl (s_X0_copyFrom a1 r6) rfl rfl ⟨rfl, rfl⟩ rfl (fun t7 h8 H => ?_)
    refine r_aln rfl rfl rfl ?_
    refine r_gI' H rfl kl_2_0 (fun t9 H => ?_)
    exact r_reti H rfl rfl ⟨Nat.zero_le _, Nat.zero_le _⟩
def f_X4_copyFrom (a0 : Nat) (a1 : Nat) : M Unit := bnd (gR 3 0 a1) fun r1 => bnd (gR 3 0 a0) fun r2 => bnd (cpy r1 (0 : Int32) r2 (0 : Int32) (8 : Int32)) fun _ => bnd (gR 3 1 a1) fun r3 => bnd (gR 3 1 a0) fun r4 => bnd (cpy r3 (0 : Int32) r4 (0 : Int32) (8 : Int32)) fun _ => rt ()
set_option maxRecDepth 20000 in
theorem s_X4_copyFrom (a0 : Nat) (a1 : Nat) : Sm eX4_copyFrom [.ref a0, .ref a1] eU (f_X4_copyFrom a0 a1) := by
  intro hp vr hr H
  unfold f_X4_copyFrom at H
  show Rn none 0 0 eX4_copyFrom 0 [some (.ref a0), some (.ref a1)] [] hp (eU vr, hr)
  refine r_aln rfl rfl rfl ?_
  refine r_gR H rfl kd_3_0 (fun r1 H => ?_)
  refine r_ic (v := 0) rfl ci_0 ?_
  refine r_aln rfl rfl rfl ?_
  refine r_gR H rfl kd_3_0 (fun r2 H => ?_)
  refine r_ic (v := 0) rfl ci_0 ?_
  refine r_bi (v := 8) rfl cb_8 ?_
  refine r_cpy H rfl (Nat.le_of_ble_eq_true rfl) (Nat.le_of_ble_eq_true rfl) (fun h6 H => ?_)
  refine r_aln rfl rfl rfl ?_
  refine r_gR H rfl kd_3_1 (fun r3 H => ?_)
  refine r_ic (v := 0) rfl ci_0 ?_
  refine r_aln rfl rfl rfl ?_
  refine r_gR H rfl kd_3_1 (fun r4 H => ?_)
  refine r_ic (v := 0) rfl ci_0 ?_
  refine r_bi (v := 8) rfl cb_8 ?_
  refine r_cpy H rfl (Nat.le_of_ble_eq_true rfl) (Nat.le_of_ble_eq_true rfl) (fun h5 H => ?_)
  exact r_retv H rfl rfl ⟨Nat.zero_le _, Nat.zero_le _⟩
def f_J6_bitCount_0f7a4 (a0 : Int32) : M Int32 := rt ((((((((a0 - ((ushr a0 (1 : Int32)) &&& (1431655765 : Int32))) &&& (858993459 : Int32)) + ((ushr (a0 - ((ushr a0 (1 : Int32)) &&& (1431655765 : Int32))) (2 : Int32)) &&& (858993459 : Int32))) + (ushr (((a0 - ((ushr a0 (1 : Int32)) &&& (1431655765 : Int32))) &&& (858993459 : Int32)) + ((ushr (a0 - ((ushr a0 (1 : Int32)) &&& (1431655765 : Int32))) (2 : Int32)) &&& (858993459 : Int32))) (4 : Int32))) &&& (252645135 : Int32)) + (ushr (((((a0 - ((ushr a0 (1 : Int32)) &&& (1431655765 : Int32))) &&& (858993459 : Int32)) + ((ushr (a0 - ((ushr a0 (1 : Int32)) &&& (1431655765 : Int32))) (2 : Int32)) &&& (858993459 : Int32))) + (ushr (((a0 - ((ushr a0 (1 : Int32)) &&& (1431655765 : Int32))) &&& (858993459 : Int32)) + ((ushr (a0 - ((ushr a0 (1 : Int32)) &&& (1431655765 : Int32))) (2 : Int32)) &&& (858993459 : Int32))) (4 : Int32))) &&& (252645135 : Int32)) (8 : Int32))) + (ushr ((((((a0 - ((ushr a0 (1 : Int32)) &&& (1431655765 : Int32))) &&& (858993459 : Int32)) + ((ushr (a0 - ((ushr a0 (1 : Int32)) &&& (1431655765 : Int32))) (2 : Int32)) &&& (858993459 : Int32))) + (ushr (((a0 - ((ushr a0 (1 : Int32)) &&& (1431655765 : Int32))) &&& (858993459 : Int32)) + ((ushr (a0 - ((ushr a0 (1 : Int32)) &&& (1431655765 : Int32))) (2 : Int32)) &&& (858993459 : Int32))) (4 : Int32))) &&& (252645135 : Int32)) + (ushr (((((a0 - ((ushr a0 (1 : Int32)) &&& (1431655765 : Int32))) &&& (858993459 : Int32)) + ((ushr (a0 - ((ushr a0 (1 : Int32)) &&& (1431655765 : Int32))) (2 : Int32)) &&& (858993459 : Int32))) + (ushr (((a0 - ((ushr a0 (1 : Int32)) &&& (1431655765 : Int32))) &&& (858993459 : Int32)) + ((ushr (a0 - ((ushr a0 (1 : Int32)) &&& (1431655765 : Int32))) (2 : Int32)) &&& (858993459 : Int32))) (4 : Int32))) &&& (252645135 : Int32)) (8 : Int32))) (16 : Int32))) &&& (63 : Int32))
set_option maxRecDepth 20000 in
theorem s_J6_bitCount_0f7a4 (a0 : Int32) : Sm eJ6_bitCount_0f7a4 [.int a0] eI (f_J6_bitCount_0f7a4 a0) := by
  intro hp vr hr H
  unfold f_J6_bitCount_0f7a4 at H
  show Rn none 0 0 eJ6_bitCount_0f7a4 0 [some (.int a0)] [] hp (eI vr, hr)
  refine r_iln rfl rfl rfl ?_
  refine r_iln rfl rfl rfl ?_
  refine r_ic (v := 1) rfl ci_1 ?_
  refine r_ushr rfl ?_
  refine r_lw (v := 1431655765) rfl cn_1431655765 ?_
  refine r_and rfl ?_
  refine r_sub rfl ?_
  refine r_isn (L' := [some (.int (a0 - ((ushr a0 (1 : Int32)) &&& (1431655765 : Int32))))]) rfl rfl (Nat.le_of_ble_eq_true rfl) rfl ?_
  refine r_iln rfl rfl rfl ?_
  refine r_lw (v := 858993459) rfl cn_858993459 ?_
  refine r_and rfl ?_
  refine r_iln rfl rfl rfl ?_
  refine r_ic (v := 2) rfl ci_2 ?_
  refine r_ushr rfl ?_
  refine r_lw (v := 858993459) rfl cn_858993459 ?_
  refine r_and rfl ?_
  refine r_add rfl ?_
  refine r_isn (L' := [some (.int (((a0 - ((ushr a0 (1 : Int32)) &&& (1431655765 : Int32))) &&& (858993459 : Int32)) + ((ushr (a0 - ((ushr a0 (1 : Int32)) &&& (1431655765 : Int32))) (2 : Int32)) &&& (858993459 : Int32))))]) rfl rfl (Nat.le_of_ble_eq_true rfl) rfl ?_
  refine r_iln rfl rfl rfl ?_
  refine r_iln rfl rfl rfl ?_
  refine r_ic (v := 4) rfl ci_4 ?_
  refine r_ushr rfl ?_
  refine r_add rfl ?_
  refine r_lw (v := 252645135) rfl cn_252645135 ?_
  refine r_and rfl ?_
  refine r_isn (L' := [some (.int (((((a0 - ((ushr a0 (1 : Int32)) &&& (1431655765 : Int32))) &&& (858993459 : Int32)) + ((ushr (a0 - ((ushr a0 (1 : Int32)) &&& (1431655765 : Int32))) (2 : Int32)) &&& (858993459 : Int32))) + (ushr (((a0 - ((ushr a0 (1 : Int32)) &&& (1431655765 : Int32))) &&& (858993459 : Int32)) + ((ushr (a0 - ((ushr a0 (1 : Int32)) &&& (1431655765 : Int32))) (2 : Int32)) &&& (858993459 : Int32))) (4 : Int32))) &&& (252645135 : Int32)))]) rfl rfl (Nat.le_of_ble_eq_true rfl) rfl ?_
  refine r_iln rfl rfl rfl ?_
  refine r_iln rfl rfl rfl ?_
  refine r_bi (v := 8) rfl cb_8 ?_
  refine r_ushr rfl ?_
  refine r_add rfl ?_
  refine r_isn (L' := [some (.int ((((((a0 - ((ushr a0 (1 : Int32)) &&& (1431655765 : Int32))) &&& (858993459 : Int32)) + ((ushr (a0 - ((ushr a0 (1 : Int32)) &&& (1431655765 : Int32))) (2 : Int32)) &&& (858993459 : Int32))) + (ushr (((a0 - ((ushr a0 (1 : Int32)) &&& (1431655765 : Int32))) &&& (858993459 : Int32)) + ((ushr (a0 - ((ushr a0 (1 : Int32)) &&& (1431655765 : Int32))) (2 : Int32)) &&& (858993459 : Int32))) (4 : Int32))) &&& (252645135 : Int32)) + (ushr (((((a0 - ((ushr a0 (1 : Int32)) &&& (1431655765 : Int32))) &&& (858993459 : Int32)) + ((ushr (a0 - ((ushr a0 (1 : Int32)) &&& (1431655765 : Int32))) (2 : Int32)) &&& (858993459 : Int32))) + (ushr (((a0 - ((ushr a0 (1 : Int32)) &&& (1431655765 : Int32))) &&& (858993459 : Int32)) + ((ushr (a0 - ((ushr a0 (1 : Int32)) &&& (1431655765 : Int32))) (2 : Int32)) &&& (858993459 : Int32))) (4 : Int32))) &&& (252645135 : Int32)) (8 : Int32))))]) rfl rfl (Nat.le_of_ble_eq_true rfl) rfl ?_
  refine r_iln rfl rfl rfl ?_
  refine r_iln rfl rfl rfl ?_
  refine r_bi (v := 16) rfl cb_16 ?_
  refine r_ushr rfl ?_
  refine r_add rfl ?_
  refine r_isn (L' := [some (.int (((((((a0 - ((ushr a0 (1 : Int32)) &&& (1431655765 : Int32))) &&& (858993459 : Int32)) + ((ushr (a0 - ((ushr a0 (1 : Int32)) &&& (1431655765 : Int32))) (2 : Int32)) &&& (858993459 : Int32))) + (ushr (((a0 - ((ushr a0 (1 : Int32)) &&& (1431655765 : Int32))) &&& (858993459 : Int32)) + ((ushr (a0 - ((ushr a0 (1 : Int32)) &&& (1431655765 : Int32))) (2 : Int32)) &&& (858993459 : Int32))) (4 : Int32))) &&& (252645135 : Int32)) + (ushr (((((a0 - ((ushr a0 (1 : Int32)) &&& (1431655765 : Int32))) &&& (858993459 : Int32)) + ((ushr (a0 - ((ushr a0 (1 : Int32)) &&& (1431655765 : Int32))) (2 : Int32)) &&& (858993459 : Int32))) + (ushr (((a0 - ((ushr a0 (1 : Int32)) &&& (1431655765 : Int32))) &&& (858993459 : Int32)) + ((ushr (a0 - ((ushr a0 (1 : Int32)) &&& (1431655765 : Int32))) (2 : Int32)) &&& (858993459 : Int32))) (4 : Int32))) &&& (252645135 : Int32)) (8 : Int32))) + (ushr ((((((a0 - ((ushr a0 (1 : Int32)) &&& (1431655765 : Int32))) &&& (858993459 : Int32)) + ((ushr (a0 - ((ushr a0 (1 : Int32)) &&& (1431655765 : Int32))) (2 : Int32)) &&& (858993459 : Int32))) + (ushr (((a0 - ((ushr a0 (1 : Int32)) &&& (1431655765 : Int32))) &&& (858993459 : Int32)) + ((ushr (a0 - ((ushr a0 (1 : Int32)) &&& (1431655765 : Int32))) (2 : Int32)) &&& (858993459 : Int32))) (4 : Int32))) &&& (252645135 : Int32)) + (ushr (((((a0 - ((ushr a0 (1 : Int32)) &&& (1431655765 : Int32))) &&& (858993459 : Int32)) + ((ushr (a0 - ((ushr a0 (1 : Int32)) &&& (1431655765 : Int32))) (2 : Int32)) &&& (858993459 : Int32))) + (ushr (((a0 - ((ushr a0 (1 : Int32)) &&& (1431655765 : Int32))) &&& (858993459 : Int32)) + ((ushr (a0 - ((ushr a0 (1 : Int32)) &&& (1431655765 : Int32))) (2 : Int32)) &&& (858993459 : Int32))) (4 : Int32))) &&& (252645135 : Int32)) (8 : Int32))) (16 : Int32))))]) rfl rfl (Nat.le_of_ble_eq_true rfl) rfl ?_
  refine r_iln rfl rfl rfl ?_
  refine r_bi (v := 63) rfl cb_63 ?_
  refine r_and rfl ?_
  exact r_reti H rfl rfl ⟨Nat.zero_le _, Nat.zero_le _⟩
def f_X4_countWays (a0 : Nat) : M Int32 := loopK NF (fun (s1 : Int32 × Int32) k2 => if (8 : Int32) ≤ s1.2 then bnd (divM s1.1 (2 : Int32)) fun t3 => rt t3 else bnd (gR 3 0 a0) fun r4 => bnd (aI r4 s1.2) fun t5 => bnd (f_J6_bitCount_0f7a4 t5) fun t6 => k2 ((s1.1 + t6), (s1.2 + (1 : Int32)))) ((0 : Int32), (0 : Int32))
set_option maxRecDepth 20000 in
theorem s_X4_countWays (a0 : Nat) : Sm eX4_countWays [.ref a0] eI (f_X4_countWays a0) := by
  intro hp vr hr H
  unfold f_X4_countWays at H
  show Rn none 0 0 eX4_countWays 0 [some (.ref a0), none, none] [] hp (eI vr, hr)
  refine r_ic (v := 0) rfl ci_0 ?_
  refine r_isn (L' := [some (.ref a0), some (.int (0 : Int32)), none]) rfl rfl (Nat.le_of_ble_eq_true rfl) rfl ?_
  refine r_ic (v := 0) rfl ci_0 ?_
  refine r_isn (L' := [some (.ref a0), some (.int (0 : Int32)), some (.int (0 : Int32))]) rfl rfl (Nat.le_of_ble_eq_true rfl) rfl ?_
  refine (r_loop (P := (fun (s1 : Int32 × Int32) hq => ∀ ys1_0 : Int32, ∀ ys1_1 : Int32, s1 = (ys1_0, ys1_1) → Rn none 0 0 eX4_countWays 4 [some (.ref a0), some (.int ys1_0), some (.int ys1_1)] [] hq (eI vr, hr))) ?_ NF _ _ H) _ _ rfl
  intro k2 K2 s1 hs1 H ys1_0 ys1_1 es1 
  subst es1
  refine r_iln rfl rfl rfl ?_
  refine r_bi (v := 8) rfl cb_8 ?_
  refine r_cmp H rfl rfl (fun H => ?_) (fun H => ?_)
  · refine r_iln rfl rfl rfl ?_
    refine r_ic (v := 2) rfl ci_2 ?_
    refine r_div H rfl (fun H => ?_)
    exact r_reti H rfl rfl ⟨Nat.zero_le _, Nat.zero_le _⟩
  · refine r_iln rfl rfl rfl ?_
    refine r_aln rfl rfl rfl ?_
    refine r_gR H rfl kd_3_0 (fun r4 H => ?_)
    refine r_iln rfl rfl rfl ?_
    refine r_aI' H rfl (fun t5 H => ?_)
    refine r_stI (rest := [.int ys1_0]) H rfl rfl (s_J6_bitCount_0f7a4 t5) rfl rfl ⟨rfl, rfl⟩ rfl (fun t6 h7 H => ?_)
    refine r_add rfl ?_
    refine r_isn (L' := [some (.ref a0), some (.int (ys1_0 + t6)), some (.int ys1_1)]) rfl rfl (Nat.le_of_ble_eq_true rfl) rfl ?_
    refine r_inc (v := 1) (L' := [some (.ref a0), some (.int (ys1_0 + t6)), some (.int (ys1_1 + (1 : Int32)))]) rfl rfl ci_1 rfl ?_
    refine r_go rfl ?_
    have q := K2 _ _ H _ _ rfl
    exact q
def f_X4_glancesAt (a0 : Nat) (a1 : Int32) : M Int32 := bnd (gR 3 1 a0) fun r1 => bnd (aI r1 a1) fun t2 => if ¬ t2 = (3 : Int32) then if ¬ t2 = (2 : Int32) then rt t2 else rt (3 : Int32) else rt (7 : Int32)
set_option maxRecDepth 20000 in
theorem s_X4_glancesAt (a0 : Nat) (a1 : Int32) : Sm eX4_glancesAt [.ref a0, .int a1] eI (f_X4_glancesAt a0 a1) := by
  intro hp vr hr H
  unfold f_X4_glancesAt at H
  show Rn none 0 0 eX4_glancesAt 0 [some (.ref a0), some (.int a1), none] [] hp (eI vr, hr)
  refine r_aln rfl rfl rfl ?_
  refine r_gR H rfl kd_3_1 (fun r1 H => ?_)
  refine r_iln rfl rfl rfl ?_
  refine r_aI' H rfl (fun t2 H => ?_)
  refine r_isn (L' := [some (.ref a0), some (.int a1), some (.int t2)]) rfl rfl (Nat.le_of_ble_eq_true rfl) rfl ?_
  refine r_iln rfl rfl rfl ?_
  refine r_ic (v := 3) rfl ci_3 ?_
  refine r_cmp H rfl rfl (fun H => ?_) (fun H => ?_)
  · refine r_iln rfl rfl rfl ?_
    refine r_ic (v := 2) rfl ci_2 ?_
    refine r_cmp H rfl rfl (fun H => ?_) (fun H => ?_)
    · refine r_iln rfl rfl rfl ?_
      exact r_reti H rfl rfl ⟨Nat.zero_le _, Nat.zero_le _⟩
    · refine r_ic (v := 3) rfl ci_3 ?_
      refine r_go rfl ?_
      exact r_reti H rfl rfl ⟨Nat.zero_le _, Nat.zero_le _⟩
  · refine r_bi (v := 7) rfl cb_7 ?_
    exact r_reti H rfl rfl ⟨Nat.zero_le _, Nat.zero_le _⟩
def f_X4_bare (a0 : Nat) : M Int32 := loopK NF (fun (s1 : Int32 × Int32) k2 => if (8 : Int32) ≤ s1.2 then rt s1.1 else bnd (cv 3 a0 (f_X4_glancesAt a0 s1.2)) fun t3 => if ¬ t3 = (0 : Int32) then k2 (s1.1, (s1.2 + (1 : Int32))) else k2 ((s1.1 ||| ((1 : Int32) <<< (s1.2 &&& (31 : Int32)))), (s1.2 + (1 : Int32)))) ((0 : Int32), (0 : Int32))
set_option maxRecDepth 20000 in
theorem s_X4_bare (a0 : Nat) : Sm eX4_bare [.ref a0] eI (f_X4_bare a0) := by
  intro hp vr hr H
  unfold f_X4_bare at H
  show Rn none 0 0 eX4_bare 0 [some (.ref a0), none, none] [] hp (eI vr, hr)
  refine r_ic (v := 0) rfl ci_0 ?_
  refine r_isn (L' := [some (.ref a0), some (.int (0 : Int32)), none]) rfl rfl (Nat.le_of_ble_eq_true rfl) rfl ?_
  refine r_ic (v := 0) rfl ci_0 ?_
  refine r_isn (L' := [some (.ref a0), some (.int (0 : Int32)), some (.int (0 : Int32))]) rfl rfl (Nat.le_of_ble_eq_true rfl) rfl ?_
  refine (r_loop (P := (fun (s1 : Int32 × Int32) hq => ∀ ys1_0 : Int32, ∀ ys1_1 : Int32, s1 = (ys1_0, ys1_1) → Rn none 0 0 eX4_bare 4 [some (.ref a0), some (.int ys1_0), some (.int ys1_1)] [] hq (eI vr, hr))) ?_ NF _ _ H) _ _ rfl
  intro k2 K2 s1 hs1 H ys1_0 ys1_1 es1 
  subst es1
  refine r_iln rfl rfl rfl ?_
  refine r_bi (v := 8) rfl cb_8 ?_
  refine r_cmp H rfl rfl (fun H => ?_) (fun H => ?_)
  · refine r_iln rfl rfl rfl ?_
    exact r_reti H rfl rfl ⟨Nat.zero_le _, Nat.zero_le _⟩
  · refine r_aln rfl rfl rfl ?_
    refine r_iln rfl rfl rfl ?_
    refine r_vtI (rest := []) H rfl rfl rfl (s_X4_glancesAt a0 ys1_1) rfl rfl ⟨rfl, rfl⟩ rfl (fun t3 h4 H => ?_)
    refine r_if H rfl rfl (fun H => ?_) (fun H => ?_)
    · refine r_inc (v := 1) (L' := [some (.ref a0), some (.int ys1_0), some (.int (ys1_1 + (1 : Int32)))]) rfl rfl ci_1 rfl ?_
      refine r_go rfl ?_
      have q := K2 _ _ H _ _ rfl
      exact q
    · refine r_iln rfl rfl rfl ?_
      refine r_ic (v := 1) rfl ci_1 ?_
      refine r_iln rfl rfl rfl ?_
      refine r_shl rfl ?_
      refine r_or rfl ?_
      refine r_isn (L' := [some (.ref a0), some (.int (ys1_0 ||| ((1 : Int32) <<< (ys1_1 &&& (31 : Int32))))), some (.int ys1_1)]) rfl rfl (Nat.le_of_ble_eq_true rfl) rfl ?_
      refine r_inc (v := 1) (L' := [some (.ref a0), some (.int (ys1_0 ||| ((1 : Int32) <<< (ys1_1 &&& (31 : Int32))))), some (.int (ys1_1 + (1 : Int32)))]) rfl rfl ci_1 rfl ?_
      refine r_go rfl ?_
      have q := K2 _ _ H _ _ rfl
      exact q
def f_J7_fill_53178 (a0 : Nat) (a1 : Int32) : M Unit := bnd (len a0) fun t1 => loopK NF (fun (s2 : Int32) k3 => if t1 ≤ s2 then rt () else bnd (sI a0 s2 a1) fun _ => k3 (s2 + (1 : Int32))) (0 : Int32)
set_option maxRecDepth 20000 in
theorem s_J7_fill_53178 (a0 : Nat) (a1 : Int32) : Sm eJ7_fill_53178 [.ref a0, .int a1] eU (f_J7_fill_53178 a0 a1) := by
  intro hp vr hr H
  unfold f_J7_fill_53178 at H
  show Rn none 0 0 eJ7_fill_53178 0 [some (.ref a0), some (.int a1), none, none] [] hp (eU vr, hr)
  refine r_ic (v := 0) rfl ci_0 ?_
  refine r_isn (L' := [some (.ref a0), some (.int a1), some (.int (0 : Int32)), none]) rfl rfl (Nat.le_of_ble_eq_true rfl) rfl ?_
  refine r_aln rfl rfl rfl ?_
  refine r_len H rfl (fun t1 H => ?_)
  refine r_isn (L' := [some (.ref a0), some (.int a1), some (.int (0 : Int32)), some (.int t1)]) rfl rfl (Nat.le_of_ble_eq_true rfl) rfl ?_
  refine (r_loop (P := (fun (s2 : Int32) hq => Rn none 0 0 eJ7_fill_53178 5 [some (.ref a0), some (.int a1), some (.int s2), some (.int t1)] [] hq (eU vr, hr))) ?_ NF _ _ H)
  intro k3 K3 s2 hs2 H 
  refine r_iln rfl rfl rfl ?_
  refine r_iln rfl rfl rfl ?_
  refine r_cmp H rfl rfl (fun H => ?_) (fun H => ?_)
  · exact r_retv H rfl rfl ⟨Nat.zero_le _, Nat.zero_le _⟩
  · refine r_aln rfl rfl rfl ?_
    refine r_iln rfl rfl rfl ?_
    refine r_iln rfl rfl rfl ?_
    refine r_sI H rfl (fun H => ?_)
    refine r_inc (v := 1) (L' := [some (.ref a0), some (.int a1), some (.int (s2 + (1 : Int32))), some (.int t1)]) rfl rfl ci_1 rfl ?_
    refine r_go rfl ?_
    have q := K3 _ _ H
    exact q
def f_X4_goOnFrom (a0 : Nat) (a1 : Int32) : M Unit := bnd (gR 3 2 a0) fun r1 => bnd (aI r1 a1) fun t2 => if ¬ t2 = (1000000 : Int32) then loopK NF (fun (s3 : Int32) k4 => if (8 : Int32) ≤ s3 then rt () else bnd (gR 3 0 a0) fun r6 => bnd (aI r6 a1) fun t7 => bnd (f_X6_holds t7 s3) fun t8 => if t8 = (0 : Int32) then k4 (s3 + (1 : Int32)) else bnd (gR 3 2 a0) fun r10 => bnd (aI r10 a1) fun t11 => bnd (cv 3 a0 (f_X4_glancesAt a0 s3)) fun t12 => bnd (gR 3 2 a0) fun r14 => bnd (gR 3 2 a0) fun r15 => bnd (aI r15 s3) fun t16 => bnd (sI r14 s3 (mmin t16 ((t11 + ((16 : Int32) * t12)) + (1 : Int32)))) fun _ => k4 (s3 + (1 : Int32))) (0 : Int32) else rt ()
set_option maxRecDepth 20000 in
theorem s_X4_goOnFrom (a0 : Nat) (a1 : Int32) : Sm eX4_goOnFrom [.ref a0, .int a1] eU (f_X4_goOnFrom a0 a1) := by
  intro hp vr hr H
  unfold f_X4_goOnFrom at H
  show Rn none 0 0 eX4_goOnFrom 0 [some (.ref a0), some (.int a1), none, none] [] hp (eU vr, hr)
  refine r_aln rfl rfl rfl ?_
  refine r_gR H rfl kd_3_2 (fun r1 H => ?_)
  refine r_iln rfl rfl rfl ?_
  refine r_aI' H rfl (fun t2 H => ?_)
  refine r_lc (v := 1000000) rfl cn_1000000 ?_
  refine r_cmp H rfl rfl (fun H => ?_) (fun H => ?_)
  · refine r_ic (v := 0) rfl ci_0 ?_
    refine r_isn (L' := [some (.ref a0), some (.int a1), some (.int (0 : Int32)), none]) rfl rfl (Nat.le_of_ble_eq_true rfl) rfl ?_
    refine (r_loop (P := (fun (s3 : Int32) hq => ∀ x5 : Option Value, Rn none 0 0 eX4_goOnFrom 9 [some (.ref a0), some (.int a1), some (.int s3), x5] [] hq (eU vr, hr))) ?_ NF _ _ H) _
    intro k4 K4 s3 hs3 H x5
    refine r_iln rfl rfl rfl ?_
    refine r_bi (v := 8) rfl cb_8 ?_
    refine r_cmp H rfl rfl (fun H => ?_) (fun H => ?_)
    · exact r_retv H rfl rfl ⟨Nat.zero_le _, Nat.zero_le _⟩
    · refine r_aln rfl rfl rfl ?_
      refine r_gR H rfl kd_3_0 (fun r6 H => ?_)
      refine r_iln rfl rfl rfl ?_
      refine r_aI' H rfl (fun t7 H => ?_)
      refine r_iln rfl rfl rfl ?_
      refine r_stI (rest := []) H rfl rfl (s_X6_holds t7 s3) rfl rfl ⟨rfl, rfl⟩ rfl (fun t8 h9 H => ?_)
      refine r_if H rfl rfl (fun H => ?_) (fun H => ?_)
      · refine r_inc (v := 1) (L' := [some (.ref a0), some (.int a1), some (.int (s3 + (1 : Int32))), x5]) rfl rfl ci_1 rfl ?_
        refine r_go rfl ?_
        have q := K4 _ _ H
        exact q _
      · refine r_aln rfl rfl rfl ?_
        refine r_gR H rfl kd_3_2 (fun r10 H => ?_)
        refine r_iln rfl rfl rfl ?_
        refine r_aI' H rfl (fun t11 H => ?_)
        refine r_bi (v := 16) rfl cb_16 ?_
        refine r_aln rfl rfl rfl ?_
        refine r_iln rfl rfl rfl ?_
        refine r_vtI (rest := [.int (16 : Int32), .int t11]) H rfl rfl rfl (s_X4_glancesAt a0 s3) rfl rfl ⟨rfl, rfl⟩ rfl (fun t12 h13 H => ?_)
        refine r_mul rfl ?_
        refine r_add rfl ?_
        refine r_ic (v := 1) rfl ci_1 ?_
        refine r_add rfl ?_
        refine r_isn (L' := [some (.ref a0), some (.int a1), some (.int s3), some (.int ((t11 + ((16 : Int32) * t12)) + (1 : Int32)))]) rfl rfl (Nat.le_of_ble_eq_true rfl) rfl ?_
        refine r_aln rfl rfl rfl ?_
        refine r_gR H rfl kd_3_2 (fun r14 H => ?_)
        refine r_iln rfl rfl rfl ?_
        refine r_aln rfl rfl rfl ?_
        refine r_gR H rfl kd_3_2 (fun r15 H => ?_)
        refine r_iln rfl rfl rfl ?_
        refine r_aI' H rfl (fun t16 H => ?_)
        refine r_iln rfl rfl rfl ?_
        refine r_min rfl rfl (Nat.le_of_ble_eq_true rfl) rfl ?_
        refine r_sI H rfl (fun H => ?_)
        refine r_inc (v := 1) (L' := [some (.ref a0), some (.int a1), some (.int (s3 + (1 : Int32))), some (.int ((t11 + ((16 : Int32) * t12)) + (1 : Int32)))]) rfl rfl ci_1 rfl ?_
        refine r_go rfl ?_
        have q := K4 _ _ H
        exact q _
  · exact r_retv H rfl rfl ⟨Nat.zero_le _, Nat.zero_le _⟩
def f_X4_route (a0 : Nat) (a1 : Int32) (a2 : Int32) : M Int32 := bnd (gR 3 2 a0) fun r1 => bnd (f_J7_fill_53178 r1 (1000000 : Int32)) fun _ => bnd (gR 3 2 a0) fun r4 => bnd (cv 3 a0 (f_X4_glancesAt a0 a1)) fun t5 => bnd (sI r4 a1 ((16 : Int32) * t5)) fun _ => loopK NF (fun (s7 : Int32) k8 => if (8 : Int32) ≤ s7 then bnd (gR 3 2 a0) fun r10 => bnd (aI r10 a2) fun t11 => rt t11 else loopK NF (fun (s12 : Int32) k13 => if (8 : Int32) ≤ s12 then k8 (s7 + (1 : Int32)) else bnd (cv 3 a0 (f_X4_goOnFrom a0 s12)) fun _ => k13 (s12 + (1 : Int32))) (0 : Int32)) (1 : Int32)
set_option maxRecDepth 20000 in
theorem s_X4_route (a0 : Nat) (a1 : Int32) (a2 : Int32) : Sm eX4_route [.ref a0, .int a1, .int a2] eI (f_X4_route a0 a1 a2) := by
  intro hp vr hr H
  unfold f_X4_route at H
  show Rn none 0 0 eX4_route 0 [some (.ref a0), some (.int a1), some (.int a2), none, none] [] hp (eI vr, hr)
  refine r_aln rfl rfl rfl ?_
  refine r_gR H rfl kd_3_2 (fun r1 H => ?_)
  refine r_lc (v := 1000000) rfl cn_1000000 ?_
  refine r_stU (rest := []) H rfl rfl (s_J7_fill_53178 r1 (1000000 : Int32)) rfl rfl ⟨rfl, rfl⟩ rfl (fun t2 h3 H => ?_)
  refine r_aln rfl rfl rfl ?_
  refine r_gR H rfl kd_3_2 (fun r4 H => ?_)
  refine r_iln rfl rfl rfl ?_
  refine r_bi (v := 16) rfl cb_16 ?_
  refine r_aln rfl rfl rfl ?_
  refine r_iln rfl rfl rfl ?_
  refine r_vtI (rest := [.int (16 : Int32), .int a1, .ref r4]) H rfl rfl rfl (s_X4_glancesAt a0 a1) rfl rfl ⟨rfl, rfl⟩ rfl (fun t5 h6 H => ?_)
  refine r_mul rfl ?_
  refine r_sI H rfl (fun H => ?_)
  refine r_ic (v := 1) rfl ci_1 ?_
  refine r_isn (L' := [some (.ref a0), some (.int a1), some (.int a2), some (.int (1 : Int32)), none]) rfl rfl (Nat.le_of_ble_eq_true rfl) rfl ?_
  refine (r_loop (P := (fun (s7 : Int32) hq => ∀ x9 : Option Value, Rn none 0 0 eX4_route 15 [some (.ref a0), some (.int a1), some (.int a2), some (.int s7), x9] [] hq (eI vr, hr))) ?_ NF _ _ H) _
  intro k8 K8 s7 hs7 H x9
  refine r_iln rfl rfl rfl ?_
  refine r_bi (v := 8) rfl cb_8 ?_
  refine r_cmp H rfl rfl (fun H => ?_) (fun H => ?_)
  · refine r_aln rfl rfl rfl ?_
    refine r_gR H rfl kd_3_2 (fun r10 H => ?_)
    refine r_iln rfl rfl rfl ?_
    refine r_aI' H rfl (fun t11 H => ?_)
    exact r_reti H rfl rfl ⟨Nat.zero_le _, Nat.zero_le _⟩
  · refine r_ic (v := 0) rfl ci_0 ?_
    refine r_is (L' := [some (.ref a0), some (.int a1), some (.int a2), some (.int s7), some (.int (0 : Int32))]) rfl (Nat.le_of_ble_eq_true rfl) rfl ?_
    refine (r_loop (P := (fun (s12 : Int32) hq => Rn none 0 0 eX4_route 20 [some (.ref a0), some (.int a1), some (.int a2), some (.int s7), some (.int s12)] [] hq (eI vr, hr))) ?_ NF _ _ H)
    intro k13 K13 s12 hs12 H 
    refine r_il rfl rfl ?_
    refine r_bi (v := 8) rfl cb_8 ?_
    refine r_cmp H rfl rfl (fun H => ?_) (fun H => ?_)
    · refine r_inc (v := 1) (L' := [some (.ref a0), some (.int a1), some (.int a2), some (.int (s7 + (1 : Int32))), some (.int s12)]) rfl rfl ci_1 rfl ?_
      refine r_go rfl ?_
      have q := K8 _ _ H
      exact q _
    · refine r_aln rfl rfl rfl ?_
      refine r_il rfl rfl ?_
      refine r_vtU (rest := []) H rfl rfl rfl (s_X4_goOnFrom a0 s12) rfl rfl ⟨rfl, rfl⟩ rfl (fun t14 h15 H => ?_)
      refine r_inc (v := 1) (L' := [some (.ref a0), some (.int a1), some (.int a2), some (.int s7), some (.int (s12 + (1 : Int32)))]) rfl rfl ci_1 rfl ?_
      refine r_go rfl ?_
      have q := K13 _ _ H
      exact q
def f_X4_routeCovered (a0 : Nat) (a1 : Int32) (a2 : Int32) (a3 : Int32) : M Int32 := bnd (gR 3 1 a0) fun r1 => bnd (aI r1 a3) fun t2 => bnd (gR 3 1 a0) fun r3 => bnd (sI r3 a3 (0 : Int32)) fun _ => bnd (cv 3 a0 (f_X4_route a0 a1 a2)) fun t4 => bnd (gR 3 1 a0) fun r6 => bnd (sI r6 a3 t2) fun _ => rt t4
set_option maxRecDepth 20000 in
theorem s_X4_routeCovered (a0 : Nat) (a1 : Int32) (a2 : Int32) (a3 : Int32) : Sm eX4_routeCovered [.ref a0, .int a1, .int a2, .int a3] eI (f_X4_routeCovered a0 a1 a2 a3) := by
  intro hp vr hr H
  unfold f_X4_routeCovered at H
  show Rn none 0 0 eX4_routeCovered 0 [some (.ref a0), some (.int a1), some (.int a2), some (.int a3), none, none] [] hp (eI vr, hr)
  refine r_aln rfl rfl rfl ?_
  refine r_gR H rfl kd_3_1 (fun r1 H => ?_)
  refine r_iln rfl rfl rfl ?_
  refine r_aI' H rfl (fun t2 H => ?_)
  refine r_is (L' := [some (.ref a0), some (.int a1), some (.int a2), some (.int a3), some (.int t2), none]) rfl (Nat.le_of_ble_eq_true rfl) rfl ?_
  refine r_aln rfl rfl rfl ?_
  refine r_gR H rfl kd_3_1 (fun r3 H => ?_)
  refine r_iln rfl rfl rfl ?_
  refine r_ic (v := 0) rfl ci_0 ?_
  refine r_sI H rfl (fun H => ?_)
  refine r_aln rfl rfl rfl ?_
  refine r_iln rfl rfl rfl ?_
  refine r_iln rfl rfl rfl ?_
  refine r_vtI (rest := []) H rfl rfl rfl (s_X4_route a0 a1 a2) rfl rfl ⟨rfl, rfl⟩ rfl (fun t4 h5 H => ?_)
  refine r_is (L' := [some (.ref a0), some (.int a1), some (.int a2), some (.int a3), some (.int t2), some (.int t4)]) rfl (Nat.le_of_ble_eq_true rfl) rfl ?_
  refine r_aln rfl rfl rfl ?_
  refine r_gR H rfl kd_3_1 (fun r6 H => ?_)
  refine r_iln rfl rfl rfl ?_
  refine r_il rfl rfl ?_
  refine r_sI H rfl (fun H => ?_)
  refine r_il rfl rfl ?_
  exact r_reti H rfl rfl ⟨Nat.zero_le _, Nat.zero_le _⟩
def f_X5_copyFrom (a0 : Nat) (a1 : Nat) : M Unit := bnd (gR 4 0 a0) fun r1 => bnd (gR 4 0 a1) fun r2 => bnd (cv 0 r1 (f_X0_copyFrom r1 r2)) fun _ => bnd (gR 4 1 a0) fun r5 => bnd (gR 4 1 a1) fun r6 => bnd (cv 3 r5 (f_X4_copyFrom r5 r6)) fun _ => rt ()
set_option maxRecDepth 20000 in
theorem s_X5_copyFrom (a0 : Nat) (a1 : Nat) : Sm eX5_copyFrom [.ref a0, .ref a1] eU (f_X5_copyFrom a0 a1) := by
  intro hp vr hr H
  unfold f_X5_copyFrom at H
  show Rn none 0 0 eX5_copyFrom 0 [some (.ref a0), some (.ref a1)] [] hp (eU vr, hr)
  refine r_aln rfl rfl rfl ?_
  refine r_gR H rfl kd_4_0 (fun r1 H => ?_)
  refine r_aln rfl rfl rfl ?_
  refine r_gR H rfl kd_4_0 (fun r2 H => ?_)
  refine r_vtU (rest := []) H rfl rfl rfl (s_X0_copyFrom r1 r2) rfl rfl ⟨rfl, rfl⟩ rfl (fun t3 h4 H => ?_)
  refine r_aln rfl rfl rfl ?_
  refine r_gR H rfl kd_4_1 (fun r5 H => ?_)
  refine r_aln rfl rfl rfl ?_
  refine r_gR H rfl kd_4_1 (fun r6 H => ?_)
  refine r_vtU (rest := []) H rfl rfl rfl (s_X4_copyFrom r5 r6) rfl rfl ⟨rfl, rfl⟩ rfl (fun t7 h8 H => ?_)
  exact r_retv H rfl rfl ⟨Nat.zero_le _, Nat.zero_le _⟩
def f_X6_refuse (a0 : Nat) (a1 : Int32) : M Int32 := if (-a1) < (0 : Int32) then rt a1 else bnd (gR 5 9 a0) fun r1 => bnd (len r1) fun t2 => if t2 ≤ (-a1) then rt a1 else bnd (gR 5 9 a0) fun r3 => bnd (aI r3 (-a1)) fun t4 => bnd (sI r3 (-a1) (t4 + (1 : Int32))) fun _ => rt a1
set_option maxRecDepth 20000 in
theorem s_X6_refuse (a0 : Nat) (a1 : Int32) : Sm eX6_refuse [.ref a0, .int a1] eI (f_X6_refuse a0 a1) := by
  intro hp vr hr H
  unfold f_X6_refuse at H
  show Rn none 0 0 eX6_refuse 0 [some (.ref a0), some (.int a1), none] [] hp (eI vr, hr)
  refine r_iln rfl rfl rfl ?_
  refine r_neg rfl ?_
  refine r_isn (L' := [some (.ref a0), some (.int a1), some (.int (-a1))]) rfl rfl (Nat.le_of_ble_eq_true rfl) rfl ?_
  refine r_iln rfl rfl rfl ?_
  refine r_if H rfl rfl (fun H => ?_) (fun H => ?_)
  · refine r_iln rfl rfl rfl ?_
    exact r_reti H rfl rfl ⟨Nat.zero_le _, Nat.zero_le _⟩
  · refine r_iln rfl rfl rfl ?_
    refine r_aln rfl rfl rfl ?_
    refine r_gR H rfl kd_5_9 (fun r1 H => ?_)
    refine r_len H rfl (fun t2 H => ?_)
    refine r_cmp H rfl rfl (fun H => ?_) (fun H => ?_)
    · refine r_iln rfl rfl rfl ?_
      exact r_reti H rfl rfl ⟨Nat.zero_le _, Nat.zero_le _⟩
    · refine r_aln rfl rfl rfl ?_
      refine r_gR H rfl kd_5_9 (fun r3 H => ?_)
      refine r_iln rfl rfl rfl ?_
      refine r_dup2 rfl ?_
      refine r_aI' H rfl (fun t4 H => ?_)
      refine r_ic (v := 1) rfl ci_1 ?_
      refine r_add rfl ?_
      refine r_sI H rfl (fun H => ?_)
      refine r_iln rfl rfl rfl ?_
      exact r_reti H rfl rfl ⟨Nat.zero_le _, Nat.zero_le _⟩
def f_X6_first (a0 : Int32) (a1 : Int32) : M Int32 := if a0 = (0 : Int32) then rt a1 else rt a0
set_option maxRecDepth 20000 in
theorem s_X6_first (a0 : Int32) (a1 : Int32) : Sm eX6_first [.int a0, .int a1] eI (f_X6_first a0 a1) := by
  intro hp vr hr H
  unfold f_X6_first at H
  show Rn none 0 0 eX6_first 0 [some (.int a0), some (.int a1)] [] hp (eI vr, hr)
  refine r_iln rfl rfl rfl ?_
  refine r_if H rfl rfl (fun H => ?_) (fun H => ?_)
  · refine r_iln rfl rfl rfl ?_
    exact r_reti H rfl rfl ⟨Nat.zero_le _, Nat.zero_le _⟩
  · refine r_iln rfl rfl rfl ?_
    refine r_go rfl ?_
    exact r_reti H rfl rfl ⟨Nat.zero_le _, Nat.zero_le _⟩
def f_X6_noPerson (a0 : Nat) (a1 : Int32) : M Int32 := bnd (gR 5 0 a0) fun r1 => bnd (gR 4 0 r1) fun r2 => bnd (cv 0 r2 (f_X0_has r2 a1)) fun t3 => if t3 = (0 : Int32) then rt (-1 : Int32) else rt (0 : Int32)
set_option maxRecDepth 20000 in
theorem s_X6_noPerson (a0 : Nat) (a1 : Int32) : Sm eX6_noPerson [.ref a0, .int a1] eI (f_X6_noPerson a0 a1) := by
  intro hp vr hr H
  unfold f_X6_noPerson at H
  show Rn none 0 0 eX6_noPerson 0 [some (.ref a0), some (.int a1)] [] hp (eI vr, hr)
  refine r_aln rfl rfl rfl ?_
  refine r_gR H rfl kd_5_0 (fun r1 H => ?_)
  refine r_gR H rfl kd_4_0 (fun r2 H => ?_)
  refine r_iln rfl rfl rfl ?_
  refine r_vtI (rest := []) H rfl rfl rfl (s_X0_has r2 a1) rfl rfl ⟨rfl, rfl⟩ rfl (fun t3 h4 H => ?_)
  refine r_if H rfl rfl (fun H => ?_) (fun H => ?_)
  · refine r_ic (v := -1) rfl ci_m1 ?_
    exact r_reti H rfl rfl ⟨Nat.zero_le _, Nat.zero_le _⟩
  · refine r_ic (v := 0) rfl ci_0 ?_
    refine r_go rfl ?_
    exact r_reti H rfl rfl ⟨Nat.zero_le _, Nat.zero_le _⟩
def f_X6_noTwo (a0 : Nat) (a1 : Int32) (a2 : Int32) : M Int32 := bnd (gR 5 0 a0) fun r1 => bnd (gR 4 0 r1) fun r2 => bnd (cv 0 r2 (f_X0_has r2 a1)) fun t3 => if t3 = (0 : Int32) then rt (-1 : Int32) else bnd (gR 5 0 a0) fun r5 => bnd (gR 4 0 r5) fun r6 => bnd (cv 0 r6 (f_X0_has r6 a2)) fun t7 => if t7 = (0 : Int32) then rt (-1 : Int32) else if a1 = a2 then rt (-1 : Int32) else rt (0 : Int32)
set_option maxRecDepth 20000 in
theorem s_X6_noTwo (a0 : Nat) (a1 : Int32) (a2 : Int32) : Sm eX6_noTwo [.ref a0, .int a1, .int a2] eI (f_X6_noTwo a0 a1 a2) := by
  intro hp vr hr H
  unfold f_X6_noTwo at H
  show Rn none 0 0 eX6_noTwo 0 [some (.ref a0), some (.int a1), some (.int a2)] [] hp (eI vr, hr)
  refine r_aln rfl rfl rfl ?_
  refine r_gR H rfl kd_5_0 (fun r1 H => ?_)
  refine r_gR H rfl kd_4_0 (fun r2 H => ?_)
  refine r_iln rfl rfl rfl ?_
  refine r_vtI (rest := []) H rfl rfl rfl (s_X0_has r2 a1) rfl rfl ⟨rfl, rfl⟩ rfl (fun t3 h4 H => ?_)
  refine r_if H rfl rfl (fun H => ?_) (fun H => ?_)
  · refine r_ic (v := -1) rfl ci_m1 ?_
    exact r_reti H rfl rfl ⟨Nat.zero_le _, Nat.zero_le _⟩
  · refine r_aln rfl rfl rfl ?_
    refine r_gR H rfl kd_5_0 (fun r5 H => ?_)
    refine r_gR H rfl kd_4_0 (fun r6 H => ?_)
    refine r_iln rfl rfl rfl ?_
    refine r_vtI (rest := []) H rfl rfl rfl (s_X0_has r6 a2) rfl rfl ⟨rfl, rfl⟩ rfl (fun t7 h8 H => ?_)
    refine r_if H rfl rfl (fun H => ?_) (fun H => ?_)
    · refine r_ic (v := -1) rfl ci_m1 ?_
      exact r_reti H rfl rfl ⟨Nat.zero_le _, Nat.zero_le _⟩
    · refine r_iln rfl rfl rfl ?_
      refine r_iln rfl rfl rfl ?_
      refine r_cmp H rfl rfl (fun H => ?_) (fun H => ?_)
      · refine r_ic (v := -1) rfl ci_m1 ?_
        exact r_reti H rfl rfl ⟨Nat.zero_le _, Nat.zero_le _⟩
      · refine r_ic (v := 0) rfl ci_0 ?_
        refine r_go rfl ?_
        exact r_reti H rfl rfl ⟨Nat.zero_le _, Nat.zero_le _⟩
def f_X6_noPlace (a0 : Int32) : M Int32 := bnd (f_X6_isPlace a0) fun t1 => if t1 = (0 : Int32) then rt (-1 : Int32) else rt (0 : Int32)
set_option maxRecDepth 20000 in
theorem s_X6_noPlace (a0 : Int32) : Sm eX6_noPlace [.int a0] eI (f_X6_noPlace a0) := by
  intro hp vr hr H
  unfold f_X6_noPlace at H
  show Rn none 0 0 eX6_noPlace 0 [some (.int a0)] [] hp (eI vr, hr)
  refine r_iln rfl rfl rfl ?_
  refine r_stI (rest := []) H rfl rfl (s_X6_isPlace a0) rfl rfl ⟨rfl, rfl⟩ rfl (fun t1 h2 H => ?_)
  refine r_if H rfl rfl (fun H => ?_) (fun H => ?_)
  · refine r_ic (v := -1) rfl ci_m1 ?_
    exact r_reti H rfl rfl ⟨Nat.zero_le _, Nat.zero_le _⟩
  · refine r_ic (v := 0) rfl ci_0 ?_
    refine r_go rfl ?_
    exact r_reti H rfl rfl ⟨Nat.zero_le _, Nat.zero_le _⟩
def f_X6_noPlaces (a0 : Int32) (a1 : Int32) : M Int32 := bnd (f_X6_isPlace a0) fun t1 => if t1 = (0 : Int32) then rt (-1 : Int32) else bnd (f_X6_isPlace a1) fun t3 => if t3 = (0 : Int32) then rt (-1 : Int32) else rt (0 : Int32)
set_option maxRecDepth 20000 in
theorem s_X6_noPlaces (a0 : Int32) (a1 : Int32) : Sm eX6_noPlaces [.int a0, .int a1] eI (f_X6_noPlaces a0 a1) := by
  intro hp vr hr H
  unfold f_X6_noPlaces at H
  show Rn none 0 0 eX6_noPlaces 0 [some (.int a0), some (.int a1)] [] hp (eI vr, hr)
  refine r_iln rfl rfl rfl ?_
  refine r_stI (rest := []) H rfl rfl (s_X6_isPlace a0) rfl rfl ⟨rfl, rfl⟩ rfl (fun t1 h2 H => ?_)
  refine r_if H rfl rfl (fun H => ?_) (fun H => ?_)
  · refine r_ic (v := -1) rfl ci_m1 ?_
    exact r_reti H rfl rfl ⟨Nat.zero_le _, Nat.zero_le _⟩
  · refine r_iln rfl rfl rfl ?_
    refine r_stI (rest := []) H rfl rfl (s_X6_isPlace a1) rfl rfl ⟨rfl, rfl⟩ rfl (fun t3 h4 H => ?_)
    refine r_if H rfl rfl (fun H => ?_) (fun H => ?_)
    · refine r_ic (v := -1) rfl ci_m1 ?_
      exact r_reti H rfl rfl ⟨Nat.zero_le _, Nat.zero_le _⟩
    · refine r_ic (v := 0) rfl ci_0 ?_
      refine r_go rfl ?_
      exact r_reti H rfl rfl ⟨Nat.zero_le _, Nat.zero_le _⟩
def f_X6_noChoice (a0 : Int32) (a1 : Int32) : M Int32 := if a0 < (0 : Int32) then rt (-2 : Int32) else if a1 ≤ a0 then rt (-2 : Int32) else rt (0 : Int32)
set_option maxRecDepth 20000 in
theorem s_X6_noChoice (a0 : Int32) (a1 : Int32) : Sm eX6_noChoice [.int a0, .int a1] eI (f_X6_noChoice a0 a1) := by
  intro hp vr hr H
  unfold f_X6_noChoice at H
  show Rn none 0 0 eX6_noChoice 0 [some (.int a0), some (.int a1)] [] hp (eI vr, hr)
  refine r_iln rfl rfl rfl ?_
  refine r_if H rfl rfl (fun H => ?_) (fun H => ?_)
  · refine r_bi (v := -2) rfl cb_m2 ?_
    exact r_reti H rfl rfl ⟨Nat.zero_le _, Nat.zero_le _⟩
  · refine r_iln rfl rfl rfl ?_
    refine r_iln rfl rfl rfl ?_
    refine r_cmp H rfl rfl (fun H => ?_) (fun H => ?_)
    · refine r_bi (v := -2) rfl cb_m2 ?_
      exact r_reti H rfl rfl ⟨Nat.zero_le _, Nat.zero_le _⟩
    · refine r_ic (v := 0) rfl ci_0 ?_
      refine r_go rfl ?_
      exact r_reti H rfl rfl ⟨Nat.zero_le _, Nat.zero_le _⟩
def f_X6_outside (a0 : Int32) (a1 : Int32) (a2 : Int32) : M Int32 := if a1 ≤ a0 then if a0 ≤ a2 then rt (0 : Int32) else rt (-6 : Int32) else rt (-4 : Int32)
set_option maxRecDepth 20000 in
theorem s_X6_outside (a0 : Int32) (a1 : Int32) (a2 : Int32) : Sm eX6_outside [.int a0, .int a1, .int a2] eI (f_X6_outside a0 a1 a2) := by
  intro hp vr hr H
  unfold f_X6_outside at H
  show Rn none 0 0 eX6_outside 0 [some (.int a0), some (.int a1), some (.int a2)] [] hp (eI vr, hr)
  refine r_iln rfl rfl rfl ?_
  refine r_iln rfl rfl rfl ?_
  refine r_cmp H rfl rfl (fun H => ?_) (fun H => ?_)
  · refine r_iln rfl rfl rfl ?_
    refine r_iln rfl rfl rfl ?_
    refine r_cmp H rfl rfl (fun H => ?_) (fun H => ?_)
    · refine r_ic (v := 0) rfl ci_0 ?_
      exact r_reti H rfl rfl ⟨Nat.zero_le _, Nat.zero_le _⟩
    · refine r_bi (v := -6) rfl cb_m6 ?_
      refine r_go rfl ?_
      exact r_reti H rfl rfl ⟨Nat.zero_le _, Nat.zero_le _⟩
  · refine r_bi (v := -4) rfl cb_m4 ?_
    exact r_reti H rfl rfl ⟨Nat.zero_le _, Nat.zero_le _⟩
