def f_X7_cut (a0 : Nat) (a1 : Int32) (a2 : Int32) : M Int32 := bnd (cv 6 a0 (f_X7_areTwo a0 a1 a2)) fun t1 => if ¬ t1 = (0 : Int32) then loopK NF (fun (s3 : Int32 × Int32) k4 => bnd (cv 6 a0 (f_X7_all a0)) fun t5 => if t5 < s3.2 then rt s3.1 else bnd (f_X7_has s3.2 a1) fun t7 => if ¬ t7 = (0 : Int32) then k4 (s3.1, (s3.2 + (1 : Int32))) else bnd (f_X7_has s3.2 a2) fun t9 => if ¬ t9 = (0 : Int32) then k4 (s3.1, (s3.2 + (1 : Int32))) else bnd (cv 6 a0 (f_X7_chainOf a0 a1 a2 s3.2)) fun t11 => if t11 ≤ (0 : Int32) then if s3.1 < (0 : Int32) then k4 (s3.2, (s3.2 + (1 : Int32))) else bnd (f_X7_bits s3.2) fun t13 => bnd (f_X7_bits s3.1) fun t15 => if t15 ≤ t13 then k4 (s3.1, (s3.2 + (1 : Int32))) else k4 (s3.2, (s3.2 + (1 : Int32))) else k4 (s3.1, (s3.2 + (1 : Int32)))) ((-9 : Int32), (0 : Int32)) else bnd (cv 6 a0 (f_X7_no a0 (-1 : Int32))) fun t17 => rt t17
set_option maxRecDepth 20000 in
theorem s_X7_cut (a0 : Nat) (a1 : Int32) (a2 : Int32) : Sm eX7_cut [.ref a0, .int a1, .int a2] eI (f_X7_cut a0 a1 a2) := by
  intro hp vr hr H
  unfold f_X7_cut at H
  show Rn none 0 0 eX7_cut 0 [some (.ref a0), some (.int a1), some (.int a2), none, none] [] hp (eI vr, hr)
  refine r_aln rfl rfl rfl ?_
  refine r_iln rfl rfl rfl ?_
  refine r_iln rfl rfl rfl ?_
  refine r_vtI (rest := []) H rfl rfl rfl (s_X7_areTwo a0 a1 a2) rfl rfl ⟨rfl, rfl⟩ rfl (fun t1 h2 H => ?_)
  refine r_if H rfl rfl (fun H => ?_) (fun H => ?_)
  · refine r_bi (v := -9) rfl cb_m9 ?_
    refine r_isn (L' := [some (.ref a0), some (.int a1), some (.int a2), some (.int (-9 : Int32)), none]) rfl rfl (Nat.le_of_ble_eq_true rfl) rfl ?_
    refine r_ic (v := 0) rfl ci_0 ?_
    refine r_is (L' := [some (.ref a0), some (.int a1), some (.int a2), some (.int (-9 : Int32)), some (.int (0 : Int32))]) rfl (Nat.le_of_ble_eq_true rfl) rfl ?_
    refine (r_loop (P := (fun (s3 : Int32 × Int32) hq => ∀ ys3_0 : Int32, ∀ ys3_1 : Int32, s3 = (ys3_0, ys3_1) → Rn none 0 0 eX7_cut 13 [some (.ref a0), some (.int a1), some (.int a2), some (.int ys3_0), some (.int ys3_1)] [] hq (eI vr, hr))) ?_ NF _ _ H) _ _ rfl
    intro k4 K4 s3 hs3 H ys3_0 ys3_1 es3 
    subst es3
    refine r_il rfl rfl ?_
    refine r_aln rfl rfl rfl ?_
    refine r_vtI (rest := [.int ys3_1]) H rfl rfl rfl (s_X7_all a0) rfl rfl ⟨rfl, rfl⟩ rfl (fun t5 h6 H => ?_)
    refine r_cmp H rfl rfl (fun H => ?_) (fun H => ?_)
    · refine r_iln rfl rfl rfl ?_
      exact r_reti H rfl rfl ⟨Nat.zero_le _, Nat.zero_le _⟩
    · refine r_il rfl rfl ?_
      refine r_iln rfl rfl rfl ?_
      refine r_stI (rest := []) H rfl rfl (s_X7_has ys3_1 a1) rfl rfl ⟨rfl, rfl⟩ rfl (fun t7 h8 H => ?_)
      refine r_if H rfl rfl (fun H => ?_) (fun H => ?_)
      · refine r_inc (v := 1) (L' := [some (.ref a0), some (.int a1), some (.int a2), some (.int ys3_0), some (.int (ys3_1 + (1 : Int32)))]) rfl rfl ci_1 rfl ?_
        refine r_go rfl ?_
        have q := K4 _ _ H _ _ rfl
        exact q
      · refine r_il rfl rfl ?_
        refine r_iln rfl rfl rfl ?_
        refine r_stI (rest := []) H rfl rfl (s_X7_has ys3_1 a2) rfl rfl ⟨rfl, rfl⟩ rfl (fun t9 h10 H => ?_)
        refine r_if H rfl rfl (fun H => ?_) (fun H => ?_)
        · refine r_inc (v := 1) (L' := [some (.ref a0), some (.int a1), some (.int a2), some (.int ys3_0), some (.int (ys3_1 + (1 : Int32)))]) rfl rfl ci_1 rfl ?_
          refine r_go rfl ?_
          have q := K4 _ _ H _ _ rfl
          exact q
        · refine r_aln rfl rfl rfl ?_
          refine r_iln rfl rfl rfl ?_
          refine r_iln rfl rfl rfl ?_
          refine r_il rfl rfl ?_
          refine r_vtI (rest := []) H rfl rfl rfl (s_X7_chainOf a0 a1 a2 ys3_1) rfl rfl ⟨rfl, rfl⟩ rfl (fun t11 h12 H => ?_)
          refine r_if H rfl rfl (fun H => ?_) (fun H => ?_)
          · refine r_iln rfl rfl rfl ?_
            refine r_if H rfl rfl (fun H => ?_) (fun H => ?_)
            · refine r_il rfl rfl ?_
              refine r_isn (L' := [some (.ref a0), some (.int a1), some (.int a2), some (.int ys3_1), some (.int ys3_1)]) rfl rfl (Nat.le_of_ble_eq_true rfl) rfl ?_
              refine r_inc (v := 1) (L' := [some (.ref a0), some (.int a1), some (.int a2), some (.int ys3_1), some (.int (ys3_1 + (1 : Int32)))]) rfl rfl ci_1 rfl ?_
              refine r_go rfl ?_
              have q := K4 _ _ H _ _ rfl
              exact q
            · refine r_il rfl rfl ?_
              refine r_stI (rest := []) H rfl rfl (s_X7_bits ys3_1) rfl rfl ⟨rfl, rfl⟩ rfl (fun t13 h14 H => ?_)
              refine r_iln rfl rfl rfl ?_
              refine r_stI (rest := [.int t13]) H rfl rfl (s_X7_bits ys3_0) rfl rfl ⟨rfl, rfl⟩ rfl (fun t15 h16 H => ?_)
              refine r_cmp H rfl rfl (fun H => ?_) (fun H => ?_)
              · refine r_inc (v := 1) (L' := [some (.ref a0), some (.int a1), some (.int a2), some (.int ys3_0), some (.int (ys3_1 + (1 : Int32)))]) rfl rfl ci_1 rfl ?_
                refine r_go rfl ?_
                have q := K4 _ _ H _ _ rfl
                exact q
              · refine r_il rfl rfl ?_
                refine r_isn (L' := [some (.ref a0), some (.int a1), some (.int a2), some (.int ys3_1), some (.int ys3_1)]) rfl rfl (Nat.le_of_ble_eq_true rfl) rfl ?_
                refine r_inc (v := 1) (L' := [some (.ref a0), some (.int a1), some (.int a2), some (.int ys3_1), some (.int (ys3_1 + (1 : Int32)))]) rfl rfl ci_1 rfl ?_
                refine r_go rfl ?_
                have q := K4 _ _ H _ _ rfl
                exact q
          · refine r_go rfl ?_
            refine r_inc (v := 1) (L' := [some (.ref a0), some (.int a1), some (.int a2), some (.int ys3_0), some (.int (ys3_1 + (1 : Int32)))]) rfl rfl ci_1 rfl ?_
            refine r_go rfl ?_
            have q := K4 _ _ H _ _ rfl
            exact q
  · refine r_aln rfl rfl rfl ?_
    refine r_ic (v := -1) rfl ci_m1 ?_
    refine r_vtI (rest := []) H rfl rfl rfl (s_X7_no a0 (-1 : Int32)) rfl rfl ⟨rfl, rfl⟩ rfl (fun t17 h18 H => ?_)
    exact r_reti H rfl rfl ⟨Nat.zero_le _, Nat.zero_le _⟩
def f_X7_wanted (a0 : Nat) (a1 : Int32) (a2 : Int32) : M Int32 := bnd (cv 6 a0 (f_X7_isPerson a0 a1)) fun t1 => jn (fun k4 => if ¬ t1 = (0 : Int32) then bnd (f_X7_bound a2 (0 : Int32) (99 : Int32)) fun t13 => k4 t13 else k4 (-1 : Int32)) (fun (s3 : Int32) => if s3 = (0 : Int32) then bnd (cv 6 a0 (f_X7_findWeeks a0 (60 : Int32))) fun _ => loopK NF (fun (s7 : Int32) k8 => if (60 : Int32) < s7 then rt (-9 : Int32) else bnd (cv 6 a0 (f_X7_beliefAt a0 s7 a1)) fun t9 => if t9 < a2 then k8 (s7 + (1 : Int32)) else rt s7) (0 : Int32) else bnd (cv 6 a0 (f_X7_no a0 s3)) fun t11 => rt t11)
set_option maxRecDepth 20000 in
theorem s_X7_wanted (a0 : Nat) (a1 : Int32) (a2 : Int32) : Sm eX7_wanted [.ref a0, .int a1, .int a2] eI (f_X7_wanted a0 a1 a2) := by
  intro hp vr hr H
  unfold f_X7_wanted at H
  show Rn none 0 0 eX7_wanted 0 [some (.ref a0), some (.int a1), some (.int a2), none, none] [] hp (eI vr, hr)
  refine r_aln rfl rfl rfl ?_
  refine r_iln rfl rfl rfl ?_
  refine r_vtI (rest := []) H rfl rfl rfl (s_X7_isPerson a0 a1) rfl rfl ⟨rfl, rfl⟩ rfl (fun t1 h2 H => ?_)
  refine r_jn (P := (fun (s3 : Int32) hq => Rn none 0 0 eX7_wanted 10 [some (.ref a0), some (.int a1), some (.int a2), none, none] [.int s3] hq (eI vr, hr))) H (fun s3 hs3 H  => ?_) (fun k4 K4 H => ?_)
  · refine r_isn (L' := [some (.ref a0), some (.int a1), some (.int a2), some (.int s3), none]) rfl rfl (Nat.le_of_ble_eq_true rfl) rfl ?_
    refine r_iln rfl rfl rfl ?_
    refine r_if H rfl rfl (fun H => ?_) (fun H => ?_)
    · refine r_aln rfl rfl rfl ?_
      refine r_bi (v := 60) rfl cb_60 ?_
      refine r_vtU (rest := []) H rfl rfl rfl (s_X7_findWeeks a0 (60 : Int32)) rfl rfl ⟨rfl, rfl⟩ rfl (fun t5 h6 H => ?_)
      refine r_ic (v := 0) rfl ci_0 ?_
      refine r_is (L' := [some (.ref a0), some (.int a1), some (.int a2), some (.int s3), some (.int (0 : Int32))]) rfl (Nat.le_of_ble_eq_true rfl) rfl ?_
      refine (r_loop (P := (fun (s7 : Int32) hq => Rn none 0 0 eX7_wanted 22 [some (.ref a0), some (.int a1), some (.int a2), some (.int s3), some (.int s7)] [] hq (eI vr, hr))) ?_ NF _ _ H)
      intro k8 K8 s7 hs7 H 
      refine r_il rfl rfl ?_
      refine r_bi (v := 60) rfl cb_60 ?_
      refine r_cmp H rfl rfl (fun H => ?_) (fun H => ?_)
      · refine r_bi (v := -9) rfl cb_m9 ?_
        exact r_reti H rfl rfl ⟨Nat.zero_le _, Nat.zero_le _⟩
      · refine r_aln rfl rfl rfl ?_
        refine r_il rfl rfl ?_
        refine r_iln rfl rfl rfl ?_
        refine r_vtI (rest := []) H rfl rfl rfl (s_X7_beliefAt a0 s7 a1) rfl rfl ⟨rfl, rfl⟩ rfl (fun t9 h10 H => ?_)
        refine r_iln rfl rfl rfl ?_
        refine r_cmp H rfl rfl (fun H => ?_) (fun H => ?_)
        · refine r_inc (v := 1) (L' := [some (.ref a0), some (.int a1), some (.int a2), some (.int s3), some (.int (s7 + (1 : Int32)))]) rfl rfl ci_1 rfl ?_
          refine r_go rfl ?_
          have q := K8 _ _ H
          exact q
        · refine r_il rfl rfl ?_
          exact r_reti H rfl rfl ⟨Nat.zero_le _, Nat.zero_le _⟩
    · refine r_aln rfl rfl rfl ?_
      refine r_iln rfl rfl rfl ?_
      refine r_vtI (rest := []) H rfl rfl rfl (s_X7_no a0 s3) rfl rfl ⟨rfl, rfl⟩ rfl (fun t11 h12 H => ?_)
      exact r_reti H rfl rfl ⟨Nat.zero_le _, Nat.zero_le _⟩
  · refine r_if H rfl rfl (fun H => ?_) (fun H => ?_)
    · refine r_iln rfl rfl rfl ?_
      refine r_ic (v := 0) rfl ci_0 ?_
      refine r_bi (v := 99) rfl cb_99 ?_
      refine r_stI (rest := []) H rfl rfl (s_X7_bound a2 (0 : Int32) (99 : Int32)) rfl rfl ⟨rfl, rfl⟩ rfl (fun t13 h14 H => ?_)
      have q := K4 _ _ H
      exact q
    · refine r_ic (v := -1) rfl ci_m1 ?_
      refine r_go rfl ?_
      have q := K4 _ _ H
      exact q
def f_X7_panel (a0 : Nat) (a1 : Int32) (a2 : Int32) : M Int32 := bnd (cv 6 a0 (f_X7_isPerson a0 a1)) fun t1 => jn (fun k4 => if ¬ t1 = (0 : Int32) then bnd (f_X7_bound a2 (1 : Int32) (6 : Int32)) fun t19 => k4 t19 else k4 (-1 : Int32)) (fun (s3 : Int32) => if s3 = (0 : Int32) then loopK NF (fun (s5 : Int32 × Int32) k6 => bnd (cv 6 a0 (f_X7_all a0)) fun t7 => if t7 < s5.2 then rt s5.1 else bnd (cv 6 a0 (f_X7_isOf a0 s5.2 a1)) fun t9 => if t9 = (0 : Int32) then k6 (s5.1, (s5.2 + (1 : Int32))) else bnd (f_X7_bits s5.2) fun t11 => if ¬ t11 = a2 then k6 (s5.1, (s5.2 + (1 : Int32))) else if s5.1 < (0 : Int32) then k6 (s5.2, (s5.2 + (1 : Int32))) else bnd (cv 6 a0 (f_X7_meanOf a0 a1 s5.2)) fun t13 => bnd (cv 6 a0 (f_X7_meanOf a0 a1 s5.1)) fun t15 => if t13 ≤ t15 then k6 (s5.1, (s5.2 + (1 : Int32))) else k6 (s5.2, (s5.2 + (1 : Int32)))) ((-9 : Int32), (1 : Int32)) else bnd (cv 6 a0 (f_X7_no a0 s3)) fun t17 => rt t17)
set_option maxRecDepth 20000 in
theorem s_X7_panel (a0 : Nat) (a1 : Int32) (a2 : Int32) : Sm eX7_panel [.ref a0, .int a1, .int a2] eI (f_X7_panel a0 a1 a2) := by
  intro hp vr hr H
  unfold f_X7_panel at H
  show Rn none 0 0 eX7_panel 0 [some (.ref a0), some (.int a1), some (.int a2), none, none, none] [] hp (eI vr, hr)
  refine r_aln rfl rfl rfl ?_
  refine r_iln rfl rfl rfl ?_
  refine r_vtI (rest := []) H rfl rfl rfl (s_X7_isPerson a0 a1) rfl rfl ⟨rfl, rfl⟩ rfl (fun t1 h2 H => ?_)
  refine r_jn (P := (fun (s3 : Int32) hq => Rn none 0 0 eX7_panel 10 [some (.ref a0), some (.int a1), some (.int a2), none, none, none] [.int s3] hq (eI vr, hr))) H (fun s3 hs3 H  => ?_) (fun k4 K4 H => ?_)
  · refine r_isn (L' := [some (.ref a0), some (.int a1), some (.int a2), some (.int s3), none, none]) rfl rfl (Nat.le_of_ble_eq_true rfl) rfl ?_
    refine r_iln rfl rfl rfl ?_
    refine r_if H rfl rfl (fun H => ?_) (fun H => ?_)
    · refine r_bi (v := -9) rfl cb_m9 ?_
      refine r_is (L' := [some (.ref a0), some (.int a1), some (.int a2), some (.int s3), some (.int (-9 : Int32)), none]) rfl (Nat.le_of_ble_eq_true rfl) rfl ?_
      refine r_ic (v := 1) rfl ci_1 ?_
      refine r_is (L' := [some (.ref a0), some (.int a1), some (.int a2), some (.int s3), some (.int (-9 : Int32)), some (.int (1 : Int32))]) rfl (Nat.le_of_ble_eq_true rfl) rfl ?_
      refine (r_loop (P := (fun (s5 : Int32 × Int32) hq => ∀ ys5_0 : Int32, ∀ ys5_1 : Int32, s5 = (ys5_0, ys5_1) → Rn none 0 0 eX7_panel 21 [some (.ref a0), some (.int a1), some (.int a2), some (.int s3), some (.int ys5_0), some (.int ys5_1)] [] hq (eI vr, hr))) ?_ NF _ _ H) _ _ rfl
      intro k6 K6 s5 hs5 H ys5_0 ys5_1 es5 
      subst es5
      refine r_il rfl rfl ?_
      refine r_aln rfl rfl rfl ?_
      refine r_vtI (rest := [.int ys5_1]) H rfl rfl rfl (s_X7_all a0) rfl rfl ⟨rfl, rfl⟩ rfl (fun t7 h8 H => ?_)
      refine r_cmp H rfl rfl (fun H => ?_) (fun H => ?_)
      · refine r_il rfl rfl ?_
        exact r_reti H rfl rfl ⟨Nat.zero_le _, Nat.zero_le _⟩
      · refine r_aln rfl rfl rfl ?_
        refine r_il rfl rfl ?_
        refine r_iln rfl rfl rfl ?_
        refine r_vtI (rest := []) H rfl rfl rfl (s_X7_isOf a0 ys5_1 a1) rfl rfl ⟨rfl, rfl⟩ rfl (fun t9 h10 H => ?_)
        refine r_if H rfl rfl (fun H => ?_) (fun H => ?_)
        · refine r_inc (v := 1) (L' := [some (.ref a0), some (.int a1), some (.int a2), some (.int s3), some (.int ys5_0), some (.int (ys5_1 + (1 : Int32)))]) rfl rfl ci_1 rfl ?_
          refine r_go rfl ?_
          have q := K6 _ _ H _ _ rfl
          exact q
        · refine r_il rfl rfl ?_
          refine r_stI (rest := []) H rfl rfl (s_X7_bits ys5_1) rfl rfl ⟨rfl, rfl⟩ rfl (fun t11 h12 H => ?_)
          refine r_iln rfl rfl rfl ?_
          refine r_cmp H rfl rfl (fun H => ?_) (fun H => ?_)
          · refine r_inc (v := 1) (L' := [some (.ref a0), some (.int a1), some (.int a2), some (.int s3), some (.int ys5_0), some (.int (ys5_1 + (1 : Int32)))]) rfl rfl ci_1 rfl ?_
            refine r_go rfl ?_
            have q := K6 _ _ H _ _ rfl
            exact q
          · refine r_il rfl rfl ?_
            refine r_if H rfl rfl (fun H => ?_) (fun H => ?_)
            · refine r_il rfl rfl ?_
              refine r_is (L' := [some (.ref a0), some (.int a1), some (.int a2), some (.int s3), some (.int ys5_1), some (.int ys5_1)]) rfl (Nat.le_of_ble_eq_true rfl) rfl ?_
              refine r_inc (v := 1) (L' := [some (.ref a0), some (.int a1), some (.int a2), some (.int s3), some (.int ys5_1), some (.int (ys5_1 + (1 : Int32)))]) rfl rfl ci_1 rfl ?_
              refine r_go rfl ?_
              have q := K6 _ _ H _ _ rfl
              exact q
            · refine r_aln rfl rfl rfl ?_
              refine r_iln rfl rfl rfl ?_
              refine r_il rfl rfl ?_
              refine r_vtI (rest := []) H rfl rfl rfl (s_X7_meanOf a0 a1 ys5_1) rfl rfl ⟨rfl, rfl⟩ rfl (fun t13 h14 H => ?_)
              refine r_aln rfl rfl rfl ?_
              refine r_iln rfl rfl rfl ?_
              refine r_il rfl rfl ?_
              refine r_vtI (rest := [.int t13]) H rfl rfl rfl (s_X7_meanOf a0 a1 ys5_0) rfl rfl ⟨rfl, rfl⟩ rfl (fun t15 h16 H => ?_)
              refine r_cmp H rfl rfl (fun H => ?_) (fun H => ?_)
              · refine r_inc (v := 1) (L' := [some (.ref a0), some (.int a1), some (.int a2), some (.int s3), some (.int ys5_0), some (.int (ys5_1 + (1 : Int32)))]) rfl rfl ci_1 rfl ?_
                refine r_go rfl ?_
                have q := K6 _ _ H _ _ rfl
                exact q
              · refine r_il rfl rfl ?_
                refine r_is (L' := [some (.ref a0), some (.int a1), some (.int a2), some (.int s3), some (.int ys5_1), some (.int ys5_1)]) rfl (Nat.le_of_ble_eq_true rfl) rfl ?_
                refine r_inc (v := 1) (L' := [some (.ref a0), some (.int a1), some (.int a2), some (.int s3), some (.int ys5_1), some (.int (ys5_1 + (1 : Int32)))]) rfl rfl ci_1 rfl ?_
                refine r_go rfl ?_
                have q := K6 _ _ H _ _ rfl
                exact q
    · refine r_aln rfl rfl rfl ?_
      refine r_iln rfl rfl rfl ?_
      refine r_vtI (rest := []) H rfl rfl rfl (s_X7_no a0 s3) rfl rfl ⟨rfl, rfl⟩ rfl (fun t17 h18 H => ?_)
      exact r_reti H rfl rfl ⟨Nat.zero_le _, Nat.zero_le _⟩
  · refine r_if H rfl rfl (fun H => ?_) (fun H => ?_)
    · refine r_iln rfl rfl rfl ?_
      refine r_ic (v := 1) rfl ci_1 ?_
      refine r_bi (v := 6) rfl cb_6 ?_
      refine r_stI (rest := []) H rfl rfl (s_X7_bound a2 (1 : Int32) (6 : Int32)) rfl rfl ⟨rfl, rfl⟩ rfl (fun t19 h20 H => ?_)
      have q := K4 _ _ H
      exact q
    · refine r_ic (v := -1) rfl ci_m1 ?_
      refine r_go rfl ?_
      have q := K4 _ _ H
      exact q
def f_X7_changed (a0 : Nat) (a1 : Int32) (a2 : Int32) (a3 : Int32) : M Int32 := bnd (cv 6 a0 (f_X7_isPerson a0 a1)) fun t1 => jn (fun k4 => if ¬ t1 = (0 : Int32) then if a2 < (0 : Int32) then k4 (-4 : Int32) else if (0 : Int32) ≤ a3 then if (60 : Int32) < a2 then k4 (-6 : Int32) else if a3 ≤ (9 : Int32) then k4 (0 : Int32) else k4 (-6 : Int32) else k4 (-4 : Int32) else k4 (-1 : Int32)) (fun (s3 : Int32) => if s3 = (0 : Int32) then bnd (cv 6 a0 (f_X7_findWeeks a0 a2)) fun _ => loopK NF (fun (s7 : Int32) k8 => bnd (gI 6 8 a0) fun t9 => if t9 ≤ s7 then bnd (gR 6 2 a0) fun r10 => bnd (aI r10 a1) fun t11 => bnd (gR 6 2 a0) fun r12 => bnd (sI r12 a1 a3) fun _ => bnd (cv 6 a0 (f_X7_findWeeks a0 a2)) fun _ => bnd (gR 6 2 a0) fun r15 => bnd (sI r15 a1 t11) fun _ => loopK NF (fun (s16 : Int32 × Int32) k17 => bnd (gI 6 8 a0) fun t18 => if t18 ≤ s16.2 then rt s16.1 else bnd (gR 6 27 a0) fun r19 => bnd (aI r19 s16.2) fun t20 => bnd (cv 6 a0 (f_X7_beliefAt a0 a2 s16.2)) fun t21 => if ¬ t20 = t21 then k17 ((s16.1 + (1 : Int32)), (s16.2 + (1 : Int32))) else k17 ((s16.1 + (0 : Int32)), (s16.2 + (1 : Int32)))) ((0 : Int32), (0 : Int32)) else bnd (gR 6 27 a0) fun r23 => bnd (cv 6 a0 (f_X7_beliefAt a0 a2 s7)) fun t24 => bnd (sI r23 s7 t24) fun _ => k8 (s7 + (1 : Int32))) (0 : Int32) else bnd (cv 6 a0 (f_X7_no a0 s3)) fun t26 => rt t26)
set_option maxRecDepth 20000 in
theorem s_X7_changed (a0 : Nat) (a1 : Int32) (a2 : Int32) (a3 : Int32) : Sm eX7_changed [.ref a0, .int a1, .int a2, .int a3] eI (f_X7_changed a0 a1 a2 a3) := by
  intro hp vr hr H
  unfold f_X7_changed at H
  show Rn none 0 0 eX7_changed 0 [some (.ref a0), some (.int a1), some (.int a2), some (.int a3), none, none, none, none] [] hp (eI vr, hr)
  refine r_aln rfl rfl rfl ?_
  refine r_iln rfl rfl rfl ?_
  refine r_vtI (rest := []) H rfl rfl rfl (s_X7_isPerson a0 a1) rfl rfl ⟨rfl, rfl⟩ rfl (fun t1 h2 H => ?_)
  refine r_jn (P := (fun (s3 : Int32) hq => Rn none 0 0 eX7_changed 21 [some (.ref a0), some (.int a1), some (.int a2), some (.int a3), none, none, none, none] [.int s3] hq (eI vr, hr))) H (fun s3 hs3 H  => ?_) (fun k4 K4 H => ?_)
  · refine r_is (L' := [some (.ref a0), some (.int a1), some (.int a2), some (.int a3), some (.int s3), none, none, none]) rfl (Nat.le_of_ble_eq_true rfl) rfl ?_
    refine r_il rfl rfl ?_
    refine r_if H rfl rfl (fun H => ?_) (fun H => ?_)
    · refine r_aln rfl rfl rfl ?_
      refine r_iln rfl rfl rfl ?_
      refine r_vtU (rest := []) H rfl rfl rfl (s_X7_findWeeks a0 a2) rfl rfl ⟨rfl, rfl⟩ rfl (fun t5 h6 H => ?_)
      refine r_ic (v := 0) rfl ci_0 ?_
      refine r_is (L' := [some (.ref a0), some (.int a1), some (.int a2), some (.int a3), some (.int s3), some (.int (0 : Int32)), none, none]) rfl (Nat.le_of_ble_eq_true rfl) rfl ?_
      refine (r_loop (P := (fun (s7 : Int32) hq => Rn none 0 0 eX7_changed 33 [some (.ref a0), some (.int a1), some (.int a2), some (.int a3), some (.int s3), some (.int s7), none, none] [] hq (eI vr, hr))) ?_ NF _ _ H)
      intro k8 K8 s7 hs7 H 
      refine r_il rfl rfl ?_
      refine r_aln rfl rfl rfl ?_
      refine r_gI' H rfl kl_6_8 (fun t9 H => ?_)
      refine r_cmp H rfl rfl (fun H => ?_) (fun H => ?_)
      · refine r_aln rfl rfl rfl ?_
        refine r_gR H rfl kd_6_2 (fun r10 H => ?_)
        refine r_iln rfl rfl rfl ?_
        refine r_aI' H rfl (fun t11 H => ?_)
        refine r_is (L' := [some (.ref a0), some (.int a1), some (.int a2), some (.int a3), some (.int s3), some (.int t11), none, none]) rfl (Nat.le_of_ble_eq_true rfl) rfl ?_
        refine r_aln rfl rfl rfl ?_
        refine r_gR H rfl kd_6_2 (fun r12 H => ?_)
        refine r_iln rfl rfl rfl ?_
        refine r_iln rfl rfl rfl ?_
        refine r_sI H rfl (fun H => ?_)
        refine r_aln rfl rfl rfl ?_
        refine r_iln rfl rfl rfl ?_
        refine r_vtU (rest := []) H rfl rfl rfl (s_X7_findWeeks a0 a2) rfl rfl ⟨rfl, rfl⟩ rfl (fun t13 h14 H => ?_)
        refine r_aln rfl rfl rfl ?_
        refine r_gR H rfl kd_6_2 (fun r15 H => ?_)
        refine r_iln rfl rfl rfl ?_
        refine r_il rfl rfl ?_
        refine r_sI H rfl (fun H => ?_)
        refine r_ic (v := 0) rfl ci_0 ?_
        refine r_is (L' := [some (.ref a0), some (.int a1), some (.int a2), some (.int a3), some (.int s3), some (.int t11), some (.int (0 : Int32)), none]) rfl (Nat.le_of_ble_eq_true rfl) rfl ?_
        refine r_ic (v := 0) rfl ci_0 ?_
        refine r_is (L' := [some (.ref a0), some (.int a1), some (.int a2), some (.int a3), some (.int s3), some (.int t11), some (.int (0 : Int32)), some (.int (0 : Int32))]) rfl (Nat.le_of_ble_eq_true rfl) rfl ?_
        refine (r_loop (P := (fun (s16 : Int32 × Int32) hq => ∀ ys16_0 : Int32, ∀ ys16_1 : Int32, s16 = (ys16_0, ys16_1) → Rn none 0 0 eX7_changed 69 [some (.ref a0), some (.int a1), some (.int a2), some (.int a3), some (.int s3), some (.int t11), some (.int ys16_0), some (.int ys16_1)] [] hq (eI vr, hr))) ?_ NF _ _ H) _ _ rfl
        intro k17 K17 s16 hs16 H ys16_0 ys16_1 es16 
        subst es16
        refine r_il rfl rfl ?_
        refine r_aln rfl rfl rfl ?_
        refine r_gI' H rfl kl_6_8 (fun t18 H => ?_)
        refine r_cmp H rfl rfl (fun H => ?_) (fun H => ?_)
        · refine r_il rfl rfl ?_
          exact r_reti H rfl rfl ⟨Nat.zero_le _, Nat.zero_le _⟩
        · refine r_il rfl rfl ?_
          refine r_aln rfl rfl rfl ?_
          refine r_gR H rfl kd_6_27 (fun r19 H => ?_)
          refine r_il rfl rfl ?_
          refine r_aI' H rfl (fun t20 H => ?_)
          refine r_aln rfl rfl rfl ?_
          refine r_iln rfl rfl rfl ?_
          refine r_il rfl rfl ?_
          refine r_vtI (rest := [.int t20, .int ys16_0]) H rfl rfl rfl (s_X7_beliefAt a0 a2 ys16_1) rfl rfl ⟨rfl, rfl⟩ rfl (fun t21 h22 H => ?_)
          refine r_cmp H rfl rfl (fun H => ?_) (fun H => ?_)
          · refine r_ic (v := 1) rfl ci_1 ?_
            refine r_add rfl ?_
            refine r_is (L' := [some (.ref a0), some (.int a1), some (.int a2), some (.int a3), some (.int s3), some (.int t11), some (.int (ys16_0 + (1 : Int32))), some (.int ys16_1)]) rfl (Nat.le_of_ble_eq_true rfl) rfl ?_
            refine r_inc (v := 1) (L' := [some (.ref a0), some (.int a1), some (.int a2), some (.int a3), some (.int s3), some (.int t11), some (.int (ys16_0 + (1 : Int32))), some (.int (ys16_1 + (1 : Int32)))]) rfl rfl ci_1 rfl ?_
            refine r_go rfl ?_
            have q := K17 _ _ H _ _ rfl
            exact q
          · refine r_ic (v := 0) rfl ci_0 ?_
            refine r_go rfl ?_
            refine r_add rfl ?_
            refine r_is (L' := [some (.ref a0), some (.int a1), some (.int a2), some (.int a3), some (.int s3), some (.int t11), some (.int (ys16_0 + (0 : Int32))), some (.int ys16_1)]) rfl (Nat.le_of_ble_eq_true rfl) rfl ?_
            refine r_inc (v := 1) (L' := [some (.ref a0), some (.int a1), some (.int a2), some (.int a3), some (.int s3), some (.int t11), some (.int (ys16_0 + (0 : Int32))), some (.int (ys16_1 + (1 : Int32)))]) rfl rfl ci_1 rfl ?_
            refine r_go rfl ?_
            have q := K17 _ _ H _ _ rfl
            exact q
      · refine r_aln rfl rfl rfl ?_
        refine r_gR H rfl kd_6_27 (fun r23 H => ?_)
        refine r_il rfl rfl ?_
        refine r_aln rfl rfl rfl ?_
        refine r_iln rfl rfl rfl ?_
        refine r_il rfl rfl ?_
        refine r_vtI (rest := [.int s7, .ref r23]) H rfl rfl rfl (s_X7_beliefAt a0 a2 s7) rfl rfl ⟨rfl, rfl⟩ rfl (fun t24 h25 H => ?_)
        refine r_sI H rfl (fun H => ?_)
        refine r_inc (v := 1) (L' := [some (.ref a0), some (.int a1), some (.int a2), some (.int a3), some (.int s3), some (.int (s7 + (1 : Int32))), none, none]) rfl rfl ci_1 rfl ?_
        refine r_go rfl ?_
        have q := K8 _ _ H
        exact q
    · refine r_aln rfl rfl rfl ?_
      refine r_il rfl rfl ?_
      refine r_vtI (rest := []) H rfl rfl rfl (s_X7_no a0 s3) rfl rfl ⟨rfl, rfl⟩ rfl (fun t26 h27 H => ?_)
      exact r_reti H rfl rfl ⟨Nat.zero_le _, Nat.zero_le _⟩
  · refine r_if H rfl rfl (fun H => ?_) (fun H => ?_)
    · refine r_iln rfl rfl rfl ?_
      refine r_if H rfl rfl (fun H => ?_) (fun H => ?_)
      · refine r_bi (v := -4) rfl cb_m4 ?_
        refine r_go rfl ?_
        have q := K4 _ _ H
        exact q
      · refine r_iln rfl rfl rfl ?_
        refine r_if H rfl rfl (fun H => ?_) (fun H => ?_)
        · refine r_iln rfl rfl rfl ?_
          refine r_bi (v := 60) rfl cb_60 ?_
          refine r_cmp H rfl rfl (fun H => ?_) (fun H => ?_)
          · refine r_bi (v := -6) rfl cb_m6 ?_
            refine r_go rfl ?_
            have q := K4 _ _ H
            exact q
          · refine r_iln rfl rfl rfl ?_
            refine r_bi (v := 9) rfl cb_9 ?_
            refine r_cmp H rfl rfl (fun H => ?_) (fun H => ?_)
            · refine r_ic (v := 0) rfl ci_0 ?_
              have q := K4 _ _ H
              exact q
            · refine r_bi (v := -6) rfl cb_m6 ?_
              refine r_go rfl ?_
              have q := K4 _ _ H
              exact q
        · refine r_bi (v := -4) rfl cb_m4 ?_
          refine r_go rfl ?_
          have q := K4 _ _ H
          exact q
    · refine r_ic (v := -1) rfl ci_m1 ?_
      refine r_go rfl ?_
      have q := K4 _ _ H
      exact q
def f_X7_stepsOn (a0 : Nat) (a1 : Int32) (a2 : Int32) : M Int32 := loopK NF (fun (s1 : Int32 × Int32) k2 => if (8 : Int32) ≤ s1.2 then retZ s1.1 else bnd (divM a1 (8 : Int32)) fun t4 => bnd (gR 6 6 a0) fun r5 => bnd (remM a1 (8 : Int32)) fun t6 => bnd (aI r5 t6) fun t7 => bnd (f_X7_has t7 s1.2) fun t8 => if t8 = (0 : Int32) then k2 (s1.1, (s1.2 + (1 : Int32))) else bnd (gR 6 29 a0) fun r10 => bnd (aI r10 (((8 : Int32) * (t4 ||| ((1 : Int32) <<< (s1.2 &&& (31 : Int32))))) + s1.2)) fun t11 => if a2 < t11 then bnd (gR 6 29 a0) fun r12 => bnd (sI r12 (((8 : Int32) * (t4 ||| ((1 : Int32) <<< (s1.2 &&& (31 : Int32))))) + s1.2) a2) fun _ => k2 ((1 : Int32), (s1.2 + (1 : Int32))) else k2 (s1.1, (s1.2 + (1 : Int32)))) ((0 : Int32), (0 : Int32))
set_option maxRecDepth 20000 in
theorem s_X7_stepsOn (a0 : Nat) (a1 : Int32) (a2 : Int32) : Sm eX7_stepsOn [.ref a0, .int a1, .int a2] eI (f_X7_stepsOn a0 a1 a2) := by
  intro hp vr hr H
  unfold f_X7_stepsOn at H
  show Rn none 0 0 eX7_stepsOn 0 [some (.ref a0), some (.int a1), some (.int a2), none, none, none] [] hp (eI vr, hr)
  refine r_ic (v := 0) rfl ci_0 ?_
  refine r_isn (L' := [some (.ref a0), some (.int a1), some (.int a2), some (.int (0 : Int32)), none, none]) rfl rfl (Nat.le_of_ble_eq_true rfl) rfl ?_
  refine r_ic (v := 0) rfl ci_0 ?_
  refine r_is (L' := [some (.ref a0), some (.int a1), some (.int a2), some (.int (0 : Int32)), some (.int (0 : Int32)), none]) rfl (Nat.le_of_ble_eq_true rfl) rfl ?_
  refine (r_loop (P := (fun (s1 : Int32 × Int32) hq => ∀ ys1_0 : Int32, ∀ ys1_1 : Int32, s1 = (ys1_0, ys1_1) → ∀ x3 : Option Value, Rn none 0 0 eX7_stepsOn 4 [some (.ref a0), some (.int a1), some (.int a2), some (.int ys1_0), some (.int ys1_1), x3] [] hq (eI vr, hr))) ?_ NF _ _ H) _ _ rfl _
  intro k2 K2 s1 hs1 H ys1_0 ys1_1 es1 x3
  subst es1
  refine r_il rfl rfl ?_
  refine r_bi (v := 8) rfl cb_8 ?_
  refine r_cmp H rfl rfl (fun H => ?_) (fun H => ?_)
  · refine r_iln rfl rfl rfl ?_
    exact r_retz H rfl rfl ⟨Nat.zero_le _, Nat.zero_le _⟩
  · refine r_bi (v := 8) rfl cb_8 ?_
    refine r_iln rfl rfl rfl ?_
    refine r_bi (v := 8) rfl cb_8 ?_
    refine r_div H rfl (fun H => ?_)
    refine r_ic (v := 1) rfl ci_1 ?_
    refine r_il rfl rfl ?_
    refine r_shl rfl ?_
    refine r_or rfl ?_
    refine r_mul rfl ?_
    refine r_il rfl rfl ?_
    refine r_add rfl ?_
    refine r_is (L' := [some (.ref a0), some (.int a1), some (.int a2), some (.int ys1_0), some (.int ys1_1), some (.int (((8 : Int32) * ((a1 / (8 : Int32)) ||| ((1 : Int32) <<< (ys1_1 &&& (31 : Int32))))) + ys1_1))]) rfl (Nat.le_of_ble_eq_true rfl) rfl ?_
    refine r_aln rfl rfl rfl ?_
    refine r_gR H rfl kd_6_6 (fun r5 H => ?_)
    refine r_iln rfl rfl rfl ?_
    refine r_bi (v := 8) rfl cb_8 ?_
    refine r_rem H rfl (fun H => ?_)
    refine r_aI' H rfl (fun t7 H => ?_)
    refine r_il rfl rfl ?_
    refine r_stI (rest := []) H rfl rfl (s_X7_has t7 ys1_1) rfl rfl ⟨rfl, rfl⟩ rfl (fun t8 h9 H => ?_)
    refine r_if H rfl rfl (fun H => ?_) (fun H => ?_)
    · refine r_inc (v := 1) (L' := [some (.ref a0), some (.int a1), some (.int a2), some (.int ys1_0), some (.int (ys1_1 + (1 : Int32))), some (.int (((8 : Int32) * ((a1 / (8 : Int32)) ||| ((1 : Int32) <<< (ys1_1 &&& (31 : Int32))))) + ys1_1))]) rfl rfl ci_1 rfl ?_
      refine r_go rfl ?_
      have q := K2 _ _ H _ _ rfl
      exact q _
    · refine r_aln rfl rfl rfl ?_
      refine r_gR H rfl kd_6_29 (fun r10 H => ?_)
      refine r_il rfl rfl ?_
      refine r_aI' H rfl (fun t11 H => ?_)
      refine r_iln rfl rfl rfl ?_
      refine r_cmp H rfl rfl (fun H => ?_) (fun H => ?_)
      · refine r_aln rfl rfl rfl ?_
        refine r_gR H rfl kd_6_29 (fun r12 H => ?_)
        refine r_il rfl rfl ?_
        refine r_iln rfl rfl rfl ?_
        refine r_sI H rfl (fun H => ?_)
        refine r_ic (v := 1) rfl ci_1 ?_
        refine r_isn (L' := [some (.ref a0), some (.int a1), some (.int a2), some (.int (1 : Int32)), some (.int ys1_1), some (.int (((8 : Int32) * ((a1 / (8 : Int32)) ||| ((1 : Int32) <<< (ys1_1 &&& (31 : Int32))))) + ys1_1))]) rfl rfl (Nat.le_of_ble_eq_true rfl) rfl ?_
        refine r_inc (v := 1) (L' := [some (.ref a0), some (.int a1), some (.int a2), some (.int (1 : Int32)), some (.int (ys1_1 + (1 : Int32))), some (.int (((8 : Int32) * ((a1 / (8 : Int32)) ||| ((1 : Int32) <<< (ys1_1 &&& (31 : Int32))))) + ys1_1))]) rfl rfl ci_1 rfl ?_
        refine r_go rfl ?_
        have q := K2 _ _ H _ _ rfl
        exact q _
      · refine r_go rfl ?_
        refine r_inc (v := 1) (L' := [some (.ref a0), some (.int a1), some (.int a2), some (.int ys1_0), some (.int (ys1_1 + (1 : Int32))), some (.int (((8 : Int32) * ((a1 / (8 : Int32)) ||| ((1 : Int32) <<< (ys1_1 &&& (31 : Int32))))) + ys1_1))]) rfl rfl ci_1 rfl ?_
        refine r_go rfl ?_
        have q := K2 _ _ H _ _ rfl
        exact q _
def f_X7_tour (a0 : Nat) (a1 : Int32) (a2 : Int32) : M Int32 := bnd (f_X7_isPlace a1) fun t1 => jn (fun k4 => if ¬ t1 = (0 : Int32) then bnd (f_X7_bound a2 (0 : Int32) (255 : Int32)) fun t21 => k4 t21 else k4 (-1 : Int32)) (fun (s3 : Int32) => if s3 = (0 : Int32) then loopK NF (fun (s5 : Int32) k6 => if (2048 : Int32) ≤ s5 then bnd (gR 6 29 a0) fun r7 => bnd (sI r7 (((8 : Int32) * ((1 : Int32) <<< (a1 &&& (31 : Int32)))) + a1) (0 : Int32)) fun _ => loopK NF (fun (s8 : Int32 × Int32) k9 => if s8.2 = (0 : Int32) then rt (-9 : Int32) else loopK NF (fun (s11 : Int32 × Int32) k12 => if (2048 : Int32) ≤ s11.2 then k9 ((s8.1 + (1 : Int32)), s11.1) else bnd (gR 6 29 a0) fun r13 => bnd (aI r13 s11.2) fun t14 => if t14 = s8.1 then bnd (divM s11.2 (8 : Int32)) fun t15 => if ¬ (a2 &&& (t15 ^^^ (-1 : Int32))) = (0 : Int32) then bnd (cv 6 a0 (f_X7_stepsOn a0 s11.2 (s8.1 + (1 : Int32)))) fun t16 => k12 ((s11.1 ||| t16), (s11.2 + (1 : Int32))) else rt s8.1 else k12 (s11.1, (s11.2 + (1 : Int32)))) ((0 : Int32), (0 : Int32))) ((0 : Int32), (1 : Int32)) else bnd (gR 6 29 a0) fun r18 => bnd (sI r18 s5 (1000000000 : Int32)) fun _ => k6 (s5 + (1 : Int32))) (0 : Int32) else bnd (cv 6 a0 (f_X7_no a0 s3)) fun t19 => rt t19)
set_option maxRecDepth 20000 in
theorem s_X7_tour (a0 : Nat) (a1 : Int32) (a2 : Int32) : Sm eX7_tour [.ref a0, .int a1, .int a2] eI (f_X7_tour a0 a1 a2) := by
  intro hp vr hr H
  unfold f_X7_tour at H
  show Rn none 0 0 eX7_tour 0 [some (.ref a0), some (.int a1), some (.int a2), none, none, none, none] [] hp (eI vr, hr)
  refine r_iln rfl rfl rfl ?_
  refine r_stI (rest := []) H rfl rfl (s_X7_isPlace a1) rfl rfl ⟨rfl, rfl⟩ rfl (fun t1 h2 H => ?_)
  refine r_jn (P := (fun (s3 : Int32) hq => Rn none 0 0 eX7_tour 9 [some (.ref a0), some (.int a1), some (.int a2), none, none, none, none] [.int s3] hq (eI vr, hr))) H (fun s3 hs3 H  => ?_) (fun k4 K4 H => ?_)
  · refine r_isn (L' := [some (.ref a0), some (.int a1), some (.int a2), some (.int s3), none, none, none]) rfl rfl (Nat.le_of_ble_eq_true rfl) rfl ?_
    refine r_iln rfl rfl rfl ?_
    refine r_if H rfl rfl (fun H => ?_) (fun H => ?_)
    · refine r_ic (v := 0) rfl ci_0 ?_
      refine r_is (L' := [some (.ref a0), some (.int a1), some (.int a2), some (.int s3), some (.int (0 : Int32)), none, none]) rfl (Nat.le_of_ble_eq_true rfl) rfl ?_
      refine (r_loop (P := (fun (s5 : Int32) hq => Rn none 0 0 eX7_tour 18 [some (.ref a0), some (.int a1), some (.int a2), some (.int s3), some (.int s5), none, none] [] hq (eI vr, hr))) ?_ NF _ _ H)
      intro k6 K6 s5 hs5 H 
      refine r_il rfl rfl ?_
      refine r_si (v := 2048) rfl cs_2048 ?_
      refine r_cmp H rfl rfl (fun H => ?_) (fun H => ?_)
      · refine r_aln rfl rfl rfl ?_
        refine r_gR H rfl kd_6_29 (fun r7 H => ?_)
        refine r_bi (v := 8) rfl cb_8 ?_
        refine r_ic (v := 1) rfl ci_1 ?_
        refine r_iln rfl rfl rfl ?_
        refine r_shl rfl ?_
        refine r_mul rfl ?_
        refine r_iln rfl rfl rfl ?_
        refine r_add rfl ?_
        refine r_ic (v := 0) rfl ci_0 ?_
        refine r_sI H rfl (fun H => ?_)
        refine r_ic (v := 0) rfl ci_0 ?_
        refine r_is (L' := [some (.ref a0), some (.int a1), some (.int a2), some (.int s3), some (.int (0 : Int32)), none, none]) rfl (Nat.le_of_ble_eq_true rfl) rfl ?_
        refine r_ic (v := 1) rfl ci_1 ?_
        refine r_is (L' := [some (.ref a0), some (.int a1), some (.int a2), some (.int s3), some (.int (0 : Int32)), some (.int (1 : Int32)), none]) rfl (Nat.le_of_ble_eq_true rfl) rfl ?_
        refine (r_loop (P := (fun (s8 : Int32 × Int32) hq => ∀ ys8_0 : Int32, ∀ ys8_1 : Int32, s8 = (ys8_0, ys8_1) → ∀ x10 : Option Value, Rn none 0 0 eX7_tour 43 [some (.ref a0), some (.int a1), some (.int a2), some (.int s3), some (.int ys8_0), some (.int ys8_1), x10] [] hq (eI vr, hr))) ?_ NF _ _ H) _ _ rfl _
        intro k9 K9 s8 hs8 H ys8_0 ys8_1 es8 x10
        subst es8
        refine r_il rfl rfl ?_
        refine r_if H rfl rfl (fun H => ?_) (fun H => ?_)
        · refine r_bi (v := -9) rfl cb_m9 ?_
          exact r_reti H rfl rfl ⟨Nat.zero_le _, Nat.zero_le _⟩
        · refine r_ic (v := 0) rfl ci_0 ?_
          refine r_is (L' := [some (.ref a0), some (.int a1), some (.int a2), some (.int s3), some (.int ys8_0), some (.int (0 : Int32)), x10]) rfl (Nat.le_of_ble_eq_true rfl) rfl ?_
          refine r_ic (v := 0) rfl ci_0 ?_
          refine r_is (L' := [some (.ref a0), some (.int a1), some (.int a2), some (.int s3), some (.int ys8_0), some (.int (0 : Int32)), some (.int (0 : Int32))]) rfl (Nat.le_of_ble_eq_true rfl) rfl ?_
          refine (r_loop (P := (fun (s11 : Int32 × Int32) hq => ∀ ys11_0 : Int32, ∀ ys11_1 : Int32, s11 = (ys11_0, ys11_1) → Rn none 0 0 eX7_tour 49 [some (.ref a0), some (.int a1), some (.int a2), some (.int s3), some (.int ys8_0), some (.int ys11_0), some (.int ys11_1)] [] hq (eI vr, hr))) ?_ NF _ _ H) _ _ rfl
          intro k12 K12 s11 hs11 H ys11_0 ys11_1 es11 
          subst es11
          refine r_il rfl rfl ?_
          refine r_si (v := 2048) rfl cs_2048 ?_
          refine r_cmp H rfl rfl (fun H => ?_) (fun H => ?_)
          · refine r_inc (v := 1) (L' := [some (.ref a0), some (.int a1), some (.int a2), some (.int s3), some (.int (ys8_0 + (1 : Int32))), some (.int ys11_0), some (.int ys11_1)]) rfl rfl ci_1 rfl ?_
            refine r_go rfl ?_
            have q := K9 _ _ H _ _ rfl
            exact q _
          · refine r_aln rfl rfl rfl ?_
            refine r_gR H rfl kd_6_29 (fun r13 H => ?_)
            refine r_il rfl rfl ?_
            refine r_aI' H rfl (fun t14 H => ?_)
            refine r_il rfl rfl ?_
            refine r_cmp H rfl rfl (fun H => ?_) (fun H => ?_)
            · refine r_iln rfl rfl rfl ?_
              refine r_il rfl rfl ?_
              refine r_bi (v := 8) rfl cb_8 ?_
              refine r_div H rfl (fun H => ?_)
              refine r_ic (v := -1) rfl ci_m1 ?_
              refine r_xor rfl ?_
              refine r_and rfl ?_
              refine r_if H rfl rfl (fun H => ?_) (fun H => ?_)
              · refine r_il rfl rfl ?_
                refine r_aln rfl rfl rfl ?_
                refine r_il rfl rfl ?_
                refine r_il rfl rfl ?_
                refine r_ic (v := 1) rfl ci_1 ?_
                refine r_add rfl ?_
                refine r_vtI (rest := [.int ys11_0]) H rfl rfl rfl (s_X7_stepsOn a0 ys11_1 (ys8_0 + (1 : Int32))) rfl rfl ⟨rfl, rfl⟩ rfl (fun t16 h17 H => ?_)
                refine r_or rfl ?_
                refine r_is (L' := [some (.ref a0), some (.int a1), some (.int a2), some (.int s3), some (.int ys8_0), some (.int (ys11_0 ||| t16)), some (.int ys11_1)]) rfl (Nat.le_of_ble_eq_true rfl) rfl ?_
                refine r_inc (v := 1) (L' := [some (.ref a0), some (.int a1), some (.int a2), some (.int s3), some (.int ys8_0), some (.int (ys11_0 ||| t16)), some (.int (ys11_1 + (1 : Int32)))]) rfl rfl ci_1 rfl ?_
                refine r_go rfl ?_
                have q := K12 _ _ H _ _ rfl
                exact q
              · refine r_il rfl rfl ?_
                exact r_reti H rfl rfl ⟨Nat.zero_le _, Nat.zero_le _⟩
            · refine r_go rfl ?_
              refine r_inc (v := 1) (L' := [some (.ref a0), some (.int a1), some (.int a2), some (.int s3), some (.int ys8_0), some (.int ys11_0), some (.int (ys11_1 + (1 : Int32)))]) rfl rfl ci_1 rfl ?_
              refine r_go rfl ?_
              have q := K12 _ _ H _ _ rfl
              exact q
      · refine r_aln rfl rfl rfl ?_
        refine r_gR H rfl kd_6_29 (fun r18 H => ?_)
        refine r_il rfl rfl ?_
        refine r_lc (v := 1000000000) rfl cn_1000000000 ?_
        refine r_sI H rfl (fun H => ?_)
        refine r_inc (v := 1) (L' := [some (.ref a0), some (.int a1), some (.int a2), some (.int s3), some (.int (s5 + (1 : Int32))), none, none]) rfl rfl ci_1 rfl ?_
        refine r_go rfl ?_
        have q := K6 _ _ H
        exact q
    · refine r_aln rfl rfl rfl ?_
      refine r_iln rfl rfl rfl ?_
      refine r_vtI (rest := []) H rfl rfl rfl (s_X7_no a0 s3) rfl rfl ⟨rfl, rfl⟩ rfl (fun t19 h20 H => ?_)
      exact r_reti H rfl rfl ⟨Nat.zero_le _, Nat.zero_le _⟩
  · refine r_if H rfl rfl (fun H => ?_) (fun H => ?_)
    · refine r_iln rfl rfl rfl ?_
      refine r_ic (v := 0) rfl ci_0 ?_
      refine r_si (v := 255) rfl cs_255 ?_
      refine r_stI (rest := []) H rfl rfl (s_X7_bound a2 (0 : Int32) (255 : Int32)) rfl rfl ⟨rfl, rfl⟩ rfl (fun t21 h22 H => ?_)
      have q := K4 _ _ H
      exact q
    · refine r_ic (v := -1) rfl ci_m1 ?_
      refine r_go rfl ?_
      have q := K4 _ _ H
      exact q
def f_X7_isWayWithout (a0 : Nat) (a1 : Int32) (a2 : Int32) (a3 : Int32) : M Int32 := loopK NF (fun (s1 : Int32 × Int32) k2 => if (8 : Int32) ≤ s1.2 then bnd (f_X7_has s1.1 a2) fun t5 => retZ t5 else loopK NF (fun (s7 : Int32 × Int32) k8 => if (8 : Int32) ≤ s7.2 then k2 ((s1.1 ||| (s7.1 &&& (a3 ^^^ (-1 : Int32)))), (s1.2 + (1 : Int32))) else bnd (f_X7_has s1.1 s7.2) fun t9 => if t9 = (0 : Int32) then k8 ((s7.1 ||| (0 : Int32)), (s7.2 + (1 : Int32))) else bnd (gR 6 6 a0) fun r11 => bnd (aI r11 s7.2) fun t12 => k8 ((s7.1 ||| t12), (s7.2 + (1 : Int32)))) ((0 : Int32), (0 : Int32))) (((1 : Int32) <<< (a1 &&& (31 : Int32))), (0 : Int32))
set_option maxRecDepth 20000 in
theorem s_X7_isWayWithout (a0 : Nat) (a1 : Int32) (a2 : Int32) (a3 : Int32) : Sm eX7_isWayWithout [.ref a0, .int a1, .int a2, .int a3] eI (f_X7_isWayWithout a0 a1 a2 a3) := by
  intro hp vr hr H
  unfold f_X7_isWayWithout at H
  show Rn none 0 0 eX7_isWayWithout 0 [some (.ref a0), some (.int a1), some (.int a2), some (.int a3), none, none, none, none] [] hp (eI vr, hr)
  refine r_ic (v := 1) rfl ci_1 ?_
  refine r_iln rfl rfl rfl ?_
  refine r_shl rfl ?_
  refine r_is (L' := [some (.ref a0), some (.int a1), some (.int a2), some (.int a3), some (.int ((1 : Int32) <<< (a1 &&& (31 : Int32)))), none, none, none]) rfl (Nat.le_of_ble_eq_true rfl) rfl ?_
  refine r_ic (v := 0) rfl ci_0 ?_
  refine r_is (L' := [some (.ref a0), some (.int a1), some (.int a2), some (.int a3), some (.int ((1 : Int32) <<< (a1 &&& (31 : Int32)))), some (.int (0 : Int32)), none, none]) rfl (Nat.le_of_ble_eq_true rfl) rfl ?_
  refine (r_loop (P := (fun (s1 : Int32 × Int32) hq => ∀ ys1_0 : Int32, ∀ ys1_1 : Int32, s1 = (ys1_0, ys1_1) → ∀ x3 : Option Value, ∀ x4 : Option Value, Rn none 0 0 eX7_isWayWithout 6 [some (.ref a0), some (.int a1), some (.int a2), some (.int a3), some (.int ys1_0), some (.int ys1_1), x3, x4] [] hq (eI vr, hr))) ?_ NF _ _ H) _ _ rfl _ _
  intro k2 K2 s1 hs1 H ys1_0 ys1_1 es1 x3 x4
  subst es1
  refine r_il rfl rfl ?_
  refine r_bi (v := 8) rfl cb_8 ?_
  refine r_cmp H rfl rfl (fun H => ?_) (fun H => ?_)
  · refine r_il rfl rfl ?_
    refine r_iln rfl rfl rfl ?_
    refine r_stI (rest := []) H rfl rfl (s_X7_has ys1_0 a2) rfl rfl ⟨rfl, rfl⟩ rfl (fun t5 h6 H => ?_)
    exact r_retz H rfl rfl ⟨Nat.zero_le _, Nat.zero_le _⟩
  · refine r_ic (v := 0) rfl ci_0 ?_
    refine r_is (L' := [some (.ref a0), some (.int a1), some (.int a2), some (.int a3), some (.int ys1_0), some (.int ys1_1), some (.int (0 : Int32)), x4]) rfl (Nat.le_of_ble_eq_true rfl) rfl ?_
    refine r_ic (v := 0) rfl ci_0 ?_
    refine r_is (L' := [some (.ref a0), some (.int a1), some (.int a2), some (.int a3), some (.int ys1_0), some (.int ys1_1), some (.int (0 : Int32)), some (.int (0 : Int32))]) rfl (Nat.le_of_ble_eq_true rfl) rfl ?_
    refine (r_loop (P := (fun (s7 : Int32 × Int32) hq => ∀ ys7_0 : Int32, ∀ ys7_1 : Int32, s7 = (ys7_0, ys7_1) → Rn none 0 0 eX7_isWayWithout 13 [some (.ref a0), some (.int a1), some (.int a2), some (.int a3), some (.int ys1_0), some (.int ys1_1), some (.int ys7_0), some (.int ys7_1)] [] hq (eI vr, hr))) ?_ NF _ _ H) _ _ rfl
    intro k8 K8 s7 hs7 H ys7_0 ys7_1 es7 
    subst es7
    refine r_il rfl rfl ?_
    refine r_bi (v := 8) rfl cb_8 ?_
    refine r_cmp H rfl rfl (fun H => ?_) (fun H => ?_)
    · refine r_il rfl rfl ?_
      refine r_il rfl rfl ?_
      refine r_iln rfl rfl rfl ?_
      refine r_ic (v := -1) rfl ci_m1 ?_
      refine r_xor rfl ?_
      refine r_and rfl ?_
      refine r_or rfl ?_
      refine r_is (L' := [some (.ref a0), some (.int a1), some (.int a2), some (.int a3), some (.int (ys1_0 ||| (ys7_0 &&& (a3 ^^^ (-1 : Int32))))), some (.int ys1_1), some (.int ys7_0), some (.int ys7_1)]) rfl (Nat.le_of_ble_eq_true rfl) rfl ?_
      refine r_inc (v := 1) (L' := [some (.ref a0), some (.int a1), some (.int a2), some (.int a3), some (.int (ys1_0 ||| (ys7_0 &&& (a3 ^^^ (-1 : Int32))))), some (.int (ys1_1 + (1 : Int32))), some (.int ys7_0), some (.int ys7_1)]) rfl rfl ci_1 rfl ?_
      refine r_go rfl ?_
      have q := K2 _ _ H _ _ rfl
      exact q _ _
    · refine r_il rfl rfl ?_
      refine r_il rfl rfl ?_
      refine r_il rfl rfl ?_
      refine r_stI (rest := [.int ys7_0]) H rfl rfl (s_X7_has ys1_0 ys7_1) rfl rfl ⟨rfl, rfl⟩ rfl (fun t9 h10 H => ?_)
      refine r_if H rfl rfl (fun H => ?_) (fun H => ?_)
      · refine r_ic (v := 0) rfl ci_0 ?_
        refine r_or rfl ?_
        refine r_is (L' := [some (.ref a0), some (.int a1), some (.int a2), some (.int a3), some (.int ys1_0), some (.int ys1_1), some (.int (ys7_0 ||| (0 : Int32))), some (.int ys7_1)]) rfl (Nat.le_of_ble_eq_true rfl) rfl ?_
        refine r_inc (v := 1) (L' := [some (.ref a0), some (.int a1), some (.int a2), some (.int a3), some (.int ys1_0), some (.int ys1_1), some (.int (ys7_0 ||| (0 : Int32))), some (.int (ys7_1 + (1 : Int32)))]) rfl rfl ci_1 rfl ?_
        refine r_go rfl ?_
        have q := K8 _ _ H _ _ rfl
        exact q
      · refine r_aln rfl rfl rfl ?_
        refine r_gR H rfl kd_6_6 (fun r11 H => ?_)
        refine r_il rfl rfl ?_
        refine r_aI' H rfl (fun t12 H => ?_)
        refine r_go rfl ?_
        refine r_or rfl ?_
        refine r_is (L' := [some (.ref a0), some (.int a1), some (.int a2), some (.int a3), some (.int ys1_0), some (.int ys1_1), some (.int (ys7_0 ||| t12)), some (.int ys7_1)]) rfl (Nat.le_of_ble_eq_true rfl) rfl ?_
        refine r_inc (v := 1) (L' := [some (.ref a0), some (.int a1), some (.int a2), some (.int a3), some (.int ys1_0), some (.int ys1_1), some (.int (ys7_0 ||| t12)), some (.int (ys7_1 + (1 : Int32)))]) rfl rfl ci_1 rfl ?_
        refine r_go rfl ?_
        have q := K8 _ _ H _ _ rfl
        exact q
def f_X7_narrows (a0 : Nat) (a1 : Int32) (a2 : Int32) : M Int32 := bnd (f_X7_isPlace a1) fun t1 => jn (fun k4 => if t1 = (0 : Int32) then k4 () else bnd (f_X7_isPlace a2) fun t7 => if t7 = (0 : Int32) then k4 () else if ¬ a1 = a2 then bnd (cv 6 a0 (f_X7_isWayWithout a0 a1 a2 (0 : Int32))) fun t9 => if ¬ t9 = (0 : Int32) then loopK NF (fun (s11 : Int32 × Int32) k12 => if (8 : Int32) ≤ s11.2 then rt s11.1 else if s11.2 = a1 then k12 ((s11.1 ||| (0 : Int32)), (s11.2 + (1 : Int32))) else if s11.2 = a2 then k12 ((s11.1 ||| (0 : Int32)), (s11.2 + (1 : Int32))) else bnd (cv 6 a0 (f_X7_isWayWithout a0 a1 a2 ((1 : Int32) <<< (s11.2 &&& (31 : Int32))))) fun t13 => if ¬ t13 = (0 : Int32) then k12 ((s11.1 ||| (0 : Int32)), (s11.2 + (1 : Int32))) else k12 ((s11.1 ||| ((1 : Int32) <<< (s11.2 &&& (31 : Int32)))), (s11.2 + (1 : Int32)))) ((0 : Int32), (0 : Int32)) else rt (-9 : Int32) else k4 ()) (fun (s3 : Unit) => bnd (cv 6 a0 (f_X7_no a0 (-1 : Int32))) fun t5 => rt t5)
set_option maxRecDepth 20000 in
theorem s_X7_narrows (a0 : Nat) (a1 : Int32) (a2 : Int32) : Sm eX7_narrows [.ref a0, .int a1, .int a2] eI (f_X7_narrows a0 a1 a2) := by
  intro hp vr hr H
  unfold f_X7_narrows at H
  show Rn none 0 0 eX7_narrows 0 [some (.ref a0), some (.int a1), some (.int a2), none, none] [] hp (eI vr, hr)
  refine r_iln rfl rfl rfl ?_
  refine r_stI (rest := []) H rfl rfl (s_X7_isPlace a1) rfl rfl ⟨rfl, rfl⟩ rfl (fun t1 h2 H => ?_)
  refine r_jn (P := (fun (s3 : Unit) hq => Rn none 0 0 eX7_narrows 9 [some (.ref a0), some (.int a1), some (.int a2), none, none] [] hq (eI vr, hr))) H (fun s3 hs3 H  => ?_) (fun k4 K4 H => ?_)
  · refine r_aln rfl rfl rfl ?_
    refine r_ic (v := -1) rfl ci_m1 ?_
    refine r_vtI (rest := []) H rfl rfl rfl (s_X7_no a0 (-1 : Int32)) rfl rfl ⟨rfl, rfl⟩ rfl (fun t5 h6 H => ?_)
    exact r_reti H rfl rfl ⟨Nat.zero_le _, Nat.zero_le _⟩
  · refine r_if H rfl rfl (fun H => ?_) (fun H => ?_)
    · have q := K4 _ _ H
      exact q
    · refine r_iln rfl rfl rfl ?_
      refine r_stI (rest := []) H rfl rfl (s_X7_isPlace a2) rfl rfl ⟨rfl, rfl⟩ rfl (fun t7 h8 H => ?_)
      refine r_if H rfl rfl (fun H => ?_) (fun H => ?_)
      · have q := K4 _ _ H
        exact q
      · refine r_iln rfl rfl rfl ?_
        refine r_iln rfl rfl rfl ?_
        refine r_cmp H rfl rfl (fun H => ?_) (fun H => ?_)
        · refine r_aln rfl rfl rfl ?_
          refine r_iln rfl rfl rfl ?_
          refine r_iln rfl rfl rfl ?_
          refine r_ic (v := 0) rfl ci_0 ?_
          refine r_vtI (rest := []) H rfl rfl rfl (s_X7_isWayWithout a0 a1 a2 (0 : Int32)) rfl rfl ⟨rfl, rfl⟩ rfl (fun t9 h10 H => ?_)
          refine r_if H rfl rfl (fun H => ?_) (fun H => ?_)
          · refine r_ic (v := 0) rfl ci_0 ?_
            refine r_isn (L' := [some (.ref a0), some (.int a1), some (.int a2), some (.int (0 : Int32)), none]) rfl rfl (Nat.le_of_ble_eq_true rfl) rfl ?_
            refine r_ic (v := 0) rfl ci_0 ?_
            refine r_is (L' := [some (.ref a0), some (.int a1), some (.int a2), some (.int (0 : Int32)), some (.int (0 : Int32))]) rfl (Nat.le_of_ble_eq_true rfl) rfl ?_
            refine (r_loop (P := (fun (s11 : Int32 × Int32) hq => ∀ ys11_0 : Int32, ∀ ys11_1 : Int32, s11 = (ys11_0, ys11_1) → Rn none 0 0 eX7_narrows 25 [some (.ref a0), some (.int a1), some (.int a2), some (.int ys11_0), some (.int ys11_1)] [] hq (eI vr, hr))) ?_ NF _ _ H) _ _ rfl
            intro k12 K12 s11 hs11 H ys11_0 ys11_1 es11 
            subst es11
            refine r_il rfl rfl ?_
            refine r_bi (v := 8) rfl cb_8 ?_
            refine r_cmp H rfl rfl (fun H => ?_) (fun H => ?_)
            · refine r_iln rfl rfl rfl ?_
              exact r_reti H rfl rfl ⟨Nat.zero_le _, Nat.zero_le _⟩
            · refine r_iln rfl rfl rfl ?_
              refine r_il rfl rfl ?_
              refine r_iln rfl rfl rfl ?_
              refine r_cmp H rfl rfl (fun H => ?_) (fun H => ?_)
              · refine r_ic (v := 0) rfl ci_0 ?_
                refine r_or rfl ?_
                refine r_isn (L' := [some (.ref a0), some (.int a1), some (.int a2), some (.int (ys11_0 ||| (0 : Int32))), some (.int ys11_1)]) rfl rfl (Nat.le_of_ble_eq_true rfl) rfl ?_
                refine r_inc (v := 1) (L' := [some (.ref a0), some (.int a1), some (.int a2), some (.int (ys11_0 ||| (0 : Int32))), some (.int (ys11_1 + (1 : Int32)))]) rfl rfl ci_1 rfl ?_
                refine r_go rfl ?_
                have q := K12 _ _ H _ _ rfl
                exact q
              · refine r_il rfl rfl ?_
                refine r_iln rfl rfl rfl ?_
                refine r_cmp H rfl rfl (fun H => ?_) (fun H => ?_)
                · refine r_ic (v := 0) rfl ci_0 ?_
                  refine r_or rfl ?_
                  refine r_isn (L' := [some (.ref a0), some (.int a1), some (.int a2), some (.int (ys11_0 ||| (0 : Int32))), some (.int ys11_1)]) rfl rfl (Nat.le_of_ble_eq_true rfl) rfl ?_
                  refine r_inc (v := 1) (L' := [some (.ref a0), some (.int a1), some (.int a2), some (.int (ys11_0 ||| (0 : Int32))), some (.int (ys11_1 + (1 : Int32)))]) rfl rfl ci_1 rfl ?_
                  refine r_go rfl ?_
                  have q := K12 _ _ H _ _ rfl
                  exact q
                · refine r_aln rfl rfl rfl ?_
                  refine r_iln rfl rfl rfl ?_
                  refine r_iln rfl rfl rfl ?_
                  refine r_ic (v := 1) rfl ci_1 ?_
                  refine r_il rfl rfl ?_
                  refine r_shl rfl ?_
                  refine r_vtI (rest := [.int ys11_0]) H rfl rfl rfl (s_X7_isWayWithout a0 a1 a2 ((1 : Int32) <<< (ys11_1 &&& (31 : Int32)))) rfl rfl ⟨rfl, rfl⟩ rfl (fun t13 h14 H => ?_)
                  refine r_if H rfl rfl (fun H => ?_) (fun H => ?_)
                  · refine r_ic (v := 0) rfl ci_0 ?_
                    refine r_or rfl ?_
                    refine r_isn (L' := [some (.ref a0), some (.int a1), some (.int a2), some (.int (ys11_0 ||| (0 : Int32))), some (.int ys11_1)]) rfl rfl (Nat.le_of_ble_eq_true rfl) rfl ?_
                    refine r_inc (v := 1) (L' := [some (.ref a0), some (.int a1), some (.int a2), some (.int (ys11_0 ||| (0 : Int32))), some (.int (ys11_1 + (1 : Int32)))]) rfl rfl ci_1 rfl ?_
                    refine r_go rfl ?_
                    have q := K12 _ _ H _ _ rfl
                    exact q
                  · refine r_ic (v := 1) rfl ci_1 ?_
                    refine r_il rfl rfl ?_
                    refine r_shl rfl ?_
                    refine r_go rfl ?_
                    refine r_or rfl ?_
                    refine r_isn (L' := [some (.ref a0), some (.int a1), some (.int a2), some (.int (ys11_0 ||| ((1 : Int32) <<< (ys11_1 &&& (31 : Int32))))), some (.int ys11_1)]) rfl rfl (Nat.le_of_ble_eq_true rfl) rfl ?_
                    refine r_inc (v := 1) (L' := [some (.ref a0), some (.int a1), some (.int a2), some (.int (ys11_0 ||| ((1 : Int32) <<< (ys11_1 &&& (31 : Int32))))), some (.int (ys11_1 + (1 : Int32)))]) rfl rfl ci_1 rfl ?_
                    refine r_go rfl ?_
                    have q := K12 _ _ H _ _ rfl
                    exact q
          · refine r_bi (v := -9) rfl cb_m9 ?_
            exact r_reti H rfl rfl ⟨Nat.zero_le _, Nat.zero_le _⟩
        · have q := K4 _ _ H
          exact q
def f_X7_farthest (a0 : Nat) (a1 : Int32) : M Int32 := bnd (cv 6 a0 (f_X7_findWays a0 a1 (1 : Int32))) fun _ => loopK NF (fun (s3 : Int32 × Int32) k4 => if (8 : Int32) ≤ s3.2 then rt s3.1 else bnd (gR 6 28 a0) fun r5 => bnd (aI r5 s3.2) fun t6 => if (1000000000 : Int32) ≤ t6 then k4 (s3.1, (s3.2 + (1 : Int32))) else bnd (gR 6 28 a0) fun r7 => bnd (aI r7 s3.2) fun t8 => if t8 ≤ s3.1 then k4 (s3.1, (s3.2 + (1 : Int32))) else bnd (gR 6 28 a0) fun r9 => bnd (aI r9 s3.2) fun t10 => k4 (t10, (s3.2 + (1 : Int32)))) ((0 : Int32), (0 : Int32))
set_option maxRecDepth 20000 in
theorem s_X7_farthest (a0 : Nat) (a1 : Int32) : Sm eX7_farthest [.ref a0, .int a1] eI (f_X7_farthest a0 a1) := by
  intro hp vr hr H
  unfold f_X7_farthest at H
  show Rn none 0 0 eX7_farthest 0 [some (.ref a0), some (.int a1), none, none] [] hp (eI vr, hr)
  refine r_aln rfl rfl rfl ?_
  refine r_iln rfl rfl rfl ?_
  refine r_ic (v := 1) rfl ci_1 ?_
  refine r_vtU (rest := []) H rfl rfl rfl (s_X7_findWays a0 a1 (1 : Int32)) rfl rfl ⟨rfl, rfl⟩ rfl (fun t1 h2 H => ?_)
  refine r_ic (v := 0) rfl ci_0 ?_
  refine r_isn (L' := [some (.ref a0), some (.int a1), some (.int (0 : Int32)), none]) rfl rfl (Nat.le_of_ble_eq_true rfl) rfl ?_
  refine r_ic (v := 0) rfl ci_0 ?_
  refine r_isn (L' := [some (.ref a0), some (.int a1), some (.int (0 : Int32)), some (.int (0 : Int32))]) rfl rfl (Nat.le_of_ble_eq_true rfl) rfl ?_
  refine (r_loop (P := (fun (s3 : Int32 × Int32) hq => ∀ ys3_0 : Int32, ∀ ys3_1 : Int32, s3 = (ys3_0, ys3_1) → Rn none 0 0 eX7_farthest 8 [some (.ref a0), some (.int a1), some (.int ys3_0), some (.int ys3_1)] [] hq (eI vr, hr))) ?_ NF _ _ H) _ _ rfl
  intro k4 K4 s3 hs3 H ys3_0 ys3_1 es3 
  subst es3
  refine r_iln rfl rfl rfl ?_
  refine r_bi (v := 8) rfl cb_8 ?_
  refine r_cmp H rfl rfl (fun H => ?_) (fun H => ?_)
  · refine r_iln rfl rfl rfl ?_
    exact r_reti H rfl rfl ⟨Nat.zero_le _, Nat.zero_le _⟩
  · refine r_aln rfl rfl rfl ?_
    refine r_gR H rfl kd_6_28 (fun r5 H => ?_)
    refine r_iln rfl rfl rfl ?_
    refine r_aI' H rfl (fun t6 H => ?_)
    refine r_lc (v := 1000000000) rfl cn_1000000000 ?_
    refine r_cmp H rfl rfl (fun H => ?_) (fun H => ?_)
    · refine r_iln rfl rfl rfl ?_
      refine r_isn (L' := [some (.ref a0), some (.int a1), some (.int ys3_0), some (.int ys3_1)]) rfl rfl (Nat.le_of_ble_eq_true rfl) rfl ?_
      refine r_inc (v := 1) (L' := [some (.ref a0), some (.int a1), some (.int ys3_0), some (.int (ys3_1 + (1 : Int32)))]) rfl rfl ci_1 rfl ?_
      refine r_go rfl ?_
      have q := K4 _ _ H _ _ rfl
      exact q
    · refine r_aln rfl rfl rfl ?_
      refine r_gR H rfl kd_6_28 (fun r7 H => ?_)
      refine r_iln rfl rfl rfl ?_
      refine r_aI' H rfl (fun t8 H => ?_)
      refine r_iln rfl rfl rfl ?_
      refine r_cmp H rfl rfl (fun H => ?_) (fun H => ?_)
      · refine r_iln rfl rfl rfl ?_
        refine r_isn (L' := [some (.ref a0), some (.int a1), some (.int ys3_0), some (.int ys3_1)]) rfl rfl (Nat.le_of_ble_eq_true rfl) rfl ?_
        refine r_inc (v := 1) (L' := [some (.ref a0), some (.int a1), some (.int ys3_0), some (.int (ys3_1 + (1 : Int32)))]) rfl rfl ci_1 rfl ?_
        refine r_go rfl ?_
        have q := K4 _ _ H _ _ rfl
        exact q
      · refine r_aln rfl rfl rfl ?_
        refine r_gR H rfl kd_6_28 (fun r9 H => ?_)
        refine r_iln rfl rfl rfl ?_
        refine r_aI' H rfl (fun t10 H => ?_)
        refine r_go rfl ?_
        refine r_isn (L' := [some (.ref a0), some (.int a1), some (.int t10), some (.int ys3_1)]) rfl rfl (Nat.le_of_ble_eq_true rfl) rfl ?_
        refine r_inc (v := 1) (L' := [some (.ref a0), some (.int a1), some (.int t10), some (.int (ys3_1 + (1 : Int32)))]) rfl rfl ci_1 rfl ?_
        refine r_go rfl ?_
        have q := K4 _ _ H _ _ rfl
        exact q
def f_X7_middle (a0 : Nat) (a1 : Int32) (a2 : Int32) : M Int32 := bnd (f_X7_isPlace a1) fun t1 => jn (fun k4 => if ¬ t1 = (0 : Int32) then bnd (f_X7_isIn a2 (0 : Int32) (1 : Int32)) fun t17 => if ¬ t17 = (0 : Int32) then k4 (0 : Int32) else k4 (-2 : Int32) else k4 (-1 : Int32)) (fun (s3 : Int32) => if s3 = (0 : Int32) then loopK NF (fun (s5 : Int32 × Int32) k6 => if s5.2 < (0 : Int32) then if ¬ a2 = (0 : Int32) then bnd (cv 6 a0 (f_X7_farthest a0 s5.1)) fun t7 => rt t7 else rt s5.1 else bnd (cv 6 a0 (f_X7_isWayWithout a0 a1 s5.2 (0 : Int32))) fun t9 => if t9 = (0 : Int32) then k6 (s5.1, (s5.2 + (-1 : Int32))) else bnd (cv 6 a0 (f_X7_farthest a0 s5.2)) fun t11 => bnd (cv 6 a0 (f_X7_farthest a0 s5.1)) fun t13 => if t13 < t11 then k6 (s5.1, (s5.2 + (-1 : Int32))) else k6 (s5.2, (s5.2 + (-1 : Int32)))) (a1, (7 : Int32)) else bnd (cv 6 a0 (f_X7_no a0 s3)) fun t15 => rt t15)
set_option maxRecDepth 20000 in
theorem s_X7_middle (a0 : Nat) (a1 : Int32) (a2 : Int32) : Sm eX7_middle [.ref a0, .int a1, .int a2] eI (f_X7_middle a0 a1 a2) := by
  intro hp vr hr H
  unfold f_X7_middle at H
  show Rn none 0 0 eX7_middle 0 [some (.ref a0), some (.int a1), some (.int a2), none, none, none] [] hp (eI vr, hr)
  refine r_iln rfl rfl rfl ?_
  refine r_stI (rest := []) H rfl rfl (s_X7_isPlace a1) rfl rfl ⟨rfl, rfl⟩ rfl (fun t1 h2 H => ?_)
  refine r_jn (P := (fun (s3 : Int32) hq => Rn none 0 0 eX7_middle 13 [some (.ref a0), some (.int a1), some (.int a2), none, none, none] [.int s3] hq (eI vr, hr))) H (fun s3 hs3 H  => ?_) (fun k4 K4 H => ?_)
  · refine r_isn (L' := [some (.ref a0), some (.int a1), some (.int a2), some (.int s3), none, none]) rfl rfl (Nat.le_of_ble_eq_true rfl) rfl ?_
    refine r_iln rfl rfl rfl ?_
    refine r_if H rfl rfl (fun H => ?_) (fun H => ?_)
    · refine r_iln rfl rfl rfl ?_
      refine r_is (L' := [some (.ref a0), some (.int a1), some (.int a2), some (.int s3), some (.int a1), none]) rfl (Nat.le_of_ble_eq_true rfl) rfl ?_
      refine r_bi (v := 7) rfl cb_7 ?_
      refine r_is (L' := [some (.ref a0), some (.int a1), some (.int a2), some (.int s3), some (.int a1), some (.int (7 : Int32))]) rfl (Nat.le_of_ble_eq_true rfl) rfl ?_
      refine (r_loop (P := (fun (s5 : Int32 × Int32) hq => ∀ ys5_0 : Int32, ∀ ys5_1 : Int32, s5 = (ys5_0, ys5_1) → Rn none 0 0 eX7_middle 24 [some (.ref a0), some (.int a1), some (.int a2), some (.int s3), some (.int ys5_0), some (.int ys5_1)] [] hq (eI vr, hr))) ?_ NF _ _ H) _ _ rfl
      intro k6 K6 s5 hs5 H ys5_0 ys5_1 es5 
      subst es5
      refine r_il rfl rfl ?_
      refine r_if H rfl rfl (fun H => ?_) (fun H => ?_)
      · refine r_iln rfl rfl rfl ?_
        refine r_if H rfl rfl (fun H => ?_) (fun H => ?_)
        · refine r_aln rfl rfl rfl ?_
          refine r_il rfl rfl ?_
          refine r_vtI (rest := []) H rfl rfl rfl (s_X7_farthest a0 ys5_0) rfl rfl ⟨rfl, rfl⟩ rfl (fun t7 h8 H => ?_)
          exact r_reti H rfl rfl ⟨Nat.zero_le _, Nat.zero_le _⟩
        · refine r_il rfl rfl ?_
          refine r_go rfl ?_
          exact r_reti H rfl rfl ⟨Nat.zero_le _, Nat.zero_le _⟩
      · refine r_aln rfl rfl rfl ?_
        refine r_iln rfl rfl rfl ?_
        refine r_il rfl rfl ?_
        refine r_ic (v := 0) rfl ci_0 ?_
        refine r_vtI (rest := []) H rfl rfl rfl (s_X7_isWayWithout a0 a1 ys5_1 (0 : Int32)) rfl rfl ⟨rfl, rfl⟩ rfl (fun t9 h10 H => ?_)
        refine r_if H rfl rfl (fun H => ?_) (fun H => ?_)
        · refine r_il rfl rfl ?_
          refine r_is (L' := [some (.ref a0), some (.int a1), some (.int a2), some (.int s3), some (.int ys5_0), some (.int ys5_1)]) rfl (Nat.le_of_ble_eq_true rfl) rfl ?_
          refine r_inc (v := -1) (L' := [some (.ref a0), some (.int a1), some (.int a2), some (.int s3), some (.int ys5_0), some (.int (ys5_1 + (-1 : Int32)))]) rfl rfl ci_m1 rfl ?_
          refine r_go rfl ?_
          have q := K6 _ _ H _ _ rfl
          exact q
        · refine r_aln rfl rfl rfl ?_
          refine r_il rfl rfl ?_
          refine r_vtI (rest := []) H rfl rfl rfl (s_X7_farthest a0 ys5_1) rfl rfl ⟨rfl, rfl⟩ rfl (fun t11 h12 H => ?_)
          refine r_aln rfl rfl rfl ?_
          refine r_il rfl rfl ?_
          refine r_vtI (rest := [.int t11]) H rfl rfl rfl (s_X7_farthest a0 ys5_0) rfl rfl ⟨rfl, rfl⟩ rfl (fun t13 h14 H => ?_)
          refine r_cmp H rfl rfl (fun H => ?_) (fun H => ?_)
          · refine r_il rfl rfl ?_
            refine r_is (L' := [some (.ref a0), some (.int a1), some (.int a2), some (.int s3), some (.int ys5_0), some (.int ys5_1)]) rfl (Nat.le_of_ble_eq_true rfl) rfl ?_
            refine r_inc (v := -1) (L' := [some (.ref a0), some (.int a1), some (.int a2), some (.int s3), some (.int ys5_0), some (.int (ys5_1 + (-1 : Int32)))]) rfl rfl ci_m1 rfl ?_
            refine r_go rfl ?_
            have q := K6 _ _ H _ _ rfl
            exact q
          · refine r_il rfl rfl ?_
            refine r_go rfl ?_
            refine r_is (L' := [some (.ref a0), some (.int a1), some (.int a2), some (.int s3), some (.int ys5_1), some (.int ys5_1)]) rfl (Nat.le_of_ble_eq_true rfl) rfl ?_
            refine r_inc (v := -1) (L' := [some (.ref a0), some (.int a1), some (.int a2), some (.int s3), some (.int ys5_1), some (.int (ys5_1 + (-1 : Int32)))]) rfl rfl ci_m1 rfl ?_
            refine r_go rfl ?_
            have q := K6 _ _ H _ _ rfl
            exact q
    · refine r_aln rfl rfl rfl ?_
      refine r_iln rfl rfl rfl ?_
      refine r_vtI (rest := []) H rfl rfl rfl (s_X7_no a0 s3) rfl rfl ⟨rfl, rfl⟩ rfl (fun t15 h16 H => ?_)
      exact r_reti H rfl rfl ⟨Nat.zero_le _, Nat.zero_le _⟩
  · refine r_if H rfl rfl (fun H => ?_) (fun H => ?_)
    · refine r_iln rfl rfl rfl ?_
      refine r_ic (v := 0) rfl ci_0 ?_
      refine r_ic (v := 1) rfl ci_1 ?_
      refine r_stI (rest := []) H rfl rfl (s_X7_isIn a2 (0 : Int32) (1 : Int32)) rfl rfl ⟨rfl, rfl⟩ rfl (fun t17 h18 H => ?_)
      refine r_if H rfl rfl (fun H => ?_) (fun H => ?_)
      · refine r_ic (v := 0) rfl ci_0 ?_
        have q := K4 _ _ H
        exact q
      · refine r_bi (v := -2) rfl cb_m2 ?_
        refine r_go rfl ?_
        have q := K4 _ _ H
        exact q
    · refine r_ic (v := -1) rfl ci_m1 ?_
      refine r_go rfl ?_
      have q := K4 _ _ H
      exact q
def f_X7_row (a0 : Nat) (a1 : Int32) : M Int32 := bnd (f_X7_bound a1 (0 : Int32) (99 : Int32)) fun t1 => jn (fun k4 => if ¬ t1 = (0 : Int32) then k4 t1 else bnd (gI 6 25 a0) fun t11 => if ¬ t11 = (12 : Int32) then k4 t1 else k4 (-6 : Int32)) (fun (s3 : Int32) => if s3 = (0 : Int32) then bnd (gR 6 24 a0) fun r5 => bnd (gI 6 25 a0) fun t6 => bnd (sI r5 t6 a1) fun _ => bnd (gI 6 25 a0) fun t7 => bnd (pI 6 25 a0 (t7 + (1 : Int32))) fun _ => bnd (gI 6 25 a0) fun t8 => rt t8 else bnd (cv 6 a0 (f_X7_no a0 s3)) fun t9 => rt t9)
set_option maxRecDepth 20000 in
theorem s_X7_row (a0 : Nat) (a1 : Int32) : Sm eX7_row [.ref a0, .int a1] eI (f_X7_row a0 a1) := by
  intro hp vr hr H
  unfold f_X7_row at H
  show Rn none 0 0 eX7_row 0 [some (.ref a0), some (.int a1), none] [] hp (eI vr, hr)
  refine r_iln rfl rfl rfl ?_
  refine r_ic (v := 0) rfl ci_0 ?_
  refine r_bi (v := 99) rfl cb_99 ?_
  refine r_stI (rest := []) H rfl rfl (s_X7_bound a1 (0 : Int32) (99 : Int32)) rfl rfl ⟨rfl, rfl⟩ rfl (fun t1 h2 H => ?_)
  refine r_isn (L' := [some (.ref a0), some (.int a1), some (.int t1)]) rfl rfl (Nat.le_of_ble_eq_true rfl) rfl ?_
  refine r_iln rfl rfl rfl ?_
  refine r_jn (P := (fun (s3 : Int32) hq => Rn none 0 0 eX7_row 13 [some (.ref a0), some (.int a1), some (.int s3)] [] hq (eI vr, hr))) H (fun s3 hs3 H  => ?_) (fun k4 K4 H => ?_)
  · refine r_iln rfl rfl rfl ?_
    refine r_if H rfl rfl (fun H => ?_) (fun H => ?_)
    · refine r_aln rfl rfl rfl ?_
      refine r_gR H rfl kd_6_24 (fun r5 H => ?_)
      refine r_aln rfl rfl rfl ?_
      refine r_gI' H rfl kl_6_25 (fun t6 H => ?_)
      refine r_iln rfl rfl rfl ?_
      refine r_sI H rfl (fun H => ?_)
      refine r_aln rfl rfl rfl ?_
      refine r_dupr rfl ?_
      refine r_gI' H rfl kl_6_25 (fun t7 H => ?_)
      refine r_ic (v := 1) rfl ci_1 ?_
      refine r_add rfl ?_
      refine r_pI H rfl kd_6_25 (fun H => ?_)
      refine r_aln rfl rfl rfl ?_
      refine r_gI' H rfl kl_6_25 (fun t8 H => ?_)
      exact r_reti H rfl rfl ⟨Nat.zero_le _, Nat.zero_le _⟩
    · refine r_aln rfl rfl rfl ?_
      refine r_iln rfl rfl rfl ?_
      refine r_vtI (rest := []) H rfl rfl rfl (s_X7_no a0 s3) rfl rfl ⟨rfl, rfl⟩ rfl (fun t9 h10 H => ?_)
      exact r_reti H rfl rfl ⟨Nat.zero_le _, Nat.zero_le _⟩
  · refine r_if H rfl rfl (fun H => ?_) (fun H => ?_)
    · have q := K4 _ _ H
      exact q
    · refine r_aln rfl rfl rfl ?_
      refine r_gI' H rfl kl_6_25 (fun t11 H => ?_)
      refine r_bi (v := 12) rfl cb_12 ?_
      refine r_cmp H rfl rfl (fun H => ?_) (fun H => ?_)
      · have q := K4 _ _ H
        exact q
      · refine r_bi (v := -6) rfl cb_m6 ?_
        refine r_isn (L' := [some (.ref a0), some (.int a1), some (.int (-6 : Int32))]) rfl rfl (Nat.le_of_ble_eq_true rfl) rfl ?_
        have q := K4 _ _ H
        exact q
def f_X7_judge (a0 : Nat) : M Int32 := bnd (gI 6 25 a0) fun t1 => bnd (pI 6 25 a0 (0 : Int32)) fun _ => loopK NF (fun (s2 : Int32) k3 => if t1 ≤ s2 then rt (-9 : Int32) else bnd (gI 6 8 a0) fun t4 => if t4 ≤ s2 then rt s2 else bnd (gR 6 4 a0) fun r5 => bnd (aI r5 s2) fun t6 => bnd (gR 6 24 a0) fun r7 => bnd (aI r7 s2) fun t8 => if t6 = t8 then k3 (s2 + (1 : Int32)) else rt s2) (0 : Int32)
set_option maxRecDepth 20000 in
theorem s_X7_judge (a0 : Nat) : Sm eX7_judge [.ref a0] eI (f_X7_judge a0) := by
  intro hp vr hr H
  unfold f_X7_judge at H
  show Rn none 0 0 eX7_judge 0 [some (.ref a0), none, none] [] hp (eI vr, hr)
  refine r_aln rfl rfl rfl ?_
  refine r_gI' H rfl kl_6_25 (fun t1 H => ?_)
  refine r_isn (L' := [some (.ref a0), some (.int t1), none]) rfl rfl (Nat.le_of_ble_eq_true rfl) rfl ?_
  refine r_aln rfl rfl rfl ?_
  refine r_ic (v := 0) rfl ci_0 ?_
  refine r_pI H rfl kd_6_25 (fun H => ?_)
  refine r_ic (v := 0) rfl ci_0 ?_
  refine r_isn (L' := [some (.ref a0), some (.int t1), some (.int (0 : Int32))]) rfl rfl (Nat.le_of_ble_eq_true rfl) rfl ?_
  refine (r_loop (P := (fun (s2 : Int32) hq => Rn none 0 0 eX7_judge 8 [some (.ref a0), some (.int t1), some (.int s2)] [] hq (eI vr, hr))) ?_ NF _ _ H)
  intro k3 K3 s2 hs2 H 
  refine r_iln rfl rfl rfl ?_
  refine r_iln rfl rfl rfl ?_
  refine r_cmp H rfl rfl (fun H => ?_) (fun H => ?_)
  · refine r_bi (v := -9) rfl cb_m9 ?_
    exact r_reti H rfl rfl ⟨Nat.zero_le _, Nat.zero_le _⟩
  · refine r_iln rfl rfl rfl ?_
    refine r_aln rfl rfl rfl ?_
    refine r_gI' H rfl kl_6_8 (fun t4 H => ?_)
    refine r_cmp H rfl rfl (fun H => ?_) (fun H => ?_)
    · refine r_iln rfl rfl rfl ?_
      exact r_reti H rfl rfl ⟨Nat.zero_le _, Nat.zero_le _⟩
    · refine r_aln rfl rfl rfl ?_
      refine r_gR H rfl kd_6_4 (fun r5 H => ?_)
      refine r_iln rfl rfl rfl ?_
      refine r_aI' H rfl (fun t6 H => ?_)
      refine r_aln rfl rfl rfl ?_
      refine r_gR H rfl kd_6_24 (fun r7 H => ?_)
      refine r_iln rfl rfl rfl ?_
      refine r_aI' H rfl (fun t8 H => ?_)
      refine r_cmp H rfl rfl (fun H => ?_) (fun H => ?_)
      · refine r_inc (v := 1) (L' := [some (.ref a0), some (.int t1), some (.int (s2 + (1 : Int32)))]) rfl rfl ci_1 rfl ?_
        refine r_go rfl ?_
        have q := K3 _ _ H
        exact q
      · refine r_iln rfl rfl rfl ?_
        exact r_reti H rfl rfl ⟨Nat.zero_le _, Nat.zero_le _⟩
def f_X7_clear (a0 : Nat) : M Int32 := bnd (gI 6 25 a0) fun t1 => bnd (pI 6 25 a0 (0 : Int32)) fun _ => rt t1
set_option maxRecDepth 20000 in
theorem s_X7_clear (a0 : Nat) : Sm eX7_clear [.ref a0] eI (f_X7_clear a0) := by
  intro hp vr hr H
  unfold f_X7_clear at H
  show Rn none 0 0 eX7_clear 0 [some (.ref a0), none] [] hp (eI vr, hr)
  refine r_aln rfl rfl rfl ?_
  refine r_gI' H rfl kl_6_25 (fun t1 H => ?_)
  refine r_isn (L' := [some (.ref a0), some (.int t1)]) rfl rfl (Nat.le_of_ble_eq_true rfl) rfl ?_
  refine r_aln rfl rfl rfl ?_
  refine r_ic (v := 0) rfl ci_0 ?_
  refine r_pI H rfl kd_6_25 (fun H => ?_)
  refine r_iln rfl rfl rfl ?_
  exact r_reti H rfl rfl ⟨Nat.zero_le _, Nat.zero_le _⟩
def f_X7_lots (a0 : Nat) (a1 : Int32) (a2 : Int32) (a3 : Int32) : M Int32 := bnd (f_X7_bound a1 (1 : Int32) (20 : Int32)) fun t1 => jn (fun k4 => if ¬ t1 = (0 : Int32) then k4 t1 else bnd (f_X7_isIn a3 (0 : Int32) (1 : Int32)) fun t26 => if ¬ t26 = (0 : Int32) then k4 t1 else k4 (-2 : Int32)) (fun (s3 : Int32) => if s3 = (0 : Int32) then bnd (cv 6 a0 (f_X7_passesAll a0 (1 : Int32) (1 : Int32))) fun _ => loopK NF (fun (s7 : Int32 × Int32 × Int32 × Int32) k8 => if a1 ≤ s7.2.2.2 then bnd (cv 6 a0 (f_X7_passesAll a0 (1 : Int32) (0 : Int32))) fun _ => if ¬ a3 = (0 : Int32) then rt s7.2.2.1 else rt s7.2.1 else loopK NF (fun (s12 : Int32 × Int32) k13 => bnd (gI 6 8 a0) fun t14 => if t14 ≤ s12.2 then bnd (cv 6 a0 (f_X7_errorBehind a0 (10 : Int32))) fun t15 => bnd (cv 6 a0 (f_X7_fooledAt a0 (10 : Int32) (5 : Int32))) fun t17 => if ¬ t17 = (0 : Int32) then k8 (s12.1, (s7.2.1 + t15), (s7.2.2.1 + (0 : Int32)), (s7.2.2.2 + (1 : Int32))) else k8 (s12.1, (s7.2.1 + t15), (s7.2.2.1 + (1 : Int32)), (s7.2.2.2 + (1 : Int32))) else bnd (gR 6 5 a0) fun r19 => bnd (divM (((s12.1 * (1103515245 : Int32)) + (12345 : Int32)) &&& (2147483647 : Int32)) (65536 : Int32)) fun t20 => bnd (remM t20 (128 : Int32)) fun t21 => bnd (cv 6 a0 (f_X7_others a0 s12.2)) fun t22 => bnd (sI r19 s12.2 (t21 &&& t22)) fun _ => k13 (((s12.1 * (1103515245 : Int32)) + (12345 : Int32)), (s12.2 + (1 : Int32)))) (s7.1, (0 : Int32))) (a2, (0 : Int32), (0 : Int32), (0 : Int32)) else bnd (cv 6 a0 (f_X7_no a0 s3)) fun t24 => rt t24)
set_option maxRecDepth 20000 in
theorem s_X7_lots (a0 : Nat) (a1 : Int32) (a2 : Int32) (a3 : Int32) : Sm eX7_lots [.ref a0, .int a1, .int a2, .int a3] eI (f_X7_lots a0 a1 a2 a3) := by
  intro hp vr hr H
  unfold f_X7_lots at H
  show Rn none 0 0 eX7_lots 0 [some (.ref a0), some (.int a1), some (.int a2), some (.int a3), none, none, none, none, none, none] [] hp (eI vr, hr)
  refine r_iln rfl rfl rfl ?_
  refine r_ic (v := 1) rfl ci_1 ?_
  refine r_bi (v := 20) rfl cb_20 ?_
  refine r_stI (rest := []) H rfl rfl (s_X7_bound a1 (1 : Int32) (20 : Int32)) rfl rfl ⟨rfl, rfl⟩ rfl (fun t1 h2 H => ?_)
  refine r_is (L' := [some (.ref a0), some (.int a1), some (.int a2), some (.int a3), some (.int t1), none, none, none, none, none]) rfl (Nat.le_of_ble_eq_true rfl) rfl ?_
  refine r_il rfl rfl ?_
  refine r_jn (P := (fun (s3 : Int32) hq => Rn none 0 0 eX7_lots 14 [some (.ref a0), some (.int a1), some (.int a2), some (.int a3), some (.int s3), none, none, none, none, none] [] hq (eI vr, hr))) H (fun s3 hs3 H  => ?_) (fun k4 K4 H => ?_)
  · refine r_il rfl rfl ?_
    refine r_if H rfl rfl (fun H => ?_) (fun H => ?_)
    · refine r_aln rfl rfl rfl ?_
      refine r_ic (v := 1) rfl ci_1 ?_
      refine r_ic (v := 1) rfl ci_1 ?_
      refine r_vtU (rest := []) H rfl rfl rfl (s_X7_passesAll a0 (1 : Int32) (1 : Int32)) rfl rfl ⟨rfl, rfl⟩ rfl (fun t5 h6 H => ?_)
      refine r_iln rfl rfl rfl ?_
      refine r_is (L' := [some (.ref a0), some (.int a1), some (.int a2), some (.int a3), some (.int s3), some (.int a2), none, none, none, none]) rfl (Nat.le_of_ble_eq_true rfl) rfl ?_
      refine r_ic (v := 0) rfl ci_0 ?_
      refine r_is (L' := [some (.ref a0), some (.int a1), some (.int a2), some (.int a3), some (.int s3), some (.int a2), some (.int (0 : Int32)), none, none, none]) rfl (Nat.le_of_ble_eq_true rfl) rfl ?_
      refine r_ic (v := 0) rfl ci_0 ?_
      refine r_is (L' := [some (.ref a0), some (.int a1), some (.int a2), some (.int a3), some (.int s3), some (.int a2), some (.int (0 : Int32)), some (.int (0 : Int32)), none, none]) rfl (Nat.le_of_ble_eq_true rfl) rfl ?_
      refine r_ic (v := 0) rfl ci_0 ?_
      refine r_is (L' := [some (.ref a0), some (.int a1), some (.int a2), some (.int a3), some (.int s3), some (.int a2), some (.int (0 : Int32)), some (.int (0 : Int32)), some (.int (0 : Int32)), none]) rfl (Nat.le_of_ble_eq_true rfl) rfl ?_
      refine (r_loop (P := (fun (s7 : Int32 × Int32 × Int32 × Int32) hq => ∀ ys7_0 : Int32, ∀ ys7_1 : Int32, ∀ ys7_2 : Int32, ∀ ys7_3 : Int32, s7 = (ys7_0, ys7_1, ys7_2, ys7_3) → ∀ x9 : Option Value, Rn none 0 0 eX7_lots 32 [some (.ref a0), some (.int a1), some (.int a2), some (.int a3), some (.int s3), some (.int ys7_0), some (.int ys7_1), some (.int ys7_2), some (.int ys7_3), x9] [] hq (eI vr, hr))) ?_ NF _ _ H) _ _ _ _ rfl _
      intro k8 K8 s7 hs7 H ys7_0 ys7_1 ys7_2 ys7_3 es7 x9
      subst es7
      refine r_il rfl rfl ?_
      refine r_iln rfl rfl rfl ?_
      refine r_cmp H rfl rfl (fun H => ?_) (fun H => ?_)
      · refine r_aln rfl rfl rfl ?_
        refine r_ic (v := 1) rfl ci_1 ?_
        refine r_ic (v := 0) rfl ci_0 ?_
        refine r_vtU (rest := []) H rfl rfl rfl (s_X7_passesAll a0 (1 : Int32) (0 : Int32)) rfl rfl ⟨rfl, rfl⟩ rfl (fun t10 h11 H => ?_)
        refine r_iln rfl rfl rfl ?_
        refine r_if H rfl rfl (fun H => ?_) (fun H => ?_)
        · refine r_il rfl rfl ?_
          exact r_reti H rfl rfl ⟨Nat.zero_le _, Nat.zero_le _⟩
        · refine r_il rfl rfl ?_
          refine r_go rfl ?_
          exact r_reti H rfl rfl ⟨Nat.zero_le _, Nat.zero_le _⟩
      · refine r_ic (v := 0) rfl ci_0 ?_
        refine r_is (L' := [some (.ref a0), some (.int a1), some (.int a2), some (.int a3), some (.int s3), some (.int ys7_0), some (.int ys7_1), some (.int ys7_2), some (.int ys7_3), some (.int (0 : Int32))]) rfl (Nat.le_of_ble_eq_true rfl) rfl ?_
        refine (r_loop (P := (fun (s12 : Int32 × Int32) hq => ∀ ys12_0 : Int32, ∀ ys12_1 : Int32, s12 = (ys12_0, ys12_1) → Rn none 0 0 eX7_lots 37 [some (.ref a0), some (.int a1), some (.int a2), some (.int a3), some (.int s3), some (.int ys12_0), some (.int ys7_1), some (.int ys7_2), some (.int ys7_3), some (.int ys12_1)] [] hq (eI vr, hr))) ?_ NF _ _ H) _ _ rfl
        intro k13 K13 s12 hs12 H ys12_0 ys12_1 es12 
        subst es12
        refine r_il rfl rfl ?_
        refine r_aln rfl rfl rfl ?_
        refine r_gI' H rfl kl_6_8 (fun t14 H => ?_)
        refine r_cmp H rfl rfl (fun H => ?_) (fun H => ?_)
        · refine r_il rfl rfl ?_
          refine r_aln rfl rfl rfl ?_
          refine r_bi (v := 10) rfl cb_10 ?_
          refine r_vtI (rest := [.int ys7_1]) H rfl rfl rfl (s_X7_errorBehind a0 (10 : Int32)) rfl rfl ⟨rfl, rfl⟩ rfl (fun t15 h16 H => ?_)
          refine r_add rfl ?_
          refine r_is (L' := [some (.ref a0), some (.int a1), some (.int a2), some (.int a3), some (.int s3), some (.int ys12_0), some (.int (ys7_1 + t15)), some (.int ys7_2), some (.int ys7_3), some (.int ys12_1)]) rfl (Nat.le_of_ble_eq_true rfl) rfl ?_
          refine r_il rfl rfl ?_
          refine r_aln rfl rfl rfl ?_
          refine r_bi (v := 10) rfl cb_10 ?_
          refine r_ic (v := 5) rfl ci_5 ?_
          refine r_vtI (rest := [.int ys7_2]) H rfl rfl rfl (s_X7_fooledAt a0 (10 : Int32) (5 : Int32)) rfl rfl ⟨rfl, rfl⟩ rfl (fun t17 h18 H => ?_)
          refine r_if H rfl rfl (fun H => ?_) (fun H => ?_)
          · refine r_ic (v := 0) rfl ci_0 ?_
            refine r_add rfl ?_
            refine r_is (L' := [some (.ref a0), some (.int a1), some (.int a2), some (.int a3), some (.int s3), some (.int ys12_0), some (.int (ys7_1 + t15)), some (.int (ys7_2 + (0 : Int32))), some (.int ys7_3), some (.int ys12_1)]) rfl (Nat.le_of_ble_eq_true rfl) rfl ?_
            refine r_inc (v := 1) (L' := [some (.ref a0), some (.int a1), some (.int a2), some (.int a3), some (.int s3), some (.int ys12_0), some (.int (ys7_1 + t15)), some (.int (ys7_2 + (0 : Int32))), some (.int (ys7_3 + (1 : Int32))), some (.int ys12_1)]) rfl rfl ci_1 rfl ?_
            refine r_go rfl ?_
            have q := K8 _ _ H _ _ _ _ rfl
            exact q _
          · refine r_ic (v := 1) rfl ci_1 ?_
            refine r_go rfl ?_
            refine r_add rfl ?_
            refine r_is (L' := [some (.ref a0), some (.int a1), some (.int a2), some (.int a3), some (.int s3), some (.int ys12_0), some (.int (ys7_1 + t15)), some (.int (ys7_2 + (1 : Int32))), some (.int ys7_3), some (.int ys12_1)]) rfl (Nat.le_of_ble_eq_true rfl) rfl ?_
            refine r_inc (v := 1) (L' := [some (.ref a0), some (.int a1), some (.int a2), some (.int a3), some (.int s3), some (.int ys12_0), some (.int (ys7_1 + t15)), some (.int (ys7_2 + (1 : Int32))), some (.int (ys7_3 + (1 : Int32))), some (.int ys12_1)]) rfl rfl ci_1 rfl ?_
            refine r_go rfl ?_
            have q := K8 _ _ H _ _ _ _ rfl
            exact q _
        · refine r_il rfl rfl ?_
          refine r_lw (v := 1103515245) rfl cn_1103515245 ?_
          refine r_mul rfl ?_
          refine r_si (v := 12345) rfl cs_12345 ?_
          refine r_add rfl ?_
          refine r_is (L' := [some (.ref a0), some (.int a1), some (.int a2), some (.int a3), some (.int s3), some (.int ((ys12_0 * (1103515245 : Int32)) + (12345 : Int32))), some (.int ys7_1), some (.int ys7_2), some (.int ys7_3), some (.int ys12_1)]) rfl (Nat.le_of_ble_eq_true rfl) rfl ?_
          refine r_aln rfl rfl rfl ?_
          refine r_gR H rfl kd_6_5 (fun r19 H => ?_)
          refine r_il rfl rfl ?_
          refine r_il rfl rfl ?_
          refine r_lw (v := 2147483647) rfl cn_2147483647 ?_
          refine r_and rfl ?_
          refine r_lw (v := 65536) rfl cn_65536 ?_
          refine r_div H rfl (fun H => ?_)
          refine r_si (v := 128) rfl cs_128 ?_
          refine r_rem H rfl (fun H => ?_)
          refine r_aln rfl rfl rfl ?_
          refine r_il rfl rfl ?_
          refine r_vtI (rest := [.int (((((ys12_0 * (1103515245 : Int32)) + (12345 : Int32)) &&& (2147483647 : Int32)) / (65536 : Int32)) - ((((ys12_0 * (1103515245 : Int32)) + (12345 : Int32)) &&& (2147483647 : Int32)) / (65536 : Int32)) / (128 : Int32) * (128 : Int32)), .int ys12_1, .ref r19]) H rfl rfl rfl (s_X7_others a0 ys12_1) rfl rfl ⟨rfl, rfl⟩ rfl (fun t22 h23 H => ?_)
          refine r_and rfl ?_
          refine r_sI H rfl (fun H => ?_)
          refine r_inc (v := 1) (L' := [some (.ref a0), some (.int a1), some (.int a2), some (.int a3), some (.int s3), some (.int ((ys12_0 * (1103515245 : Int32)) + (12345 : Int32))), some (.int ys7_1), some (.int ys7_2), some (.int ys7_3), some (.int (ys12_1 + (1 : Int32)))]) rfl rfl ci_1 rfl ?_
          refine r_go rfl ?_
          have q := K13 _ _ H _ _ rfl
          exact q
    · refine r_aln rfl rfl rfl ?_
      refine r_il rfl rfl ?_
      refine r_vtI (rest := []) H rfl rfl rfl (s_X7_no a0 s3) rfl rfl ⟨rfl, rfl⟩ rfl (fun t24 h25 H => ?_)
      exact r_reti H rfl rfl ⟨Nat.zero_le _, Nat.zero_le _⟩
  · refine r_if H rfl rfl (fun H => ?_) (fun H => ?_)
    · have q := K4 _ _ H
      exact q
    · refine r_iln rfl rfl rfl ?_
      refine r_ic (v := 0) rfl ci_0 ?_
      refine r_ic (v := 1) rfl ci_1 ?_
      refine r_stI (rest := []) H rfl rfl (s_X7_isIn a3 (0 : Int32) (1 : Int32)) rfl rfl ⟨rfl, rfl⟩ rfl (fun t26 h27 H => ?_)
      refine r_if H rfl rfl (fun H => ?_) (fun H => ?_)
      · have q := K4 _ _ H
        exact q
      · refine r_bi (v := -2) rfl cb_m2 ?_
        refine r_is (L' := [some (.ref a0), some (.int a1), some (.int a2), some (.int a3), some (.int (-2 : Int32)), none, none, none, none, none]) rfl (Nat.le_of_ble_eq_true rfl) rfl ?_
        have q := K4 _ _ H
        exact q
def f_X7_count (a0 : Nat) (a1 : Int32) : M Int32 := bnd (f_X7_isIn a1 (11 : Int32) (16 : Int32)) fun t1 => if t1 = (0 : Int32) then if a1 = (0 : Int32) then bnd (gI 6 8 a0) fun t4 => rt t4 else if a1 = (1 : Int32) then bnd (gI 6 9 a0) fun t6 => rt t6 else if a1 = (2 : Int32) then loopK NF (fun (s8 : Int32 × Int32) k9 => bnd (gI 6 8 a0) fun t10 => if t10 ≤ s8.2 then rt s8.1 else bnd (gR 6 3 a0) fun r11 => bnd (aI r11 s8.2) fun t12 => k9 ((s8.1 + t12), (s8.2 + (1 : Int32)))) ((0 : Int32), (0 : Int32)) else if a1 = (3 : Int32) then loopK NF (fun (s14 : Int32 × Int32) k15 => bnd (gI 6 8 a0) fun t16 => if t16 ≤ s14.2 then rt s14.1 else bnd (gR 6 4 a0) fun r17 => bnd (aI r17 s14.2) fun t18 => k15 ((s14.1 + t18), (s14.2 + (1 : Int32)))) ((0 : Int32), (0 : Int32)) else if a1 = (4 : Int32) then loopK NF (fun (s20 : Int32 × Int32) k21 => if (8 : Int32) ≤ s20.2 then bnd (divM s20.1 (2 : Int32)) fun t22 => rt t22 else bnd (gR 6 6 a0) fun r23 => bnd (aI r23 s20.2) fun t24 => bnd (f_X7_bits t24) fun t25 => k21 ((s20.1 + t25), (s20.2 + (1 : Int32)))) ((0 : Int32), (0 : Int32)) else if a1 = (5 : Int32) then bnd (gI 6 14 a0) fun t28 => rt t28 else if a1 = (6 : Int32) then bnd (gI 6 25 a0) fun t30 => rt t30 else if a1 = (7 : Int32) then bnd (gI 6 21 a0) fun t32 => rt t32 else rt (-9 : Int32) else bnd (gR 6 0 a0) fun r33 => bnd (aI r33 (a1 - (10 : Int32))) fun t34 => rt t34
set_option maxRecDepth 20000 in
theorem s_X7_count (a0 : Nat) (a1 : Int32) : Sm eX7_count [.ref a0, .int a1] eI (f_X7_count a0 a1) := by
  intro hp vr hr H
  unfold f_X7_count at H
  show Rn none 0 0 eX7_count 0 [some (.ref a0), some (.int a1), none, none] [] hp (eI vr, hr)
  refine r_iln rfl rfl rfl ?_
  refine r_bi (v := 11) rfl cb_11 ?_
  refine r_bi (v := 16) rfl cb_16 ?_
  refine r_stI (rest := []) H rfl rfl (s_X7_isIn a1 (11 : Int32) (16 : Int32)) rfl rfl ⟨rfl, rfl⟩ rfl (fun t1 h2 H => ?_)
  refine r_if H rfl rfl (fun H => ?_) (fun H => ?_)
  · refine r_ic (v := 0) rfl ci_0 ?_
    refine r_isn (L' := [some (.ref a0), some (.int a1), some (.int (0 : Int32)), none]) rfl rfl (Nat.le_of_ble_eq_true rfl) rfl ?_
    refine r_iln rfl rfl rfl ?_
    rcases Decidable.em (a1 = (0 : Int32)) with h3 | h3
    · rw [if_pos h3] at H; refine r_tab (t := 16) rfl (by rw [h3]; rfl) ?_
      refine r_aln rfl rfl rfl ?_
      refine r_gI' H rfl kl_6_8 (fun t4 H => ?_)
      exact r_reti H rfl rfl ⟨Nat.zero_le _, Nat.zero_le _⟩
    · rw [if_neg h3] at H; rcases Decidable.em (a1 = (1 : Int32)) with h5 | h5
      · rw [if_pos h5] at H; refine r_tab (t := 19) rfl (by rw [h5]; rfl) ?_
        refine r_aln rfl rfl rfl ?_
        refine r_gI' H rfl kl_6_9 (fun t6 H => ?_)
        exact r_reti H rfl rfl ⟨Nat.zero_le _, Nat.zero_le _⟩
      · rw [if_neg h5] at H; rcases Decidable.em (a1 = (2 : Int32)) with h7 | h7
        · rw [if_pos h7] at H; refine r_tab (t := 22) rfl (by rw [h7]; rfl) ?_
          refine r_ic (v := 0) rfl ci_0 ?_
          refine r_isn (L' := [some (.ref a0), some (.int a1), some (.int (0 : Int32)), some (.int (0 : Int32))]) rfl rfl (Nat.le_of_ble_eq_true rfl) rfl ?_
          refine (r_loop (P := (fun (s8 : Int32 × Int32) hq => ∀ ys8_0 : Int32, ∀ ys8_1 : Int32, s8 = (ys8_0, ys8_1) → Rn none 0 0 eX7_count 24 [some (.ref a0), some (.int a1), some (.int ys8_0), some (.int ys8_1)] [] hq (eI vr, hr))) ?_ NF _ _ H) _ _ rfl
          intro k9 K9 s8 hs8 H ys8_0 ys8_1 es8 
          subst es8
          refine r_iln rfl rfl rfl ?_
          refine r_aln rfl rfl rfl ?_
          refine r_gI' H rfl kl_6_8 (fun t10 H => ?_)
          refine r_cmp H rfl rfl (fun H => ?_) (fun H => ?_)
          · refine r_iln rfl rfl rfl ?_
            exact r_reti H rfl rfl ⟨Nat.zero_le _, Nat.zero_le _⟩
          · refine r_iln rfl rfl rfl ?_
            refine r_aln rfl rfl rfl ?_
            refine r_gR H rfl kd_6_3 (fun r11 H => ?_)
            refine r_iln rfl rfl rfl ?_
            refine r_aI' H rfl (fun t12 H => ?_)
            refine r_add rfl ?_
            refine r_isn (L' := [some (.ref a0), some (.int a1), some (.int (ys8_0 + t12)), some (.int ys8_1)]) rfl rfl (Nat.le_of_ble_eq_true rfl) rfl ?_
            refine r_inc (v := 1) (L' := [some (.ref a0), some (.int a1), some (.int (ys8_0 + t12)), some (.int (ys8_1 + (1 : Int32)))]) rfl rfl ci_1 rfl ?_
            refine r_go rfl ?_
            have q := K9 _ _ H _ _ rfl
            exact q
        · rw [if_neg h7] at H; rcases Decidable.em (a1 = (3 : Int32)) with h13 | h13
          · rw [if_pos h13] at H; refine r_tab (t := 39) rfl (by rw [h13]; rfl) ?_
            refine r_ic (v := 0) rfl ci_0 ?_
            refine r_isn (L' := [some (.ref a0), some (.int a1), some (.int (0 : Int32)), some (.int (0 : Int32))]) rfl rfl (Nat.le_of_ble_eq_true rfl) rfl ?_
            refine (r_loop (P := (fun (s14 : Int32 × Int32) hq => ∀ ys14_0 : Int32, ∀ ys14_1 : Int32, s14 = (ys14_0, ys14_1) → Rn none 0 0 eX7_count 41 [some (.ref a0), some (.int a1), some (.int ys14_0), some (.int ys14_1)] [] hq (eI vr, hr))) ?_ NF _ _ H) _ _ rfl
            intro k15 K15 s14 hs14 H ys14_0 ys14_1 es14 
            subst es14
            refine r_iln rfl rfl rfl ?_
            refine r_aln rfl rfl rfl ?_
            refine r_gI' H rfl kl_6_8 (fun t16 H => ?_)
            refine r_cmp H rfl rfl (fun H => ?_) (fun H => ?_)
            · refine r_iln rfl rfl rfl ?_
              exact r_reti H rfl rfl ⟨Nat.zero_le _, Nat.zero_le _⟩
            · refine r_iln rfl rfl rfl ?_
              refine r_aln rfl rfl rfl ?_
              refine r_gR H rfl kd_6_4 (fun r17 H => ?_)
              refine r_iln rfl rfl rfl ?_
              refine r_aI' H rfl (fun t18 H => ?_)
              refine r_add rfl ?_
              refine r_isn (L' := [some (.ref a0), some (.int a1), some (.int (ys14_0 + t18)), some (.int ys14_1)]) rfl rfl (Nat.le_of_ble_eq_true rfl) rfl ?_
              refine r_inc (v := 1) (L' := [some (.ref a0), some (.int a1), some (.int (ys14_0 + t18)), some (.int (ys14_1 + (1 : Int32)))]) rfl rfl ci_1 rfl ?_
              refine r_go rfl ?_
              have q := K15 _ _ H _ _ rfl
              exact q
          · rw [if_neg h13] at H; rcases Decidable.em (a1 = (4 : Int32)) with h19 | h19
            · rw [if_pos h19] at H; refine r_tab (t := 56) rfl (by rw [h19]; rfl) ?_
              refine r_ic (v := 0) rfl ci_0 ?_
              refine r_isn (L' := [some (.ref a0), some (.int a1), some (.int (0 : Int32)), some (.int (0 : Int32))]) rfl rfl (Nat.le_of_ble_eq_true rfl) rfl ?_
              refine (r_loop (P := (fun (s20 : Int32 × Int32) hq => ∀ ys20_0 : Int32, ∀ ys20_1 : Int32, s20 = (ys20_0, ys20_1) → Rn none 0 0 eX7_count 58 [some (.ref a0), some (.int a1), some (.int ys20_0), some (.int ys20_1)] [] hq (eI vr, hr))) ?_ NF _ _ H) _ _ rfl
              intro k21 K21 s20 hs20 H ys20_0 ys20_1 es20 
              subst es20
              refine r_iln rfl rfl rfl ?_
              refine r_bi (v := 8) rfl cb_8 ?_
              refine r_cmp H rfl rfl (fun H => ?_) (fun H => ?_)
              · refine r_iln rfl rfl rfl ?_
                refine r_ic (v := 2) rfl ci_2 ?_
                refine r_div H rfl (fun H => ?_)
                exact r_reti H rfl rfl ⟨Nat.zero_le _, Nat.zero_le _⟩
              · refine r_iln rfl rfl rfl ?_
                refine r_aln rfl rfl rfl ?_
                refine r_gR H rfl kd_6_6 (fun r23 H => ?_)
                refine r_iln rfl rfl rfl ?_
                refine r_aI' H rfl (fun t24 H => ?_)
                refine r_stI (rest := [.int ys20_0]) H rfl rfl (s_X7_bits t24) rfl rfl ⟨rfl, rfl⟩ rfl (fun t25 h26 H => ?_)
                refine r_add rfl ?_
                refine r_isn (L' := [some (.ref a0), some (.int a1), some (.int (ys20_0 + t25)), some (.int ys20_1)]) rfl rfl (Nat.le_of_ble_eq_true rfl) rfl ?_
                refine r_inc (v := 1) (L' := [some (.ref a0), some (.int a1), some (.int (ys20_0 + t25)), some (.int (ys20_1 + (1 : Int32)))]) rfl rfl ci_1 rfl ?_
                refine r_go rfl ?_
                have q := K21 _ _ H _ _ rfl
                exact q
            · rw [if_neg h19] at H; rcases Decidable.em (a1 = (5 : Int32)) with h27 | h27
              · rw [if_pos h27] at H; refine r_tab (t := 75) rfl (by rw [h27]; rfl) ?_
                refine r_aln rfl rfl rfl ?_
                refine r_gI' H rfl kl_6_14 (fun t28 H => ?_)
                exact r_reti H rfl rfl ⟨Nat.zero_le _, Nat.zero_le _⟩
              · rw [if_neg h27] at H; rcases Decidable.em (a1 = (6 : Int32)) with h29 | h29
                · rw [if_pos h29] at H; refine r_tab (t := 78) rfl (by rw [h29]; rfl) ?_
                  refine r_aln rfl rfl rfl ?_
                  refine r_gI' H rfl kl_6_25 (fun t30 H => ?_)
                  exact r_reti H rfl rfl ⟨Nat.zero_le _, Nat.zero_le _⟩
                · rw [if_neg h29] at H; rcases Decidable.em (a1 = (7 : Int32)) with h31 | h31
                  · rw [if_pos h31] at H; refine r_tab (t := 81) rfl (by rw [h31]; rfl) ?_
                    refine r_aln rfl rfl rfl ?_
                    refine r_gI' H rfl kl_6_21 (fun t32 H => ?_)
                    exact r_reti H rfl rfl ⟨Nat.zero_le _, Nat.zero_le _⟩
                  · rw [if_neg h31] at H; refine r_tab (t := 84) rfl (by have g0 := sw_ne h3 (v := 0) rfl; have g1 := sw_ne h5 (v := 1) rfl; have g2 := sw_ne h7 (v := 2) rfl; have g3 := sw_ne h13 (v := 3) rfl; have g4 := sw_ne h19 (v := 4) rfl; have g5 := sw_ne h27 (v := 5) rfl; have g6 := sw_ne h29 (v := 6) rfl; have g7 := sw_ne h31 (v := 7) rfl; exact (sw_out (by omega)).trans rfl) ?_
                    refine r_bi (v := -9) rfl cb_m9 ?_
                    exact r_reti H rfl rfl ⟨Nat.zero_le _, Nat.zero_le _⟩
  · refine r_aln rfl rfl rfl ?_
    refine r_gR H rfl kd_6_0 (fun r33 H => ?_)
    refine r_iln rfl rfl rfl ?_
    refine r_bi (v := 10) rfl cb_10 ?_
    refine r_sub rfl ?_
    refine r_aI' H rfl (fun t34 H => ?_)
    exact r_reti H rfl rfl ⟨Nat.zero_le _, Nat.zero_le _⟩
