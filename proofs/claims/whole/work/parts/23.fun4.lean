def f_X7_says (a0 : Nat) (a1 : Int32) (a2 : Int32) : M Int32 := bnd (cv 6 a0 (f_X7_areTwo a0 a1 a2)) fun t1 => if t1 = (0 : Int32) then bnd (cv 6 a0 (f_X7_no a0 (-1 : Int32))) fun t3 => rt t3 else bnd (gR 6 3 a0) fun r5 => bnd (aI r5 a2) fun t6 => bnd (cv 6 a0 (f_X7_saidOf a0 a1 t6)) fun t7 => rt t7
set_option maxRecDepth 20000 in
theorem s_X7_says (a0 : Nat) (a1 : Int32) (a2 : Int32) : Sm eX7_says [.ref a0, .int a1, .int a2] eI (f_X7_says a0 a1 a2) := by
  intro hp vr hr H
  unfold f_X7_says at H
  show Rn none 0 0 eX7_says 0 [some (.ref a0), some (.int a1), some (.int a2)] [] hp (eI vr, hr)
  refine r_aln rfl rfl rfl ?_
  refine r_iln rfl rfl rfl ?_
  refine r_iln rfl rfl rfl ?_
  refine r_vtI (rest := []) H rfl rfl rfl (s_X7_areTwo a0 a1 a2) rfl rfl ⟨rfl, rfl⟩ rfl (fun t1 h2 H => ?_)
  refine r_if H rfl rfl (fun H => ?_) (fun H => ?_)
  · refine r_aln rfl rfl rfl ?_
    refine r_ic (v := -1) rfl ci_m1 ?_
    refine r_vtI (rest := []) H rfl rfl rfl (s_X7_no a0 (-1 : Int32)) rfl rfl ⟨rfl, rfl⟩ rfl (fun t3 h4 H => ?_)
    exact r_reti H rfl rfl ⟨Nat.zero_le _, Nat.zero_le _⟩
  · refine r_aln rfl rfl rfl ?_
    refine r_iln rfl rfl rfl ?_
    refine r_aln rfl rfl rfl ?_
    refine r_gR H rfl kd_6_3 (fun r5 H => ?_)
    refine r_iln rfl rfl rfl ?_
    refine r_aI' H rfl (fun t6 H => ?_)
    refine r_vtI (rest := []) H rfl rfl rfl (s_X7_saidOf a0 a1 t6) rfl rfl ⟨rfl, rfl⟩ rfl (fun t7 h8 H => ?_)
    refine r_go rfl ?_
    exact r_reti H rfl rfl ⟨Nat.zero_le _, Nat.zero_le _⟩
def f_X7_saysOf (a0 : Nat) (a1 : Int32) (a2 : Int32) : M Int32 := bnd (cv 6 a0 (f_X7_isPerson a0 a1)) fun t1 => jn (fun k4 => if ¬ t1 = (0 : Int32) then bnd (f_X7_bound a2 (0 : Int32) (99 : Int32)) fun t9 => k4 t9 else k4 (-1 : Int32)) (fun (s3 : Int32) => if s3 = (0 : Int32) then bnd (cv 6 a0 (f_X7_saidOf a0 a1 a2)) fun t5 => rt t5 else bnd (cv 6 a0 (f_X7_no a0 s3)) fun t7 => rt t7)
set_option maxRecDepth 20000 in
theorem s_X7_saysOf (a0 : Nat) (a1 : Int32) (a2 : Int32) : Sm eX7_saysOf [.ref a0, .int a1, .int a2] eI (f_X7_saysOf a0 a1 a2) := by
  intro hp vr hr H
  unfold f_X7_saysOf at H
  show Rn none 0 0 eX7_saysOf 0 [some (.ref a0), some (.int a1), some (.int a2), none] [] hp (eI vr, hr)
  refine r_aln rfl rfl rfl ?_
  refine r_iln rfl rfl rfl ?_
  refine r_vtI (rest := []) H rfl rfl rfl (s_X7_isPerson a0 a1) rfl rfl ⟨rfl, rfl⟩ rfl (fun t1 h2 H => ?_)
  refine r_jn (P := (fun (s3 : Int32) hq => Rn none 0 0 eX7_saysOf 10 [some (.ref a0), some (.int a1), some (.int a2), none] [.int s3] hq (eI vr, hr))) H (fun s3 hs3 H  => ?_) (fun k4 K4 H => ?_)
  · refine r_isn (L' := [some (.ref a0), some (.int a1), some (.int a2), some (.int s3)]) rfl rfl (Nat.le_of_ble_eq_true rfl) rfl ?_
    refine r_iln rfl rfl rfl ?_
    refine r_if H rfl rfl (fun H => ?_) (fun H => ?_)
    · refine r_aln rfl rfl rfl ?_
      refine r_iln rfl rfl rfl ?_
      refine r_iln rfl rfl rfl ?_
      refine r_vtI (rest := []) H rfl rfl rfl (s_X7_saidOf a0 a1 a2) rfl rfl ⟨rfl, rfl⟩ rfl (fun t5 h6 H => ?_)
      exact r_reti H rfl rfl ⟨Nat.zero_le _, Nat.zero_le _⟩
    · refine r_aln rfl rfl rfl ?_
      refine r_iln rfl rfl rfl ?_
      refine r_vtI (rest := []) H rfl rfl rfl (s_X7_no a0 s3) rfl rfl ⟨rfl, rfl⟩ rfl (fun t7 h8 H => ?_)
      refine r_go rfl ?_
      exact r_reti H rfl rfl ⟨Nat.zero_le _, Nat.zero_le _⟩
  · refine r_if H rfl rfl (fun H => ?_) (fun H => ?_)
    · refine r_iln rfl rfl rfl ?_
      refine r_ic (v := 0) rfl ci_0 ?_
      refine r_bi (v := 99) rfl cb_99 ?_
      refine r_stI (rest := []) H rfl rfl (s_X7_bound a2 (0 : Int32) (99 : Int32)) rfl rfl ⟨rfl, rfl⟩ rfl (fun t9 h10 H => ?_)
      have q := K4 _ _ H
      exact q
    · refine r_ic (v := -1) rfl ci_m1 ?_
      refine r_go rfl ?_
      have q := K4 _ _ H
      exact q
def f_X7_findWeeks (a0 : Nat) (a1 : Int32) : M Unit := bnd (cv 6 a0 (f_X7_thinks a0)) fun _ => loopK NF (fun (s3 : Int32) k4 => if a1 < s3 then bnd (cv 6 a0 (f_X7_forgets a0)) fun _ => rt () else loopK NF (fun (s8 : Int32) k9 => bnd (gI 6 8 a0) fun t10 => if t10 ≤ s8 then bnd (cv 6 a0 (f_X7_goesWeek a0)) fun t11 => k4 (s3 + (1 : Int32)) else bnd (gR 6 23 a0) fun r13 => bnd (gR 6 4 a0) fun r14 => bnd (aI r14 s8) fun t15 => bnd (sI r13 (((7 : Int32) * s3) + s8) t15) fun _ => k9 (s8 + (1 : Int32))) (0 : Int32)) (0 : Int32)
set_option maxRecDepth 20000 in
theorem s_X7_findWeeks (a0 : Nat) (a1 : Int32) : Sm eX7_findWeeks [.ref a0, .int a1] eU (f_X7_findWeeks a0 a1) := by
  intro hp vr hr H
  unfold f_X7_findWeeks at H
  show Rn none 0 0 eX7_findWeeks 0 [some (.ref a0), some (.int a1), none, none] [] hp (eU vr, hr)
  refine r_aln rfl rfl rfl ?_
  refine r_vtU (rest := []) H rfl rfl rfl (s_X7_thinks a0) rfl rfl ⟨rfl, rfl⟩ rfl (fun t1 h2 H => ?_)
  refine r_ic (v := 0) rfl ci_0 ?_
  refine r_isn (L' := [some (.ref a0), some (.int a1), some (.int (0 : Int32)), none]) rfl rfl (Nat.le_of_ble_eq_true rfl) rfl ?_
  refine (r_loop (P := (fun (s3 : Int32) hq => ∀ x5 : Option Value, Rn none 0 0 eX7_findWeeks 4 [some (.ref a0), some (.int a1), some (.int s3), x5] [] hq (eU vr, hr))) ?_ NF _ _ H) _
  intro k4 K4 s3 hs3 H x5
  refine r_iln rfl rfl rfl ?_
  refine r_iln rfl rfl rfl ?_
  refine r_cmp H rfl rfl (fun H => ?_) (fun H => ?_)
  · refine r_aln rfl rfl rfl ?_
    refine r_vtU (rest := []) H rfl rfl rfl (s_X7_forgets a0) rfl rfl ⟨rfl, rfl⟩ rfl (fun t6 h7 H => ?_)
    exact r_retv H rfl rfl ⟨Nat.zero_le _, Nat.zero_le _⟩
  · refine r_ic (v := 0) rfl ci_0 ?_
    refine r_isn (L' := [some (.ref a0), some (.int a1), some (.int s3), some (.int (0 : Int32))]) rfl rfl (Nat.le_of_ble_eq_true rfl) rfl ?_
    refine (r_loop (P := (fun (s8 : Int32) hq => Rn none 0 0 eX7_findWeeks 9 [some (.ref a0), some (.int a1), some (.int s3), some (.int s8)] [] hq (eU vr, hr))) ?_ NF _ _ H)
    intro k9 K9 s8 hs8 H 
    refine r_iln rfl rfl rfl ?_
    refine r_aln rfl rfl rfl ?_
    refine r_gI' H rfl kl_6_8 (fun t10 H => ?_)
    refine r_cmp H rfl rfl (fun H => ?_) (fun H => ?_)
    · refine r_aln rfl rfl rfl ?_
      refine r_vtI (rest := []) H rfl rfl rfl (s_X7_goesWeek a0) rfl rfl ⟨rfl, rfl⟩ rfl (fun t11 h12 H => ?_)
      refine r_popi rfl ?_
      refine r_inc (v := 1) (L' := [some (.ref a0), some (.int a1), some (.int (s3 + (1 : Int32))), some (.int s8)]) rfl rfl ci_1 rfl ?_
      refine r_go rfl ?_
      have q := K4 _ _ H
      exact q _
    · refine r_aln rfl rfl rfl ?_
      refine r_gR H rfl kd_6_23 (fun r13 H => ?_)
      refine r_bi (v := 7) rfl cb_7 ?_
      refine r_iln rfl rfl rfl ?_
      refine r_mul rfl ?_
      refine r_iln rfl rfl rfl ?_
      refine r_add rfl ?_
      refine r_aln rfl rfl rfl ?_
      refine r_gR H rfl kd_6_4 (fun r14 H => ?_)
      refine r_iln rfl rfl rfl ?_
      refine r_aI' H rfl (fun t15 H => ?_)
      refine r_sI H rfl (fun H => ?_)
      refine r_inc (v := 1) (L' := [some (.ref a0), some (.int a1), some (.int s3), some (.int (s8 + (1 : Int32)))]) rfl rfl ci_1 rfl ?_
      refine r_go rfl ?_
      have q := K9 _ _ H
      exact q
def f_X7_notWeeks (a0 : Int32) : M Int32 := bnd (f_X7_bound a0 (0 : Int32) (60 : Int32)) fun t1 => rt t1
set_option maxRecDepth 20000 in
theorem s_X7_notWeeks (a0 : Int32) : Sm eX7_notWeeks [.int a0] eI (f_X7_notWeeks a0) := by
  intro hp vr hr H
  unfold f_X7_notWeeks at H
  show Rn none 0 0 eX7_notWeeks 0 [some (.int a0)] [] hp (eI vr, hr)
  refine r_iln rfl rfl rfl ?_
  refine r_ic (v := 0) rfl ci_0 ?_
  refine r_bi (v := 60) rfl cb_60 ?_
  refine r_stI (rest := []) H rfl rfl (s_X7_bound a0 (0 : Int32) (60 : Int32)) rfl rfl ⟨rfl, rfl⟩ rfl (fun t1 h2 H => ?_)
  exact r_reti H rfl rfl ⟨Nat.zero_le _, Nat.zero_le _⟩
def f_X7_beliefAt (a0 : Nat) (a1 : Int32) (a2 : Int32) : M Int32 := bnd (gR 6 23 a0) fun r1 => bnd (aI r1 (((7 : Int32) * a1) + a2)) fun t2 => rt t2
set_option maxRecDepth 20000 in
theorem s_X7_beliefAt (a0 : Nat) (a1 : Int32) (a2 : Int32) : Sm eX7_beliefAt [.ref a0, .int a1, .int a2] eI (f_X7_beliefAt a0 a1 a2) := by
  intro hp vr hr H
  unfold f_X7_beliefAt at H
  show Rn none 0 0 eX7_beliefAt 0 [some (.ref a0), some (.int a1), some (.int a2)] [] hp (eI vr, hr)
  refine r_aln rfl rfl rfl ?_
  refine r_gR H rfl kd_6_23 (fun r1 H => ?_)
  refine r_bi (v := 7) rfl cb_7 ?_
  refine r_iln rfl rfl rfl ?_
  refine r_mul rfl ?_
  refine r_iln rfl rfl rfl ?_
  refine r_add rfl ?_
  refine r_aI' H rfl (fun t2 H => ?_)
  exact r_reti H rfl rfl ⟨Nat.zero_le _, Nat.zero_le _⟩
def f_X7_belief (a0 : Nat) (a1 : Int32) (a2 : Int32) : M Int32 := bnd (cv 6 a0 (f_X7_isPerson a0 a1)) fun t1 => jn (fun k4 => if ¬ t1 = (0 : Int32) then bnd (f_X7_notWeeks a2) fun t11 => k4 t11 else k4 (-1 : Int32)) (fun (s3 : Int32) => if s3 = (0 : Int32) then bnd (cv 6 a0 (f_X7_findWeeks a0 a2)) fun _ => bnd (cv 6 a0 (f_X7_beliefAt a0 a2 a1)) fun t7 => rt t7 else bnd (cv 6 a0 (f_X7_no a0 s3)) fun t9 => rt t9)
set_option maxRecDepth 20000 in
theorem s_X7_belief (a0 : Nat) (a1 : Int32) (a2 : Int32) : Sm eX7_belief [.ref a0, .int a1, .int a2] eI (f_X7_belief a0 a1 a2) := by
  intro hp vr hr H
  unfold f_X7_belief at H
  show Rn none 0 0 eX7_belief 0 [some (.ref a0), some (.int a1), some (.int a2), none] [] hp (eI vr, hr)
  refine r_aln rfl rfl rfl ?_
  refine r_iln rfl rfl rfl ?_
  refine r_vtI (rest := []) H rfl rfl rfl (s_X7_isPerson a0 a1) rfl rfl ⟨rfl, rfl⟩ rfl (fun t1 h2 H => ?_)
  refine r_jn (P := (fun (s3 : Int32) hq => Rn none 0 0 eX7_belief 8 [some (.ref a0), some (.int a1), some (.int a2), none] [.int s3] hq (eI vr, hr))) H (fun s3 hs3 H  => ?_) (fun k4 K4 H => ?_)
  · refine r_isn (L' := [some (.ref a0), some (.int a1), some (.int a2), some (.int s3)]) rfl rfl (Nat.le_of_ble_eq_true rfl) rfl ?_
    refine r_iln rfl rfl rfl ?_
    refine r_if H rfl rfl (fun H => ?_) (fun H => ?_)
    · refine r_aln rfl rfl rfl ?_
      refine r_iln rfl rfl rfl ?_
      refine r_vtU (rest := []) H rfl rfl rfl (s_X7_findWeeks a0 a2) rfl rfl ⟨rfl, rfl⟩ rfl (fun t5 h6 H => ?_)
      refine r_aln rfl rfl rfl ?_
      refine r_iln rfl rfl rfl ?_
      refine r_iln rfl rfl rfl ?_
      refine r_vtI (rest := []) H rfl rfl rfl (s_X7_beliefAt a0 a2 a1) rfl rfl ⟨rfl, rfl⟩ rfl (fun t7 h8 H => ?_)
      exact r_reti H rfl rfl ⟨Nat.zero_le _, Nat.zero_le _⟩
    · refine r_aln rfl rfl rfl ?_
      refine r_iln rfl rfl rfl ?_
      refine r_vtI (rest := []) H rfl rfl rfl (s_X7_no a0 s3) rfl rfl ⟨rfl, rfl⟩ rfl (fun t9 h10 H => ?_)
      exact r_reti H rfl rfl ⟨Nat.zero_le _, Nat.zero_le _⟩
  · refine r_if H rfl rfl (fun H => ?_) (fun H => ?_)
    · refine r_iln rfl rfl rfl ?_
      refine r_stI (rest := []) H rfl rfl (s_X7_notWeeks a2) rfl rfl ⟨rfl, rfl⟩ rfl (fun t11 h12 H => ?_)
      have q := K4 _ _ H
      exact q
    · refine r_ic (v := -1) rfl ci_m1 ?_
      refine r_go rfl ?_
      have q := K4 _ _ H
      exact q
def f_X7_fooledAt (a0 : Nat) (a1 : Int32) (a2 : Int32) : M Int32 := loopK NF (fun (s1 : Int32 × Int32) k2 => bnd (gI 6 8 a0) fun t3 => if t3 ≤ s1.2 then rt s1.1 else bnd (cv 6 a0 (f_X7_beliefAt a0 a1 s1.2)) fun t4 => bnd (gR 6 3 a0) fun r6 => bnd (aI r6 s1.2) fun t7 => bnd (f_X7_far t4 t7) fun t8 => if t8 ≤ a2 then k2 ((s1.1 ||| (0 : Int32)), (s1.2 + (1 : Int32))) else k2 ((s1.1 ||| ((1 : Int32) <<< (s1.2 &&& (31 : Int32)))), (s1.2 + (1 : Int32)))) ((0 : Int32), (0 : Int32))
set_option maxRecDepth 20000 in
theorem s_X7_fooledAt (a0 : Nat) (a1 : Int32) (a2 : Int32) : Sm eX7_fooledAt [.ref a0, .int a1, .int a2] eI (f_X7_fooledAt a0 a1 a2) := by
  intro hp vr hr H
  unfold f_X7_fooledAt at H
  show Rn none 0 0 eX7_fooledAt 0 [some (.ref a0), some (.int a1), some (.int a2), none, none] [] hp (eI vr, hr)
  refine r_ic (v := 0) rfl ci_0 ?_
  refine r_isn (L' := [some (.ref a0), some (.int a1), some (.int a2), some (.int (0 : Int32)), none]) rfl rfl (Nat.le_of_ble_eq_true rfl) rfl ?_
  refine r_ic (v := 0) rfl ci_0 ?_
  refine r_is (L' := [some (.ref a0), some (.int a1), some (.int a2), some (.int (0 : Int32)), some (.int (0 : Int32))]) rfl (Nat.le_of_ble_eq_true rfl) rfl ?_
  refine (r_loop (P := (fun (s1 : Int32 × Int32) hq => ∀ ys1_0 : Int32, ∀ ys1_1 : Int32, s1 = (ys1_0, ys1_1) → Rn none 0 0 eX7_fooledAt 4 [some (.ref a0), some (.int a1), some (.int a2), some (.int ys1_0), some (.int ys1_1)] [] hq (eI vr, hr))) ?_ NF _ _ H) _ _ rfl
  intro k2 K2 s1 hs1 H ys1_0 ys1_1 es1 
  subst es1
  refine r_il rfl rfl ?_
  refine r_aln rfl rfl rfl ?_
  refine r_gI' H rfl kl_6_8 (fun t3 H => ?_)
  refine r_cmp H rfl rfl (fun H => ?_) (fun H => ?_)
  · refine r_iln rfl rfl rfl ?_
    exact r_reti H rfl rfl ⟨Nat.zero_le _, Nat.zero_le _⟩
  · refine r_iln rfl rfl rfl ?_
    refine r_aln rfl rfl rfl ?_
    refine r_iln rfl rfl rfl ?_
    refine r_il rfl rfl ?_
    refine r_vtI (rest := [.int ys1_0]) H rfl rfl rfl (s_X7_beliefAt a0 a1 ys1_1) rfl rfl ⟨rfl, rfl⟩ rfl (fun t4 h5 H => ?_)
    refine r_aln rfl rfl rfl ?_
    refine r_gR H rfl kd_6_3 (fun r6 H => ?_)
    refine r_il rfl rfl ?_
    refine r_aI' H rfl (fun t7 H => ?_)
    refine r_stI (rest := [.int ys1_0]) H rfl rfl (s_X7_far t4 t7) rfl rfl ⟨rfl, rfl⟩ rfl (fun t8 h9 H => ?_)
    refine r_iln rfl rfl rfl ?_
    refine r_cmp H rfl rfl (fun H => ?_) (fun H => ?_)
    · refine r_ic (v := 0) rfl ci_0 ?_
      refine r_or rfl ?_
      refine r_isn (L' := [some (.ref a0), some (.int a1), some (.int a2), some (.int (ys1_0 ||| (0 : Int32))), some (.int ys1_1)]) rfl rfl (Nat.le_of_ble_eq_true rfl) rfl ?_
      refine r_inc (v := 1) (L' := [some (.ref a0), some (.int a1), some (.int a2), some (.int (ys1_0 ||| (0 : Int32))), some (.int (ys1_1 + (1 : Int32)))]) rfl rfl ci_1 rfl ?_
      refine r_go rfl ?_
      have q := K2 _ _ H _ _ rfl
      exact q
    · refine r_ic (v := 1) rfl ci_1 ?_
      refine r_il rfl rfl ?_
      refine r_shl rfl ?_
      refine r_go rfl ?_
      refine r_or rfl ?_
      refine r_isn (L' := [some (.ref a0), some (.int a1), some (.int a2), some (.int (ys1_0 ||| ((1 : Int32) <<< (ys1_1 &&& (31 : Int32))))), some (.int ys1_1)]) rfl rfl (Nat.le_of_ble_eq_true rfl) rfl ?_
      refine r_inc (v := 1) (L' := [some (.ref a0), some (.int a1), some (.int a2), some (.int (ys1_0 ||| ((1 : Int32) <<< (ys1_1 &&& (31 : Int32))))), some (.int (ys1_1 + (1 : Int32)))]) rfl rfl ci_1 rfl ?_
      refine r_go rfl ?_
      have q := K2 _ _ H _ _ rfl
      exact q
def f_X7_errorAt (a0 : Nat) (a1 : Int32) : M Int32 := loopK NF (fun (s1 : Int32 × Int32) k2 => bnd (gI 6 8 a0) fun t3 => if t3 ≤ s1.2 then rt s1.1 else bnd (cv 6 a0 (f_X7_beliefAt a0 a1 s1.2)) fun t4 => bnd (gR 6 3 a0) fun r6 => bnd (aI r6 s1.2) fun t7 => bnd (f_X7_far t4 t7) fun t8 => k2 ((s1.1 + t8), (s1.2 + (1 : Int32)))) ((0 : Int32), (0 : Int32))
set_option maxRecDepth 20000 in
theorem s_X7_errorAt (a0 : Nat) (a1 : Int32) : Sm eX7_errorAt [.ref a0, .int a1] eI (f_X7_errorAt a0 a1) := by
  intro hp vr hr H
  unfold f_X7_errorAt at H
  show Rn none 0 0 eX7_errorAt 0 [some (.ref a0), some (.int a1), none, none] [] hp (eI vr, hr)
  refine r_ic (v := 0) rfl ci_0 ?_
  refine r_isn (L' := [some (.ref a0), some (.int a1), some (.int (0 : Int32)), none]) rfl rfl (Nat.le_of_ble_eq_true rfl) rfl ?_
  refine r_ic (v := 0) rfl ci_0 ?_
  refine r_isn (L' := [some (.ref a0), some (.int a1), some (.int (0 : Int32)), some (.int (0 : Int32))]) rfl rfl (Nat.le_of_ble_eq_true rfl) rfl ?_
  refine (r_loop (P := (fun (s1 : Int32 × Int32) hq => ∀ ys1_0 : Int32, ∀ ys1_1 : Int32, s1 = (ys1_0, ys1_1) → Rn none 0 0 eX7_errorAt 4 [some (.ref a0), some (.int a1), some (.int ys1_0), some (.int ys1_1)] [] hq (eI vr, hr))) ?_ NF _ _ H) _ _ rfl
  intro k2 K2 s1 hs1 H ys1_0 ys1_1 es1 
  subst es1
  refine r_iln rfl rfl rfl ?_
  refine r_aln rfl rfl rfl ?_
  refine r_gI' H rfl kl_6_8 (fun t3 H => ?_)
  refine r_cmp H rfl rfl (fun H => ?_) (fun H => ?_)
  · refine r_iln rfl rfl rfl ?_
    exact r_reti H rfl rfl ⟨Nat.zero_le _, Nat.zero_le _⟩
  · refine r_iln rfl rfl rfl ?_
    refine r_aln rfl rfl rfl ?_
    refine r_iln rfl rfl rfl ?_
    refine r_iln rfl rfl rfl ?_
    refine r_vtI (rest := [.int ys1_0]) H rfl rfl rfl (s_X7_beliefAt a0 a1 ys1_1) rfl rfl ⟨rfl, rfl⟩ rfl (fun t4 h5 H => ?_)
    refine r_aln rfl rfl rfl ?_
    refine r_gR H rfl kd_6_3 (fun r6 H => ?_)
    refine r_iln rfl rfl rfl ?_
    refine r_aI' H rfl (fun t7 H => ?_)
    refine r_stI (rest := [.int ys1_0]) H rfl rfl (s_X7_far t4 t7) rfl rfl ⟨rfl, rfl⟩ rfl (fun t8 h9 H => ?_)
    refine r_add rfl ?_
    refine r_isn (L' := [some (.ref a0), some (.int a1), some (.int (ys1_0 + t8)), some (.int ys1_1)]) rfl rfl (Nat.le_of_ble_eq_true rfl) rfl ?_
    refine r_inc (v := 1) (L' := [some (.ref a0), some (.int a1), some (.int (ys1_0 + t8)), some (.int (ys1_1 + (1 : Int32)))]) rfl rfl ci_1 rfl ?_
    refine r_go rfl ?_
    have q := K2 _ _ H _ _ rfl
    exact q
def f_X7_errorBehind (a0 : Nat) (a1 : Int32) : M Int32 := bnd (cv 6 a0 (f_X7_findWeeks a0 a1)) fun _ => bnd (cv 6 a0 (f_X7_errorAt a0 a1)) fun t3 => rt t3
set_option maxRecDepth 20000 in
theorem s_X7_errorBehind (a0 : Nat) (a1 : Int32) : Sm eX7_errorBehind [.ref a0, .int a1] eI (f_X7_errorBehind a0 a1) := by
  intro hp vr hr H
  unfold f_X7_errorBehind at H
  show Rn none 0 0 eX7_errorBehind 0 [some (.ref a0), some (.int a1)] [] hp (eI vr, hr)
  refine r_aln rfl rfl rfl ?_
  refine r_iln rfl rfl rfl ?_
  refine r_vtU (rest := []) H rfl rfl rfl (s_X7_findWeeks a0 a1) rfl rfl ⟨rfl, rfl⟩ rfl (fun t1 h2 H => ?_)
  refine r_aln rfl rfl rfl ?_
  refine r_iln rfl rfl rfl ?_
  refine r_vtI (rest := []) H rfl rfl rfl (s_X7_errorAt a0 a1) rfl rfl ⟨rfl, rfl⟩ rfl (fun t3 h4 H => ?_)
  exact r_reti H rfl rfl ⟨Nat.zero_le _, Nat.zero_le _⟩
def f_X7_fooled (a0 : Nat) (a1 : Int32) (a2 : Int32) : M Int32 := jn (fun k2 => if a1 < (0 : Int32) then k2 (-4 : Int32) else if (0 : Int32) ≤ a2 then if (60 : Int32) < a1 then k2 (-6 : Int32) else if a2 ≤ (99 : Int32) then k2 (0 : Int32) else k2 (-6 : Int32) else k2 (-4 : Int32)) (fun (s1 : Int32) => if s1 = (0 : Int32) then bnd (cv 6 a0 (f_X7_findWeeks a0 a1)) fun _ => bnd (cv 6 a0 (f_X7_fooledAt a0 a1 a2)) fun t5 => rt t5 else bnd (cv 6 a0 (f_X7_no a0 s1)) fun t7 => rt t7)
set_option maxRecDepth 20000 in
theorem s_X7_fooled (a0 : Nat) (a1 : Int32) (a2 : Int32) : Sm eX7_fooled [.ref a0, .int a1, .int a2] eI (f_X7_fooled a0 a1 a2) := by
  intro hp vr hr H
  unfold f_X7_fooled at H
  show Rn none 0 0 eX7_fooled 0 [some (.ref a0), some (.int a1), some (.int a2), none] [] hp (eI vr, hr)
  refine r_iln rfl rfl rfl ?_
  refine r_jn (P := (fun (s1 : Int32) hq => Rn none 0 0 eX7_fooled 15 [some (.ref a0), some (.int a1), some (.int a2), none] [.int s1] hq (eI vr, hr))) H (fun s1 hs1 H  => ?_) (fun k2 K2 H => ?_)
  · refine r_isn (L' := [some (.ref a0), some (.int a1), some (.int a2), some (.int s1)]) rfl rfl (Nat.le_of_ble_eq_true rfl) rfl ?_
    refine r_iln rfl rfl rfl ?_
    refine r_if H rfl rfl (fun H => ?_) (fun H => ?_)
    · refine r_aln rfl rfl rfl ?_
      refine r_iln rfl rfl rfl ?_
      refine r_vtU (rest := []) H rfl rfl rfl (s_X7_findWeeks a0 a1) rfl rfl ⟨rfl, rfl⟩ rfl (fun t3 h4 H => ?_)
      refine r_aln rfl rfl rfl ?_
      refine r_iln rfl rfl rfl ?_
      refine r_iln rfl rfl rfl ?_
      refine r_vtI (rest := []) H rfl rfl rfl (s_X7_fooledAt a0 a1 a2) rfl rfl ⟨rfl, rfl⟩ rfl (fun t5 h6 H => ?_)
      exact r_reti H rfl rfl ⟨Nat.zero_le _, Nat.zero_le _⟩
    · refine r_aln rfl rfl rfl ?_
      refine r_iln rfl rfl rfl ?_
      refine r_vtI (rest := []) H rfl rfl rfl (s_X7_no a0 s1) rfl rfl ⟨rfl, rfl⟩ rfl (fun t7 h8 H => ?_)
      exact r_reti H rfl rfl ⟨Nat.zero_le _, Nat.zero_le _⟩
  · refine r_if H rfl rfl (fun H => ?_) (fun H => ?_)
    · refine r_bi (v := -4) rfl cb_m4 ?_
      refine r_go rfl ?_
      have q := K2 _ _ H
      exact q
    · refine r_iln rfl rfl rfl ?_
      refine r_if H rfl rfl (fun H => ?_) (fun H => ?_)
      · refine r_iln rfl rfl rfl ?_
        refine r_bi (v := 60) rfl cb_60 ?_
        refine r_cmp H rfl rfl (fun H => ?_) (fun H => ?_)
        · refine r_bi (v := -6) rfl cb_m6 ?_
          refine r_go rfl ?_
          have q := K2 _ _ H
          exact q
        · refine r_iln rfl rfl rfl ?_
          refine r_bi (v := 99) rfl cb_99 ?_
          refine r_cmp H rfl rfl (fun H => ?_) (fun H => ?_)
          · refine r_ic (v := 0) rfl ci_0 ?_
            have q := K2 _ _ H
            exact q
          · refine r_bi (v := -6) rfl cb_m6 ?_
            refine r_go rfl ?_
            have q := K2 _ _ H
            exact q
      · refine r_bi (v := -4) rfl cb_m4 ?_
        refine r_go rfl ?_
        have q := K2 _ _ H
        exact q
def f_X7_error (a0 : Nat) (a1 : Int32) : M Int32 := bnd (f_X7_notWeeks a1) fun t1 => if t1 = (0 : Int32) then bnd (cv 6 a0 (f_X7_errorBehind a0 a1)) fun t3 => rt t3 else bnd (cv 6 a0 (f_X7_no a0 t1)) fun t5 => rt t5
set_option maxRecDepth 20000 in
theorem s_X7_error (a0 : Nat) (a1 : Int32) : Sm eX7_error [.ref a0, .int a1] eI (f_X7_error a0 a1) := by
  intro hp vr hr H
  unfold f_X7_error at H
  show Rn none 0 0 eX7_error 0 [some (.ref a0), some (.int a1), none] [] hp (eI vr, hr)
  refine r_iln rfl rfl rfl ?_
  refine r_stI (rest := []) H rfl rfl (s_X7_notWeeks a1) rfl rfl ⟨rfl, rfl⟩ rfl (fun t1 h2 H => ?_)
  refine r_isn (L' := [some (.ref a0), some (.int a1), some (.int t1)]) rfl rfl (Nat.le_of_ble_eq_true rfl) rfl ?_
  refine r_iln rfl rfl rfl ?_
  refine r_if H rfl rfl (fun H => ?_) (fun H => ?_)
  · refine r_aln rfl rfl rfl ?_
    refine r_iln rfl rfl rfl ?_
    refine r_vtI (rest := []) H rfl rfl rfl (s_X7_errorBehind a0 a1) rfl rfl ⟨rfl, rfl⟩ rfl (fun t3 h4 H => ?_)
    exact r_reti H rfl rfl ⟨Nat.zero_le _, Nat.zero_le _⟩
  · refine r_aln rfl rfl rfl ?_
    refine r_iln rfl rfl rfl ?_
    refine r_vtI (rest := []) H rfl rfl rfl (s_X7_no a0 t1) rfl rfl ⟨rfl, rfl⟩ rfl (fun t5 h6 H => ?_)
    refine r_go rfl ?_
    exact r_reti H rfl rfl ⟨Nat.zero_le _, Nat.zero_le _⟩
def f_X7_first (a0 : Int32) : M Int32 := loopK NF (fun (s1 : Int32) k2 => bnd (f_X7_has a0 s1) fun t3 => if ¬ t3 = (0 : Int32) then rt s1 else k2 (s1 + (1 : Int32))) (0 : Int32)
set_option maxRecDepth 20000 in
theorem s_X7_first (a0 : Int32) : Sm eX7_first [.int a0] eI (f_X7_first a0) := by
  intro hp vr hr H
  unfold f_X7_first at H
  show Rn none 0 0 eX7_first 0 [some (.int a0), none] [] hp (eI vr, hr)
  refine r_ic (v := 0) rfl ci_0 ?_
  refine r_isn (L' := [some (.int a0), some (.int (0 : Int32))]) rfl rfl (Nat.le_of_ble_eq_true rfl) rfl ?_
  refine (r_loop (P := (fun (s1 : Int32) hq => Rn none 0 0 eX7_first 2 [some (.int a0), some (.int s1)] [] hq (eI vr, hr))) ?_ NF _ _ H)
  intro k2 K2 s1 hs1 H 
  refine r_iln rfl rfl rfl ?_
  refine r_iln rfl rfl rfl ?_
  refine r_stI (rest := []) H rfl rfl (s_X7_has a0 s1) rfl rfl ⟨rfl, rfl⟩ rfl (fun t3 h4 H => ?_)
  refine r_if H rfl rfl (fun H => ?_) (fun H => ?_)
  · refine r_iln rfl rfl rfl ?_
    exact r_reti H rfl rfl ⟨Nat.zero_le _, Nat.zero_le _⟩
  · refine r_inc (v := 1) (L' := [some (.int a0), some (.int (s1 + (1 : Int32)))]) rfl rfl ci_1 rfl ?_
    refine r_go rfl ?_
    have q := K2 _ _ H
    exact q
def f_X7_clash (a0 : Nat) (a1 : Int32) (a2 : Int32) : M Int32 := bnd (f_X7_bound a1 (0 : Int32) (99 : Int32)) fun t1 => jn (fun k4 => if ¬ t1 = (0 : Int32) then k4 t1 else bnd (f_X7_isIn a2 (0 : Int32) (1 : Int32)) fun t17 => if ¬ t17 = (0 : Int32) then k4 t1 else k4 (-2 : Int32)) (fun (s3 : Int32) => if s3 = (0 : Int32) then bnd (cv 6 a0 (f_X7_findWeeks a0 (60 : Int32))) fun _ => loopK NF (fun (s7 : Int32) k8 => if (60 : Int32) < s7 then rt (-9 : Int32) else bnd (cv 6 a0 (f_X7_fooledAt a0 s7 a1)) fun t9 => if t9 = (0 : Int32) then k8 (s7 + (1 : Int32)) else if ¬ a2 = (0 : Int32) then bnd (cv 6 a0 (f_X7_fooledAt a0 s7 a1)) fun t11 => bnd (f_X7_first t11) fun t13 => rt t13 else rt s7) (0 : Int32) else bnd (cv 6 a0 (f_X7_no a0 s3)) fun t15 => rt t15)
set_option maxRecDepth 20000 in
theorem s_X7_clash (a0 : Nat) (a1 : Int32) (a2 : Int32) : Sm eX7_clash [.ref a0, .int a1, .int a2] eI (f_X7_clash a0 a1 a2) := by
  intro hp vr hr H
  unfold f_X7_clash at H
  show Rn none 0 0 eX7_clash 0 [some (.ref a0), some (.int a1), some (.int a2), none, none] [] hp (eI vr, hr)
  refine r_iln rfl rfl rfl ?_
  refine r_ic (v := 0) rfl ci_0 ?_
  refine r_bi (v := 99) rfl cb_99 ?_
  refine r_stI (rest := []) H rfl rfl (s_X7_bound a1 (0 : Int32) (99 : Int32)) rfl rfl ⟨rfl, rfl⟩ rfl (fun t1 h2 H => ?_)
  refine r_isn (L' := [some (.ref a0), some (.int a1), some (.int a2), some (.int t1), none]) rfl rfl (Nat.le_of_ble_eq_true rfl) rfl ?_
  refine r_iln rfl rfl rfl ?_
  refine r_jn (P := (fun (s3 : Int32) hq => Rn none 0 0 eX7_clash 14 [some (.ref a0), some (.int a1), some (.int a2), some (.int s3), none] [] hq (eI vr, hr))) H (fun s3 hs3 H  => ?_) (fun k4 K4 H => ?_)
  · refine r_iln rfl rfl rfl ?_
    refine r_if H rfl rfl (fun H => ?_) (fun H => ?_)
    · refine r_aln rfl rfl rfl ?_
      refine r_bi (v := 60) rfl cb_60 ?_
      refine r_vtU (rest := []) H rfl rfl rfl (s_X7_findWeeks a0 (60 : Int32)) rfl rfl ⟨rfl, rfl⟩ rfl (fun t5 h6 H => ?_)
      refine r_ic (v := 0) rfl ci_0 ?_
      refine r_is (L' := [some (.ref a0), some (.int a1), some (.int a2), some (.int s3), some (.int (0 : Int32))]) rfl (Nat.le_of_ble_eq_true rfl) rfl ?_
      refine (r_loop (P := (fun (s7 : Int32) hq => Rn none 0 0 eX7_clash 25 [some (.ref a0), some (.int a1), some (.int a2), some (.int s3), some (.int s7)] [] hq (eI vr, hr))) ?_ NF _ _ H)
      intro k8 K8 s7 hs7 H 
      refine r_il rfl rfl ?_
      refine r_bi (v := 60) rfl cb_60 ?_
      refine r_cmp H rfl rfl (fun H => ?_) (fun H => ?_)
      · refine r_bi (v := -9) rfl cb_m9 ?_
        exact r_reti H rfl rfl ⟨Nat.zero_le _, Nat.zero_le _⟩
      · refine r_aln rfl rfl rfl ?_
        refine r_il rfl rfl ?_
        refine r_iln rfl rfl rfl ?_
        refine r_vtI (rest := []) H rfl rfl rfl (s_X7_fooledAt a0 s7 a1) rfl rfl ⟨rfl, rfl⟩ rfl (fun t9 h10 H => ?_)
        refine r_if H rfl rfl (fun H => ?_) (fun H => ?_)
        · refine r_inc (v := 1) (L' := [some (.ref a0), some (.int a1), some (.int a2), some (.int s3), some (.int (s7 + (1 : Int32)))]) rfl rfl ci_1 rfl ?_
          refine r_go rfl ?_
          have q := K8 _ _ H
          exact q
        · refine r_iln rfl rfl rfl ?_
          refine r_if H rfl rfl (fun H => ?_) (fun H => ?_)
          · refine r_aln rfl rfl rfl ?_
            refine r_il rfl rfl ?_
            refine r_iln rfl rfl rfl ?_
            refine r_vtI (rest := []) H rfl rfl rfl (s_X7_fooledAt a0 s7 a1) rfl rfl ⟨rfl, rfl⟩ rfl (fun t11 h12 H => ?_)
            refine r_stI (rest := []) H rfl rfl (s_X7_first t11) rfl rfl ⟨rfl, rfl⟩ rfl (fun t13 h14 H => ?_)
            exact r_reti H rfl rfl ⟨Nat.zero_le _, Nat.zero_le _⟩
          · refine r_il rfl rfl ?_
            refine r_go rfl ?_
            exact r_reti H rfl rfl ⟨Nat.zero_le _, Nat.zero_le _⟩
    · refine r_aln rfl rfl rfl ?_
      refine r_iln rfl rfl rfl ?_
      refine r_vtI (rest := []) H rfl rfl rfl (s_X7_no a0 s3) rfl rfl ⟨rfl, rfl⟩ rfl (fun t15 h16 H => ?_)
      exact r_reti H rfl rfl ⟨Nat.zero_le _, Nat.zero_le _⟩
  · refine r_if H rfl rfl (fun H => ?_) (fun H => ?_)
    · have q := K4 _ _ H
      exact q
    · refine r_iln rfl rfl rfl ?_
      refine r_ic (v := 0) rfl ci_0 ?_
      refine r_ic (v := 1) rfl ci_1 ?_
      refine r_stI (rest := []) H rfl rfl (s_X7_isIn a2 (0 : Int32) (1 : Int32)) rfl rfl ⟨rfl, rfl⟩ rfl (fun t17 h18 H => ?_)
      refine r_if H rfl rfl (fun H => ?_) (fun H => ?_)
      · have q := K4 _ _ H
        exact q
      · refine r_bi (v := -2) rfl cb_m2 ?_
        refine r_isn (L' := [some (.ref a0), some (.int a1), some (.int a2), some (.int (-2 : Int32)), none]) rfl rfl (Nat.le_of_ble_eq_true rfl) rfl ?_
        have q := K4 _ _ H
        exact q
def f_X7_areAlike (a0 : Nat) (a1 : Int32) (a2 : Int32) : M Int32 := loopK NF (fun (s1 : Int32) k2 => bnd (gI 6 8 a0) fun t3 => if t3 ≤ s1 then retZ (1 : Int32) else bnd (cv 6 a0 (f_X7_beliefAt a0 a1 s1)) fun t4 => bnd (cv 6 a0 (f_X7_beliefAt a0 a2 s1)) fun t6 => if t4 = t6 then k2 (s1 + (1 : Int32)) else retZ (0 : Int32)) (0 : Int32)
set_option maxRecDepth 20000 in
theorem s_X7_areAlike (a0 : Nat) (a1 : Int32) (a2 : Int32) : Sm eX7_areAlike [.ref a0, .int a1, .int a2] eI (f_X7_areAlike a0 a1 a2) := by
  intro hp vr hr H
  unfold f_X7_areAlike at H
  show Rn none 0 0 eX7_areAlike 0 [some (.ref a0), some (.int a1), some (.int a2), none] [] hp (eI vr, hr)
  refine r_ic (v := 0) rfl ci_0 ?_
  refine r_isn (L' := [some (.ref a0), some (.int a1), some (.int a2), some (.int (0 : Int32))]) rfl rfl (Nat.le_of_ble_eq_true rfl) rfl ?_
  refine (r_loop (P := (fun (s1 : Int32) hq => Rn none 0 0 eX7_areAlike 2 [some (.ref a0), some (.int a1), some (.int a2), some (.int s1)] [] hq (eI vr, hr))) ?_ NF _ _ H)
  intro k2 K2 s1 hs1 H 
  refine r_iln rfl rfl rfl ?_
  refine r_aln rfl rfl rfl ?_
  refine r_gI' H rfl kl_6_8 (fun t3 H => ?_)
  refine r_cmp H rfl rfl (fun H => ?_) (fun H => ?_)
  · refine r_ic (v := 1) rfl ci_1 ?_
    exact r_retz H rfl rfl ⟨Nat.zero_le _, Nat.zero_le _⟩
  · refine r_aln rfl rfl rfl ?_
    refine r_iln rfl rfl rfl ?_
    refine r_iln rfl rfl rfl ?_
    refine r_vtI (rest := []) H rfl rfl rfl (s_X7_beliefAt a0 a1 s1) rfl rfl ⟨rfl, rfl⟩ rfl (fun t4 h5 H => ?_)
    refine r_aln rfl rfl rfl ?_
    refine r_iln rfl rfl rfl ?_
    refine r_iln rfl rfl rfl ?_
    refine r_vtI (rest := [.int t4]) H rfl rfl rfl (s_X7_beliefAt a0 a2 s1) rfl rfl ⟨rfl, rfl⟩ rfl (fun t6 h7 H => ?_)
    refine r_cmp H rfl rfl (fun H => ?_) (fun H => ?_)
    · refine r_inc (v := 1) (L' := [some (.ref a0), some (.int a1), some (.int a2), some (.int (s1 + (1 : Int32)))]) rfl rfl ci_1 rfl ?_
      refine r_go rfl ?_
      have q := K2 _ _ H
      exact q
    · refine r_ic (v := 0) rfl ci_0 ?_
      exact r_retz H rfl rfl ⟨Nat.zero_le _, Nat.zero_le _⟩
def f_X7_settles (a0 : Nat) : M Int32 := bnd (cv 6 a0 (f_X7_findWeeks a0 (61 : Int32))) fun _ => loopK NF (fun (s3 : Int32) k4 => if (60 : Int32) < s3 then rt (-9 : Int32) else bnd (cv 6 a0 (f_X7_areAlike a0 s3 (s3 + (1 : Int32)))) fun t5 => if t5 = (0 : Int32) then k4 (s3 + (1 : Int32)) else rt s3) (0 : Int32)
set_option maxRecDepth 20000 in
theorem s_X7_settles (a0 : Nat) : Sm eX7_settles [.ref a0] eI (f_X7_settles a0) := by
  intro hp vr hr H
  unfold f_X7_settles at H
  show Rn none 0 0 eX7_settles 0 [some (.ref a0), none] [] hp (eI vr, hr)
  refine r_aln rfl rfl rfl ?_
  refine r_bi (v := 61) rfl cb_61 ?_
  refine r_vtU (rest := []) H rfl rfl rfl (s_X7_findWeeks a0 (61 : Int32)) rfl rfl ⟨rfl, rfl⟩ rfl (fun t1 h2 H => ?_)
  refine r_ic (v := 0) rfl ci_0 ?_
  refine r_isn (L' := [some (.ref a0), some (.int (0 : Int32))]) rfl rfl (Nat.le_of_ble_eq_true rfl) rfl ?_
  refine (r_loop (P := (fun (s3 : Int32) hq => Rn none 0 0 eX7_settles 5 [some (.ref a0), some (.int s3)] [] hq (eI vr, hr))) ?_ NF _ _ H)
  intro k4 K4 s3 hs3 H 
  refine r_iln rfl rfl rfl ?_
  refine r_bi (v := 60) rfl cb_60 ?_
  refine r_cmp H rfl rfl (fun H => ?_) (fun H => ?_)
  · refine r_bi (v := -9) rfl cb_m9 ?_
    exact r_reti H rfl rfl ⟨Nat.zero_le _, Nat.zero_le _⟩
  · refine r_aln rfl rfl rfl ?_
    refine r_iln rfl rfl rfl ?_
    refine r_iln rfl rfl rfl ?_
    refine r_ic (v := 1) rfl ci_1 ?_
    refine r_add rfl ?_
    refine r_vtI (rest := []) H rfl rfl rfl (s_X7_areAlike a0 s3 (s3 + (1 : Int32))) rfl rfl ⟨rfl, rfl⟩ rfl (fun t5 h6 H => ?_)
    refine r_if H rfl rfl (fun H => ?_) (fun H => ?_)
    · refine r_inc (v := 1) (L' := [some (.ref a0), some (.int (s3 + (1 : Int32)))]) rfl rfl ci_1 rfl ?_
      refine r_go rfl ?_
      have q := K4 _ _ H
      exact q
    · refine r_iln rfl rfl rfl ?_
      exact r_reti H rfl rfl ⟨Nat.zero_le _, Nat.zero_le _⟩
def f_X7_round (a0 : Nat) : M Int32 := bnd (cv 6 a0 (f_X7_findWeeks a0 (120 : Int32))) fun _ => loopK NF (fun (s3 : Int32) k4 => if (60 : Int32) < s3 then rt (-9 : Int32) else bnd (cv 6 a0 (f_X7_areAlike a0 (60 : Int32) ((60 : Int32) + s3))) fun t5 => if t5 = (0 : Int32) then k4 (s3 + (1 : Int32)) else rt s3) (1 : Int32)
set_option maxRecDepth 20000 in
theorem s_X7_round (a0 : Nat) : Sm eX7_round [.ref a0] eI (f_X7_round a0) := by
  intro hp vr hr H
  unfold f_X7_round at H
  show Rn none 0 0 eX7_round 0 [some (.ref a0), none] [] hp (eI vr, hr)
  refine r_aln rfl rfl rfl ?_
  refine r_bi (v := 120) rfl cb_120 ?_
  refine r_vtU (rest := []) H rfl rfl rfl (s_X7_findWeeks a0 (120 : Int32)) rfl rfl ⟨rfl, rfl⟩ rfl (fun t1 h2 H => ?_)
  refine r_ic (v := 1) rfl ci_1 ?_
  refine r_isn (L' := [some (.ref a0), some (.int (1 : Int32))]) rfl rfl (Nat.le_of_ble_eq_true rfl) rfl ?_
  refine (r_loop (P := (fun (s3 : Int32) hq => Rn none 0 0 eX7_round 5 [some (.ref a0), some (.int s3)] [] hq (eI vr, hr))) ?_ NF _ _ H)
  intro k4 K4 s3 hs3 H 
  refine r_iln rfl rfl rfl ?_
  refine r_bi (v := 60) rfl cb_60 ?_
  refine r_cmp H rfl rfl (fun H => ?_) (fun H => ?_)
  · refine r_bi (v := -9) rfl cb_m9 ?_
    exact r_reti H rfl rfl ⟨Nat.zero_le _, Nat.zero_le _⟩
  · refine r_aln rfl rfl rfl ?_
    refine r_bi (v := 60) rfl cb_60 ?_
    refine r_bi (v := 60) rfl cb_60 ?_
    refine r_iln rfl rfl rfl ?_
    refine r_add rfl ?_
    refine r_vtI (rest := []) H rfl rfl rfl (s_X7_areAlike a0 (60 : Int32) ((60 : Int32) + s3)) rfl rfl ⟨rfl, rfl⟩ rfl (fun t5 h6 H => ?_)
    refine r_if H rfl rfl (fun H => ?_) (fun H => ?_)
    · refine r_inc (v := 1) (L' := [some (.ref a0), some (.int (s3 + (1 : Int32)))]) rfl rfl ci_1 rfl ?_
      refine r_go rfl ?_
      have q := K4 _ _ H
      exact q
    · refine r_iln rfl rfl rfl ?_
      exact r_reti H rfl rfl ⟨Nat.zero_le _, Nat.zero_le _⟩
def f_X7_others (a0 : Nat) (a1 : Int32) : M Int32 := bnd (cv 6 a0 (f_X7_all a0)) fun t1 => rt (t1 &&& (((1 : Int32) <<< (a1 &&& (31 : Int32))) ^^^ (-1 : Int32)))
set_option maxRecDepth 20000 in
theorem s_X7_others (a0 : Nat) (a1 : Int32) : Sm eX7_others [.ref a0, .int a1] eI (f_X7_others a0 a1) := by
  intro hp vr hr H
  unfold f_X7_others at H
  show Rn none 0 0 eX7_others 0 [some (.ref a0), some (.int a1)] [] hp (eI vr, hr)
  refine r_aln rfl rfl rfl ?_
  refine r_vtI (rest := []) H rfl rfl rfl (s_X7_all a0) rfl rfl ⟨rfl, rfl⟩ rfl (fun t1 h2 H => ?_)
  refine r_ic (v := 1) rfl ci_1 ?_
  refine r_iln rfl rfl rfl ?_
  refine r_shl rfl ?_
  refine r_ic (v := -1) rfl ci_m1 ?_
  refine r_xor rfl ?_
  refine r_and rfl ?_
  exact r_reti H rfl rfl ⟨Nat.zero_le _, Nat.zero_le _⟩
def f_X7_isOf (a0 : Nat) (a1 : Int32) (a2 : Int32) : M Int32 := if a1 = (0 : Int32) then retZ (0 : Int32) else bnd (cv 6 a0 (f_X7_others a0 a2)) fun t1 => if ¬ (a1 &&& (t1 ^^^ (-1 : Int32))) = (0 : Int32) then retZ (0 : Int32) else retZ (1 : Int32)
set_option maxRecDepth 20000 in
theorem s_X7_isOf (a0 : Nat) (a1 : Int32) (a2 : Int32) : Sm eX7_isOf [.ref a0, .int a1, .int a2] eI (f_X7_isOf a0 a1 a2) := by
  intro hp vr hr H
  unfold f_X7_isOf at H
  show Rn none 0 0 eX7_isOf 0 [some (.ref a0), some (.int a1), some (.int a2)] [] hp (eI vr, hr)
  refine r_iln rfl rfl rfl ?_
  refine r_if H rfl rfl (fun H => ?_) (fun H => ?_)
  · refine r_ic (v := 0) rfl ci_0 ?_
    exact r_retz H rfl rfl ⟨Nat.zero_le _, Nat.zero_le _⟩
  · refine r_iln rfl rfl rfl ?_
    refine r_aln rfl rfl rfl ?_
    refine r_iln rfl rfl rfl ?_
    refine r_vtI (rest := [.int a1]) H rfl rfl rfl (s_X7_others a0 a2) rfl rfl ⟨rfl, rfl⟩ rfl (fun t1 h2 H => ?_)
    refine r_ic (v := -1) rfl ci_m1 ?_
    refine r_xor rfl ?_
    refine r_and rfl ?_
    refine r_if H rfl rfl (fun H => ?_) (fun H => ?_)
    · refine r_ic (v := 0) rfl ci_0 ?_
      exact r_retz H rfl rfl ⟨Nat.zero_le _, Nat.zero_le _⟩
    · refine r_ic (v := 1) rfl ci_1 ?_
      refine r_go rfl ?_
      exact r_retz H rfl rfl ⟨Nat.zero_le _, Nat.zero_le _⟩
def f_X7_errorOf (a0 : Nat) (a1 : Int32) (a2 : Int32) : M Int32 := bnd (cv 6 a0 (f_X7_meanOf a0 a1 a2)) fun t1 => bnd (gR 6 3 a0) fun r3 => bnd (aI r3 a1) fun t4 => bnd (f_X7_far t1 t4) fun t5 => rt t5
set_option maxRecDepth 20000 in
theorem s_X7_errorOf (a0 : Nat) (a1 : Int32) (a2 : Int32) : Sm eX7_errorOf [.ref a0, .int a1, .int a2] eI (f_X7_errorOf a0 a1 a2) := by
  intro hp vr hr H
  unfold f_X7_errorOf at H
  show Rn none 0 0 eX7_errorOf 0 [some (.ref a0), some (.int a1), some (.int a2)] [] hp (eI vr, hr)
  refine r_aln rfl rfl rfl ?_
  refine r_iln rfl rfl rfl ?_
  refine r_iln rfl rfl rfl ?_
  refine r_vtI (rest := []) H rfl rfl rfl (s_X7_meanOf a0 a1 a2) rfl rfl ⟨rfl, rfl⟩ rfl (fun t1 h2 H => ?_)
  refine r_aln rfl rfl rfl ?_
  refine r_gR H rfl kd_6_3 (fun r3 H => ?_)
  refine r_iln rfl rfl rfl ?_
  refine r_aI' H rfl (fun t4 H => ?_)
  refine r_stI (rest := []) H rfl rfl (s_X7_far t1 t4) rfl rfl ⟨rfl, rfl⟩ rfl (fun t5 h6 H => ?_)
  exact r_reti H rfl rfl ⟨Nat.zero_le _, Nat.zero_le _⟩
def f_X7_knows (a0 : Nat) (a1 : Int32) : M Int32 := bnd (cv 6 a0 (f_X7_isPerson a0 a1)) fun t1 => if ¬ t1 = (0 : Int32) then bnd (gR 6 4 a0) fun r3 => bnd (aI r3 a1) fun t4 => bnd (gR 6 3 a0) fun r5 => bnd (aI r5 a1) fun t6 => if ¬ t4 = t6 then loopK NF (fun (s7 : Int32 × Int32) k8 => bnd (cv 6 a0 (f_X7_all a0)) fun t9 => if t9 < s7.2 then rt s7.1 else bnd (cv 6 a0 (f_X7_isOf a0 s7.2 a1)) fun t11 => if t11 = (0 : Int32) then k8 (s7.1, (s7.2 + (1 : Int32))) else bnd (cv 6 a0 (f_X7_errorOf a0 a1 s7.2)) fun t13 => if ¬ t13 = (0 : Int32) then k8 (s7.1, (s7.2 + (1 : Int32))) else if s7.1 < (0 : Int32) then k8 (s7.2, (s7.2 + (1 : Int32))) else bnd (f_X7_bits s7.2) fun t15 => bnd (f_X7_bits s7.1) fun t17 => if t17 ≤ t15 then k8 (s7.1, (s7.2 + (1 : Int32))) else k8 (s7.2, (s7.2 + (1 : Int32)))) ((-9 : Int32), (1 : Int32)) else rt (0 : Int32) else bnd (cv 6 a0 (f_X7_no a0 (-1 : Int32))) fun t19 => rt t19
set_option maxRecDepth 20000 in
theorem s_X7_knows (a0 : Nat) (a1 : Int32) : Sm eX7_knows [.ref a0, .int a1] eI (f_X7_knows a0 a1) := by
  intro hp vr hr H
  unfold f_X7_knows at H
  show Rn none 0 0 eX7_knows 0 [some (.ref a0), some (.int a1), none, none] [] hp (eI vr, hr)
  refine r_aln rfl rfl rfl ?_
  refine r_iln rfl rfl rfl ?_
  refine r_vtI (rest := []) H rfl rfl rfl (s_X7_isPerson a0 a1) rfl rfl ⟨rfl, rfl⟩ rfl (fun t1 h2 H => ?_)
  refine r_if H rfl rfl (fun H => ?_) (fun H => ?_)
  · refine r_aln rfl rfl rfl ?_
    refine r_gR H rfl kd_6_4 (fun r3 H => ?_)
    refine r_iln rfl rfl rfl ?_
    refine r_aI' H rfl (fun t4 H => ?_)
    refine r_aln rfl rfl rfl ?_
    refine r_gR H rfl kd_6_3 (fun r5 H => ?_)
    refine r_iln rfl rfl rfl ?_
    refine r_aI' H rfl (fun t6 H => ?_)
    refine r_cmp H rfl rfl (fun H => ?_) (fun H => ?_)
    · refine r_bi (v := -9) rfl cb_m9 ?_
      refine r_isn (L' := [some (.ref a0), some (.int a1), some (.int (-9 : Int32)), none]) rfl rfl (Nat.le_of_ble_eq_true rfl) rfl ?_
      refine r_ic (v := 1) rfl ci_1 ?_
      refine r_isn (L' := [some (.ref a0), some (.int a1), some (.int (-9 : Int32)), some (.int (1 : Int32))]) rfl rfl (Nat.le_of_ble_eq_true rfl) rfl ?_
      refine (r_loop (P := (fun (s7 : Int32 × Int32) hq => ∀ ys7_0 : Int32, ∀ ys7_1 : Int32, s7 = (ys7_0, ys7_1) → Rn none 0 0 eX7_knows 23 [some (.ref a0), some (.int a1), some (.int ys7_0), some (.int ys7_1)] [] hq (eI vr, hr))) ?_ NF _ _ H) _ _ rfl
      intro k8 K8 s7 hs7 H ys7_0 ys7_1 es7 
      subst es7
      refine r_iln rfl rfl rfl ?_
      refine r_aln rfl rfl rfl ?_
      refine r_vtI (rest := [.int ys7_1]) H rfl rfl rfl (s_X7_all a0) rfl rfl ⟨rfl, rfl⟩ rfl (fun t9 h10 H => ?_)
      refine r_cmp H rfl rfl (fun H => ?_) (fun H => ?_)
      · refine r_iln rfl rfl rfl ?_
        exact r_reti H rfl rfl ⟨Nat.zero_le _, Nat.zero_le _⟩
      · refine r_aln rfl rfl rfl ?_
        refine r_iln rfl rfl rfl ?_
        refine r_iln rfl rfl rfl ?_
        refine r_vtI (rest := []) H rfl rfl rfl (s_X7_isOf a0 ys7_1 a1) rfl rfl ⟨rfl, rfl⟩ rfl (fun t11 h12 H => ?_)
        refine r_if H rfl rfl (fun H => ?_) (fun H => ?_)
        · refine r_inc (v := 1) (L' := [some (.ref a0), some (.int a1), some (.int ys7_0), some (.int (ys7_1 + (1 : Int32)))]) rfl rfl ci_1 rfl ?_
          refine r_go rfl ?_
          have q := K8 _ _ H _ _ rfl
          exact q
        · refine r_aln rfl rfl rfl ?_
          refine r_iln rfl rfl rfl ?_
          refine r_iln rfl rfl rfl ?_
          refine r_vtI (rest := []) H rfl rfl rfl (s_X7_errorOf a0 a1 ys7_1) rfl rfl ⟨rfl, rfl⟩ rfl (fun t13 h14 H => ?_)
          refine r_if H rfl rfl (fun H => ?_) (fun H => ?_)
          · refine r_inc (v := 1) (L' := [some (.ref a0), some (.int a1), some (.int ys7_0), some (.int (ys7_1 + (1 : Int32)))]) rfl rfl ci_1 rfl ?_
            refine r_go rfl ?_
            have q := K8 _ _ H _ _ rfl
            exact q
          · refine r_iln rfl rfl rfl ?_
            refine r_if H rfl rfl (fun H => ?_) (fun H => ?_)
            · refine r_iln rfl rfl rfl ?_
              refine r_isn (L' := [some (.ref a0), some (.int a1), some (.int ys7_1), some (.int ys7_1)]) rfl rfl (Nat.le_of_ble_eq_true rfl) rfl ?_
              refine r_inc (v := 1) (L' := [some (.ref a0), some (.int a1), some (.int ys7_1), some (.int (ys7_1 + (1 : Int32)))]) rfl rfl ci_1 rfl ?_
              refine r_go rfl ?_
              have q := K8 _ _ H _ _ rfl
              exact q
            · refine r_iln rfl rfl rfl ?_
              refine r_stI (rest := []) H rfl rfl (s_X7_bits ys7_1) rfl rfl ⟨rfl, rfl⟩ rfl (fun t15 h16 H => ?_)
              refine r_iln rfl rfl rfl ?_
              refine r_stI (rest := [.int t15]) H rfl rfl (s_X7_bits ys7_0) rfl rfl ⟨rfl, rfl⟩ rfl (fun t17 h18 H => ?_)
              refine r_cmp H rfl rfl (fun H => ?_) (fun H => ?_)
              · refine r_inc (v := 1) (L' := [some (.ref a0), some (.int a1), some (.int ys7_0), some (.int (ys7_1 + (1 : Int32)))]) rfl rfl ci_1 rfl ?_
                refine r_go rfl ?_
                have q := K8 _ _ H _ _ rfl
                exact q
              · refine r_iln rfl rfl rfl ?_
                refine r_isn (L' := [some (.ref a0), some (.int a1), some (.int ys7_1), some (.int ys7_1)]) rfl rfl (Nat.le_of_ble_eq_true rfl) rfl ?_
                refine r_inc (v := 1) (L' := [some (.ref a0), some (.int a1), some (.int ys7_1), some (.int (ys7_1 + (1 : Int32)))]) rfl rfl ci_1 rfl ?_
                refine r_go rfl ?_
                have q := K8 _ _ H _ _ rfl
                exact q
    · refine r_ic (v := 0) rfl ci_0 ?_
      exact r_reti H rfl rfl ⟨Nat.zero_le _, Nat.zero_le _⟩
  · refine r_aln rfl rfl rfl ?_
    refine r_ic (v := -1) rfl ci_m1 ?_
    refine r_vtI (rest := []) H rfl rfl rfl (s_X7_no a0 (-1 : Int32)) rfl rfl ⟨rfl, rfl⟩ rfl (fun t19 h20 H => ?_)
    exact r_reti H rfl rfl ⟨Nat.zero_le _, Nat.zero_le _⟩
def f_X7_nearest (a0 : Nat) (a1 : Int32) (a2 : Int32) : M Int32 := bnd (cv 6 a0 (f_X7_isPerson a0 a1)) fun t1 => jn (fun k4 => if ¬ t1 = (0 : Int32) then bnd (f_X7_isIn a2 (0 : Int32) (1 : Int32)) fun t26 => if ¬ t26 = (0 : Int32) then k4 (0 : Int32) else k4 (-2 : Int32) else k4 (-1 : Int32)) (fun (s3 : Int32) => if s3 = (0 : Int32) then loopK NF (fun (s5 : Int32 × Int32) k6 => bnd (cv 6 a0 (f_X7_all a0)) fun t8 => if t8 < s5.2 then if a2 = (0 : Int32) then rt s5.1 else if (0 : Int32) ≤ s5.1 then bnd (cv 6 a0 (f_X7_errorOf a0 a1 s5.1)) fun t10 => rt t10 else rt s5.1 else bnd (cv 6 a0 (f_X7_isOf a0 s5.2 a1)) fun t12 => if ¬ t12 = (0 : Int32) then jn (fun k15 => if (0 : Int32) ≤ s5.1 then bnd (cv 6 a0 (f_X7_errorOf a0 a1 s5.2)) fun t20 => bnd (cv 6 a0 (f_X7_errorOf a0 a1 s5.1)) fun t22 => k15 (t20 - t22) else k15 (-1 : Int32)) (fun (s14 : Int32) => if s14 < (0 : Int32) then k6 (s5.2, (s5.2 + (1 : Int32))) else if ¬ s14 = (0 : Int32) then k6 (s5.1, (s5.2 + (1 : Int32))) else bnd (f_X7_bits s5.2) fun t16 => bnd (f_X7_bits s5.1) fun t18 => if t18 ≤ t16 then k6 (s5.1, (s5.2 + (1 : Int32))) else k6 (s5.2, (s5.2 + (1 : Int32)))) else k6 (s5.1, (s5.2 + (1 : Int32)))) ((-9 : Int32), (1 : Int32)) else bnd (cv 6 a0 (f_X7_no a0 s3)) fun t24 => rt t24)
set_option maxRecDepth 20000 in
theorem s_X7_nearest (a0 : Nat) (a1 : Int32) (a2 : Int32) : Sm eX7_nearest [.ref a0, .int a1, .int a2] eI (f_X7_nearest a0 a1 a2) := by
  intro hp vr hr H
  unfold f_X7_nearest at H
  show Rn none 0 0 eX7_nearest 0 [some (.ref a0), some (.int a1), some (.int a2), none, none, none, none] [] hp (eI vr, hr)
  refine r_aln rfl rfl rfl ?_
  refine r_iln rfl rfl rfl ?_
  refine r_vtI (rest := []) H rfl rfl rfl (s_X7_isPerson a0 a1) rfl rfl ⟨rfl, rfl⟩ rfl (fun t1 h2 H => ?_)
  refine r_jn (P := (fun (s3 : Int32) hq => Rn none 0 0 eX7_nearest 14 [some (.ref a0), some (.int a1), some (.int a2), none, none, none, none] [.int s3] hq (eI vr, hr))) H (fun s3 hs3 H  => ?_) (fun k4 K4 H => ?_)
  · refine r_isn (L' := [some (.ref a0), some (.int a1), some (.int a2), some (.int s3), none, none, none]) rfl rfl (Nat.le_of_ble_eq_true rfl) rfl ?_
    refine r_iln rfl rfl rfl ?_
    refine r_if H rfl rfl (fun H => ?_) (fun H => ?_)
    · refine r_bi (v := -9) rfl cb_m9 ?_
      refine r_is (L' := [some (.ref a0), some (.int a1), some (.int a2), some (.int s3), some (.int (-9 : Int32)), none, none]) rfl (Nat.le_of_ble_eq_true rfl) rfl ?_
      refine r_ic (v := 1) rfl ci_1 ?_
      refine r_is (L' := [some (.ref a0), some (.int a1), some (.int a2), some (.int s3), some (.int (-9 : Int32)), some (.int (1 : Int32)), none]) rfl (Nat.le_of_ble_eq_true rfl) rfl ?_
      refine (r_loop (P := (fun (s5 : Int32 × Int32) hq => ∀ ys5_0 : Int32, ∀ ys5_1 : Int32, s5 = (ys5_0, ys5_1) → ∀ x7 : Option Value, Rn none 0 0 eX7_nearest 25 [some (.ref a0), some (.int a1), some (.int a2), some (.int s3), some (.int ys5_0), some (.int ys5_1), x7] [] hq (eI vr, hr))) ?_ NF _ _ H) _ _ rfl _
      intro k6 K6 s5 hs5 H ys5_0 ys5_1 es5 x7
      subst es5
      refine r_il rfl rfl ?_
      refine r_aln rfl rfl rfl ?_
      refine r_vtI (rest := [.int ys5_1]) H rfl rfl rfl (s_X7_all a0) rfl rfl ⟨rfl, rfl⟩ rfl (fun t8 h9 H => ?_)
      refine r_cmp H rfl rfl (fun H => ?_) (fun H => ?_)
      · refine r_iln rfl rfl rfl ?_
        refine r_if H rfl rfl (fun H => ?_) (fun H => ?_)
        · refine r_il rfl rfl ?_
          refine r_go rfl ?_
          exact r_reti H rfl rfl ⟨Nat.zero_le _, Nat.zero_le _⟩
        · refine r_il rfl rfl ?_
          refine r_if H rfl rfl (fun H => ?_) (fun H => ?_)
          · refine r_aln rfl rfl rfl ?_
            refine r_iln rfl rfl rfl ?_
            refine r_il rfl rfl ?_
            refine r_vtI (rest := []) H rfl rfl rfl (s_X7_errorOf a0 a1 ys5_0) rfl rfl ⟨rfl, rfl⟩ rfl (fun t10 h11 H => ?_)
            exact r_reti H rfl rfl ⟨Nat.zero_le _, Nat.zero_le _⟩
          · refine r_il rfl rfl ?_
            refine r_go rfl ?_
            exact r_reti H rfl rfl ⟨Nat.zero_le _, Nat.zero_le _⟩
      · refine r_aln rfl rfl rfl ?_
        refine r_il rfl rfl ?_
        refine r_iln rfl rfl rfl ?_
        refine r_vtI (rest := []) H rfl rfl rfl (s_X7_isOf a0 ys5_1 a1) rfl rfl ⟨rfl, rfl⟩ rfl (fun t12 h13 H => ?_)
        refine r_if H rfl rfl (fun H => ?_) (fun H => ?_)
        · refine r_il rfl rfl ?_
          refine r_jn (P := (fun (s14 : Int32) hq => Rn none 0 0 eX7_nearest 48 [some (.ref a0), some (.int a1), some (.int a2), some (.int s3), some (.int ys5_0), some (.int ys5_1), x7] [.int s14] hq (eI vr, hr))) H (fun s14 hs14 H  => ?_) (fun k15 K15 H => ?_)
          · refine r_is (L' := [some (.ref a0), some (.int a1), some (.int a2), some (.int s3), some (.int ys5_0), some (.int ys5_1), some (.int s14)]) rfl (Nat.le_of_ble_eq_true rfl) rfl ?_
            refine r_il rfl rfl ?_
            refine r_if H rfl rfl (fun H => ?_) (fun H => ?_)
            · refine r_il rfl rfl ?_
              refine r_is (L' := [some (.ref a0), some (.int a1), some (.int a2), some (.int s3), some (.int ys5_1), some (.int ys5_1), some (.int s14)]) rfl (Nat.le_of_ble_eq_true rfl) rfl ?_
              refine r_inc (v := 1) (L' := [some (.ref a0), some (.int a1), some (.int a2), some (.int s3), some (.int ys5_1), some (.int (ys5_1 + (1 : Int32))), some (.int s14)]) rfl rfl ci_1 rfl ?_
              refine r_go rfl ?_
              have q := K6 _ _ H _ _ rfl
              exact q _
            · refine r_il rfl rfl ?_
              refine r_if H rfl rfl (fun H => ?_) (fun H => ?_)
              · refine r_inc (v := 1) (L' := [some (.ref a0), some (.int a1), some (.int a2), some (.int s3), some (.int ys5_0), some (.int (ys5_1 + (1 : Int32))), some (.int s14)]) rfl rfl ci_1 rfl ?_
                refine r_go rfl ?_
                have q := K6 _ _ H _ _ rfl
                exact q _
              · refine r_il rfl rfl ?_
                refine r_stI (rest := []) H rfl rfl (s_X7_bits ys5_1) rfl rfl ⟨rfl, rfl⟩ rfl (fun t16 h17 H => ?_)
                refine r_il rfl rfl ?_
                refine r_stI (rest := [.int t16]) H rfl rfl (s_X7_bits ys5_0) rfl rfl ⟨rfl, rfl⟩ rfl (fun t18 h19 H => ?_)
                refine r_cmp H rfl rfl (fun H => ?_) (fun H => ?_)
                · refine r_inc (v := 1) (L' := [some (.ref a0), some (.int a1), some (.int a2), some (.int s3), some (.int ys5_0), some (.int (ys5_1 + (1 : Int32))), some (.int s14)]) rfl rfl ci_1 rfl ?_
                  refine r_go rfl ?_
                  have q := K6 _ _ H _ _ rfl
                  exact q _
                · refine r_il rfl rfl ?_
                  refine r_is (L' := [some (.ref a0), some (.int a1), some (.int a2), some (.int s3), some (.int ys5_1), some (.int ys5_1), some (.int s14)]) rfl (Nat.le_of_ble_eq_true rfl) rfl ?_
                  refine r_inc (v := 1) (L' := [some (.ref a0), some (.int a1), some (.int a2), some (.int s3), some (.int ys5_1), some (.int (ys5_1 + (1 : Int32))), some (.int s14)]) rfl rfl ci_1 rfl ?_
                  refine r_go rfl ?_
                  have q := K6 _ _ H _ _ rfl
                  exact q _
          · refine r_if H rfl rfl (fun H => ?_) (fun H => ?_)
            · refine r_aln rfl rfl rfl ?_
              refine r_iln rfl rfl rfl ?_
              refine r_il rfl rfl ?_
              refine r_vtI (rest := []) H rfl rfl rfl (s_X7_errorOf a0 a1 ys5_1) rfl rfl ⟨rfl, rfl⟩ rfl (fun t20 h21 H => ?_)
              refine r_aln rfl rfl rfl ?_
              refine r_iln rfl rfl rfl ?_
              refine r_il rfl rfl ?_
              refine r_vtI (rest := [.int t20]) H rfl rfl rfl (s_X7_errorOf a0 a1 ys5_0) rfl rfl ⟨rfl, rfl⟩ rfl (fun t22 h23 H => ?_)
              refine r_sub rfl ?_
              have q := K15 _ _ H
              exact q
            · refine r_ic (v := -1) rfl ci_m1 ?_
              refine r_go rfl ?_
              have q := K15 _ _ H
              exact q
        · refine r_go rfl ?_
          refine r_inc (v := 1) (L' := [some (.ref a0), some (.int a1), some (.int a2), some (.int s3), some (.int ys5_0), some (.int (ys5_1 + (1 : Int32))), x7]) rfl rfl ci_1 rfl ?_
          refine r_go rfl ?_
          have q := K6 _ _ H _ _ rfl
          exact q _
    · refine r_aln rfl rfl rfl ?_
      refine r_iln rfl rfl rfl ?_
      refine r_vtI (rest := []) H rfl rfl rfl (s_X7_no a0 s3) rfl rfl ⟨rfl, rfl⟩ rfl (fun t24 h25 H => ?_)
      exact r_reti H rfl rfl ⟨Nat.zero_le _, Nat.zero_le _⟩
  · refine r_if H rfl rfl (fun H => ?_) (fun H => ?_)
    · refine r_iln rfl rfl rfl ?_
      refine r_ic (v := 0) rfl ci_0 ?_
      refine r_ic (v := 1) rfl ci_1 ?_
      refine r_stI (rest := []) H rfl rfl (s_X7_isIn a2 (0 : Int32) (1 : Int32)) rfl rfl ⟨rfl, rfl⟩ rfl (fun t26 h27 H => ?_)
      refine r_if H rfl rfl (fun H => ?_) (fun H => ?_)
      · refine r_ic (v := 0) rfl ci_0 ?_
        have q := K4 _ _ H
        exact q
      · refine r_bi (v := -2) rfl cb_m2 ?_
        refine r_go rfl ?_
        have q := K4 _ _ H
        exact q
    · refine r_ic (v := -1) rfl ci_m1 ?_
      refine r_go rfl ?_
      have q := K4 _ _ H
      exact q
def f_X7_fair (a0 : Nat) (a1 : Int32) (a2 : Int32) (a3 : Int32) : M Int32 := bnd (cv 6 a0 (f_X7_isPerson a0 a1)) fun t1 => jn (fun k4 => if ¬ t1 = (0 : Int32) then if a2 < (1 : Int32) then k4 (-4 : Int32) else if (0 : Int32) ≤ a3 then if (6 : Int32) < a2 then k4 (-6 : Int32) else if a3 ≤ (99 : Int32) then k4 (0 : Int32) else k4 (-6 : Int32) else k4 (-4 : Int32) else k4 (-1 : Int32)) (fun (s3 : Int32) => if s3 = (0 : Int32) then loopK NF (fun (s5 : Int32 × Int32) k6 => bnd (cv 6 a0 (f_X7_all a0)) fun t7 => if t7 < s5.2 then rt s5.1 else bnd (cv 6 a0 (f_X7_isOf a0 s5.2 a1)) fun t9 => if t9 = (0 : Int32) then k6 ((s5.1 + (0 : Int32)), (s5.2 + (1 : Int32))) else bnd (f_X7_bits s5.2) fun t11 => if ¬ t11 = a2 then k6 ((s5.1 + (0 : Int32)), (s5.2 + (1 : Int32))) else bnd (cv 6 a0 (f_X7_errorOf a0 a1 s5.2)) fun t13 => if a3 < t13 then k6 ((s5.1 + (0 : Int32)), (s5.2 + (1 : Int32))) else k6 ((s5.1 + (1 : Int32)), (s5.2 + (1 : Int32)))) ((0 : Int32), (1 : Int32)) else bnd (cv 6 a0 (f_X7_no a0 s3)) fun t15 => rt t15)
set_option maxRecDepth 20000 in
theorem s_X7_fair (a0 : Nat) (a1 : Int32) (a2 : Int32) (a3 : Int32) : Sm eX7_fair [.ref a0, .int a1, .int a2, .int a3] eI (f_X7_fair a0 a1 a2 a3) := by
  intro hp vr hr H
  unfold f_X7_fair at H
  show Rn none 0 0 eX7_fair 0 [some (.ref a0), some (.int a1), some (.int a2), some (.int a3), none, none, none] [] hp (eI vr, hr)
  refine r_aln rfl rfl rfl ?_
  refine r_iln rfl rfl rfl ?_
  refine r_vtI (rest := []) H rfl rfl rfl (s_X7_isPerson a0 a1) rfl rfl ⟨rfl, rfl⟩ rfl (fun t1 h2 H => ?_)
  refine r_jn (P := (fun (s3 : Int32) hq => Rn none 0 0 eX7_fair 22 [some (.ref a0), some (.int a1), some (.int a2), some (.int a3), none, none, none] [.int s3] hq (eI vr, hr))) H (fun s3 hs3 H  => ?_) (fun k4 K4 H => ?_)
  · refine r_is (L' := [some (.ref a0), some (.int a1), some (.int a2), some (.int a3), some (.int s3), none, none]) rfl (Nat.le_of_ble_eq_true rfl) rfl ?_
    refine r_il rfl rfl ?_
    refine r_if H rfl rfl (fun H => ?_) (fun H => ?_)
    · refine r_ic (v := 0) rfl ci_0 ?_
      refine r_is (L' := [some (.ref a0), some (.int a1), some (.int a2), some (.int a3), some (.int s3), some (.int (0 : Int32)), none]) rfl (Nat.le_of_ble_eq_true rfl) rfl ?_
      refine r_ic (v := 1) rfl ci_1 ?_
      refine r_is (L' := [some (.ref a0), some (.int a1), some (.int a2), some (.int a3), some (.int s3), some (.int (0 : Int32)), some (.int (1 : Int32))]) rfl (Nat.le_of_ble_eq_true rfl) rfl ?_
      refine (r_loop (P := (fun (s5 : Int32 × Int32) hq => ∀ ys5_0 : Int32, ∀ ys5_1 : Int32, s5 = (ys5_0, ys5_1) → Rn none 0 0 eX7_fair 33 [some (.ref a0), some (.int a1), some (.int a2), some (.int a3), some (.int s3), some (.int ys5_0), some (.int ys5_1)] [] hq (eI vr, hr))) ?_ NF _ _ H) _ _ rfl
      intro k6 K6 s5 hs5 H ys5_0 ys5_1 es5 
      subst es5
      refine r_il rfl rfl ?_
      refine r_aln rfl rfl rfl ?_
      refine r_vtI (rest := [.int ys5_1]) H rfl rfl rfl (s_X7_all a0) rfl rfl ⟨rfl, rfl⟩ rfl (fun t7 h8 H => ?_)
      refine r_cmp H rfl rfl (fun H => ?_) (fun H => ?_)
      · refine r_il rfl rfl ?_
        exact r_reti H rfl rfl ⟨Nat.zero_le _, Nat.zero_le _⟩
      · refine r_il rfl rfl ?_
        refine r_aln rfl rfl rfl ?_
        refine r_il rfl rfl ?_
        refine r_iln rfl rfl rfl ?_
        refine r_vtI (rest := [.int ys5_0]) H rfl rfl rfl (s_X7_isOf a0 ys5_1 a1) rfl rfl ⟨rfl, rfl⟩ rfl (fun t9 h10 H => ?_)
        refine r_if H rfl rfl (fun H => ?_) (fun H => ?_)
        · refine r_ic (v := 0) rfl ci_0 ?_
          refine r_add rfl ?_
          refine r_is (L' := [some (.ref a0), some (.int a1), some (.int a2), some (.int a3), some (.int s3), some (.int (ys5_0 + (0 : Int32))), some (.int ys5_1)]) rfl (Nat.le_of_ble_eq_true rfl) rfl ?_
          refine r_inc (v := 1) (L' := [some (.ref a0), some (.int a1), some (.int a2), some (.int a3), some (.int s3), some (.int (ys5_0 + (0 : Int32))), some (.int (ys5_1 + (1 : Int32)))]) rfl rfl ci_1 rfl ?_
          refine r_go rfl ?_
          have q := K6 _ _ H _ _ rfl
          exact q
        · refine r_il rfl rfl ?_
          refine r_stI (rest := [.int ys5_0]) H rfl rfl (s_X7_bits ys5_1) rfl rfl ⟨rfl, rfl⟩ rfl (fun t11 h12 H => ?_)
          refine r_iln rfl rfl rfl ?_
          refine r_cmp H rfl rfl (fun H => ?_) (fun H => ?_)
          · refine r_ic (v := 0) rfl ci_0 ?_
            refine r_add rfl ?_
            refine r_is (L' := [some (.ref a0), some (.int a1), some (.int a2), some (.int a3), some (.int s3), some (.int (ys5_0 + (0 : Int32))), some (.int ys5_1)]) rfl (Nat.le_of_ble_eq_true rfl) rfl ?_
            refine r_inc (v := 1) (L' := [some (.ref a0), some (.int a1), some (.int a2), some (.int a3), some (.int s3), some (.int (ys5_0 + (0 : Int32))), some (.int (ys5_1 + (1 : Int32)))]) rfl rfl ci_1 rfl ?_
            refine r_go rfl ?_
            have q := K6 _ _ H _ _ rfl
            exact q
          · refine r_aln rfl rfl rfl ?_
            refine r_iln rfl rfl rfl ?_
            refine r_il rfl rfl ?_
            refine r_vtI (rest := [.int ys5_0]) H rfl rfl rfl (s_X7_errorOf a0 a1 ys5_1) rfl rfl ⟨rfl, rfl⟩ rfl (fun t13 h14 H => ?_)
            refine r_iln rfl rfl rfl ?_
            refine r_cmp H rfl rfl (fun H => ?_) (fun H => ?_)
            · refine r_ic (v := 0) rfl ci_0 ?_
              refine r_add rfl ?_
              refine r_is (L' := [some (.ref a0), some (.int a1), some (.int a2), some (.int a3), some (.int s3), some (.int (ys5_0 + (0 : Int32))), some (.int ys5_1)]) rfl (Nat.le_of_ble_eq_true rfl) rfl ?_
              refine r_inc (v := 1) (L' := [some (.ref a0), some (.int a1), some (.int a2), some (.int a3), some (.int s3), some (.int (ys5_0 + (0 : Int32))), some (.int (ys5_1 + (1 : Int32)))]) rfl rfl ci_1 rfl ?_
              refine r_go rfl ?_
              have q := K6 _ _ H _ _ rfl
              exact q
            · refine r_ic (v := 1) rfl ci_1 ?_
              refine r_go rfl ?_
              refine r_add rfl ?_
              refine r_is (L' := [some (.ref a0), some (.int a1), some (.int a2), some (.int a3), some (.int s3), some (.int (ys5_0 + (1 : Int32))), some (.int ys5_1)]) rfl (Nat.le_of_ble_eq_true rfl) rfl ?_
              refine r_inc (v := 1) (L' := [some (.ref a0), some (.int a1), some (.int a2), some (.int a3), some (.int s3), some (.int (ys5_0 + (1 : Int32))), some (.int (ys5_1 + (1 : Int32)))]) rfl rfl ci_1 rfl ?_
              refine r_go rfl ?_
              have q := K6 _ _ H _ _ rfl
              exact q
    · refine r_aln rfl rfl rfl ?_
      refine r_il rfl rfl ?_
      refine r_vtI (rest := []) H rfl rfl rfl (s_X7_no a0 s3) rfl rfl ⟨rfl, rfl⟩ rfl (fun t15 h16 H => ?_)
      exact r_reti H rfl rfl ⟨Nat.zero_le _, Nat.zero_le _⟩
  · refine r_if H rfl rfl (fun H => ?_) (fun H => ?_)
    · refine r_iln rfl rfl rfl ?_
      refine r_ic (v := 1) rfl ci_1 ?_
      refine r_cmp H rfl rfl (fun H => ?_) (fun H => ?_)
      · refine r_bi (v := -4) rfl cb_m4 ?_
        refine r_go rfl ?_
        have q := K4 _ _ H
        exact q
      · refine r_iln rfl rfl rfl ?_
        refine r_if H rfl rfl (fun H => ?_) (fun H => ?_)
        · refine r_iln rfl rfl rfl ?_
          refine r_bi (v := 6) rfl cb_6 ?_
          refine r_cmp H rfl rfl (fun H => ?_) (fun H => ?_)
          · refine r_bi (v := -6) rfl cb_m6 ?_
            refine r_go rfl ?_
            have q := K4 _ _ H
            exact q
          · refine r_iln rfl rfl rfl ?_
            refine r_bi (v := 99) rfl cb_99 ?_
            refine r_cmp H rfl rfl (fun H => ?_) (fun H => ?_)
            · refine r_ic (v := 0) rfl ci_0 ?_
              have q := K4 _ _ H
              exact q
            · refine r_bi (v := -6) rfl cb_m6 ?_
              refine r_go rfl ?_
              have q := K4 _ _ H
              exact q
        · refine r_bi (v := -4) rfl cb_m4 ?_
          refine r_go rfl ?_
          have q := K4 _ _ H
          exact q
    · refine r_ic (v := -1) rfl ci_m1 ?_
      refine r_go rfl ?_
      have q := K4 _ _ H
      exact q
def f_X7_worth (a0 : Nat) (a1 : Int32) (a2 : Int32) : M Int32 := bnd (cv 6 a0 (f_X7_isPerson a0 a1)) fun t1 => jn (fun k4 => if ¬ t1 = (0 : Int32) then bnd (f_X7_notWeeks a2) fun t20 => k4 t20 else k4 (-1 : Int32)) (fun (s3 : Int32) => if s3 = (0 : Int32) then bnd (cv 6 a0 (f_X7_errorBehind a0 a2)) fun t5 => bnd (cv 6 a0 (f_X7_passesAll a0 (1 : Int32) (1 : Int32))) fun _ => loopK NF (fun (s9 : Int32) k10 => bnd (gI 6 8 a0) fun t11 => if t11 ≤ s9 then bnd (cv 6 a0 (f_X7_errorBehind a0 a2)) fun t12 => bnd (cv 6 a0 (f_X7_passesAll a0 (1 : Int32) (0 : Int32))) fun _ => rt (t12 - t5) else bnd (gR 6 5 a0) fun r16 => bnd (aI r16 s9) fun t17 => bnd (sI r16 s9 (t17 &&& (((1 : Int32) <<< (a1 &&& (31 : Int32))) ^^^ (-1 : Int32)))) fun _ => k10 (s9 + (1 : Int32))) (0 : Int32) else bnd (cv 6 a0 (f_X7_lower a0 s3)) fun t18 => rt t18)
set_option maxRecDepth 20000 in
theorem s_X7_worth (a0 : Nat) (a1 : Int32) (a2 : Int32) : Sm eX7_worth [.ref a0, .int a1, .int a2] eI (f_X7_worth a0 a1 a2) := by
  intro hp vr hr H
  unfold f_X7_worth at H
  show Rn none 0 0 eX7_worth 0 [some (.ref a0), some (.int a1), some (.int a2), none, none, none] [] hp (eI vr, hr)
  refine r_aln rfl rfl rfl ?_
  refine r_iln rfl rfl rfl ?_
  refine r_vtI (rest := []) H rfl rfl rfl (s_X7_isPerson a0 a1) rfl rfl ⟨rfl, rfl⟩ rfl (fun t1 h2 H => ?_)
  refine r_jn (P := (fun (s3 : Int32) hq => Rn none 0 0 eX7_worth 8 [some (.ref a0), some (.int a1), some (.int a2), none, none, none] [.int s3] hq (eI vr, hr))) H (fun s3 hs3 H  => ?_) (fun k4 K4 H => ?_)
  · refine r_isn (L' := [some (.ref a0), some (.int a1), some (.int a2), some (.int s3), none, none]) rfl rfl (Nat.le_of_ble_eq_true rfl) rfl ?_
    refine r_iln rfl rfl rfl ?_
    refine r_if H rfl rfl (fun H => ?_) (fun H => ?_)
    · refine r_aln rfl rfl rfl ?_
      refine r_iln rfl rfl rfl ?_
      refine r_vtI (rest := []) H rfl rfl rfl (s_X7_errorBehind a0 a2) rfl rfl ⟨rfl, rfl⟩ rfl (fun t5 h6 H => ?_)
      refine r_is (L' := [some (.ref a0), some (.int a1), some (.int a2), some (.int s3), some (.int t5), none]) rfl (Nat.le_of_ble_eq_true rfl) rfl ?_
      refine r_aln rfl rfl rfl ?_
      refine r_ic (v := 1) rfl ci_1 ?_
      refine r_ic (v := 1) rfl ci_1 ?_
      refine r_vtU (rest := []) H rfl rfl rfl (s_X7_passesAll a0 (1 : Int32) (1 : Int32)) rfl rfl ⟨rfl, rfl⟩ rfl (fun t7 h8 H => ?_)
      refine r_ic (v := 0) rfl ci_0 ?_
      refine r_is (L' := [some (.ref a0), some (.int a1), some (.int a2), some (.int s3), some (.int t5), some (.int (0 : Int32))]) rfl (Nat.le_of_ble_eq_true rfl) rfl ?_
      refine (r_loop (P := (fun (s9 : Int32) hq => Rn none 0 0 eX7_worth 25 [some (.ref a0), some (.int a1), some (.int a2), some (.int s3), some (.int t5), some (.int s9)] [] hq (eI vr, hr))) ?_ NF _ _ H)
      intro k10 K10 s9 hs9 H 
      refine r_il rfl rfl ?_
      refine r_aln rfl rfl rfl ?_
      refine r_gI' H rfl kl_6_8 (fun t11 H => ?_)
      refine r_cmp H rfl rfl (fun H => ?_) (fun H => ?_)
      · refine r_aln rfl rfl rfl ?_
        refine r_iln rfl rfl rfl ?_
        refine r_vtI (rest := []) H rfl rfl rfl (s_X7_errorBehind a0 a2) rfl rfl ⟨rfl, rfl⟩ rfl (fun t12 h13 H => ?_)
        refine r_is (L' := [some (.ref a0), some (.int a1), some (.int a2), some (.int s3), some (.int t5), some (.int t12)]) rfl (Nat.le_of_ble_eq_true rfl) rfl ?_
        refine r_aln rfl rfl rfl ?_
        refine r_ic (v := 1) rfl ci_1 ?_
        refine r_ic (v := 0) rfl ci_0 ?_
        refine r_vtU (rest := []) H rfl rfl rfl (s_X7_passesAll a0 (1 : Int32) (0 : Int32)) rfl rfl ⟨rfl, rfl⟩ rfl (fun t14 h15 H => ?_)
        refine r_il rfl rfl ?_
        refine r_il rfl rfl ?_
        refine r_sub rfl ?_
        exact r_reti H rfl rfl ⟨Nat.zero_le _, Nat.zero_le _⟩
      · refine r_aln rfl rfl rfl ?_
        refine r_gR H rfl kd_6_5 (fun r16 H => ?_)
        refine r_il rfl rfl ?_
        refine r_dup2 rfl ?_
        refine r_aI' H rfl (fun t17 H => ?_)
        refine r_ic (v := 1) rfl ci_1 ?_
        refine r_iln rfl rfl rfl ?_
        refine r_shl rfl ?_
        refine r_ic (v := -1) rfl ci_m1 ?_
        refine r_xor rfl ?_
        refine r_and rfl ?_
        refine r_sI H rfl (fun H => ?_)
        refine r_inc (v := 1) (L' := [some (.ref a0), some (.int a1), some (.int a2), some (.int s3), some (.int t5), some (.int (s9 + (1 : Int32)))]) rfl rfl ci_1 rfl ?_
        refine r_go rfl ?_
        have q := K10 _ _ H
        exact q
    · refine r_aln rfl rfl rfl ?_
      refine r_iln rfl rfl rfl ?_
      refine r_vtI (rest := []) H rfl rfl rfl (s_X7_lower a0 s3) rfl rfl ⟨rfl, rfl⟩ rfl (fun t18 h19 H => ?_)
      exact r_reti H rfl rfl ⟨Nat.zero_le _, Nat.zero_le _⟩
  · refine r_if H rfl rfl (fun H => ?_) (fun H => ?_)
    · refine r_iln rfl rfl rfl ?_
      refine r_stI (rest := []) H rfl rfl (s_X7_notWeeks a2) rfl rfl ⟨rfl, rfl⟩ rfl (fun t20 h21 H => ?_)
      have q := K4 _ _ H
      exact q
    · refine r_ic (v := -1) rfl ci_m1 ?_
      refine r_go rfl ?_
      have q := K4 _ _ H
      exact q
def f_X7_newEar (a0 : Nat) (a1 : Int32) : M Int32 := bnd (f_X7_notWeeks a1) fun t1 => if t1 = (0 : Int32) then bnd (cv 6 a0 (f_X7_errorBehind a0 a1)) fun t3 => loopK NF (fun (s5 : Int32 × Int32 × Int32) k6 => if (49 : Int32) ≤ s5.2.2 then rt s5.2.1 else bnd (divM s5.2.2 (7 : Int32)) fun t10 => bnd (remM s5.2.2 (7 : Int32)) fun t11 => bnd (cv 6 a0 (f_X7_areTwo a0 t10 t11)) fun t12 => if t12 = (0 : Int32) then k6 (s5.1, s5.2.1, (s5.2.2 + (1 : Int32))) else bnd (gR 6 5 a0) fun r14 => bnd (aI r14 t10) fun t15 => bnd (f_X7_has t15 t11) fun t16 => if t16 = (0 : Int32) then bnd (gR 6 5 a0) fun r18 => bnd (aI r18 t10) fun t19 => bnd (sI r18 t10 (t19 ^^^ ((1 : Int32) <<< (t11 &&& (31 : Int32))))) fun _ => bnd (cv 6 a0 (f_X7_errorBehind a0 a1)) fun t20 => bnd (gR 6 5 a0) fun r22 => bnd (aI r22 t10) fun t23 => bnd (sI r22 t10 (t23 ^^^ ((1 : Int32) <<< (t11 &&& (31 : Int32))))) fun _ => if t20 < s5.1 then k6 (t20, (((10 : Int32) * t10) + t11), (s5.2.2 + (1 : Int32))) else k6 (s5.1, s5.2.1, (s5.2.2 + (1 : Int32))) else k6 (s5.1, s5.2.1, (s5.2.2 + (1 : Int32)))) (t3, (-9 : Int32), (0 : Int32)) else bnd (cv 6 a0 (f_X7_no a0 t1)) fun t24 => rt t24
set_option maxRecDepth 20000 in
theorem s_X7_newEar (a0 : Nat) (a1 : Int32) : Sm eX7_newEar [.ref a0, .int a1] eI (f_X7_newEar a0 a1) := by
  intro hp vr hr H
  unfold f_X7_newEar at H
  show Rn none 0 0 eX7_newEar 0 [some (.ref a0), some (.int a1), none, none, none, none, none, none, none] [] hp (eI vr, hr)
  refine r_iln rfl rfl rfl ?_
  refine r_stI (rest := []) H rfl rfl (s_X7_notWeeks a1) rfl rfl ⟨rfl, rfl⟩ rfl (fun t1 h2 H => ?_)
  refine r_isn (L' := [some (.ref a0), some (.int a1), some (.int t1), none, none, none, none, none, none]) rfl rfl (Nat.le_of_ble_eq_true rfl) rfl ?_
  refine r_iln rfl rfl rfl ?_
  refine r_if H rfl rfl (fun H => ?_) (fun H => ?_)
  · refine r_aln rfl rfl rfl ?_
    refine r_iln rfl rfl rfl ?_
    refine r_vtI (rest := []) H rfl rfl rfl (s_X7_errorBehind a0 a1) rfl rfl ⟨rfl, rfl⟩ rfl (fun t3 h4 H => ?_)
    refine r_isn (L' := [some (.ref a0), some (.int a1), some (.int t1), some (.int t3), none, none, none, none, none]) rfl rfl (Nat.le_of_ble_eq_true rfl) rfl ?_
    refine r_bi (v := -9) rfl cb_m9 ?_
    refine r_is (L' := [some (.ref a0), some (.int a1), some (.int t1), some (.int t3), some (.int (-9 : Int32)), none, none, none, none]) rfl (Nat.le_of_ble_eq_true rfl) rfl ?_
    refine r_ic (v := 0) rfl ci_0 ?_
    refine r_is (L' := [some (.ref a0), some (.int a1), some (.int t1), some (.int t3), some (.int (-9 : Int32)), some (.int (0 : Int32)), none, none, none]) rfl (Nat.le_of_ble_eq_true rfl) rfl ?_
    refine (r_loop (P := (fun (s5 : Int32 × Int32 × Int32) hq => ∀ ys5_0 : Int32, ∀ ys5_1 : Int32, ∀ ys5_2 : Int32, s5 = (ys5_0, ys5_1, ys5_2) → ∀ x7 : Option Value, ∀ x8 : Option Value, ∀ x9 : Option Value, Rn none 0 0 eX7_newEar 17 [some (.ref a0), some (.int a1), some (.int t1), some (.int ys5_0), some (.int ys5_1), some (.int ys5_2), x7, x8, x9] [] hq (eI vr, hr))) ?_ NF _ _ H) _ _ _ rfl _ _ _
    intro k6 K6 s5 hs5 H ys5_0 ys5_1 ys5_2 es5 x7 x8 x9
    subst es5
    refine r_il rfl rfl ?_
    refine r_bi (v := 49) rfl cb_49 ?_
    refine r_cmp H rfl rfl (fun H => ?_) (fun H => ?_)
    · refine r_il rfl rfl ?_
      exact r_reti H rfl rfl ⟨Nat.zero_le _, Nat.zero_le _⟩
    · refine r_il rfl rfl ?_
      refine r_bi (v := 7) rfl cb_7 ?_
      refine r_div H rfl (fun H => ?_)
      refine r_is (L' := [some (.ref a0), some (.int a1), some (.int t1), some (.int ys5_0), some (.int ys5_1), some (.int ys5_2), some (.int (ys5_2 / (7 : Int32))), x8, x9]) rfl (Nat.le_of_ble_eq_true rfl) rfl ?_
      refine r_il rfl rfl ?_
      refine r_bi (v := 7) rfl cb_7 ?_
      refine r_rem H rfl (fun H => ?_)
      refine r_is (L' := [some (.ref a0), some (.int a1), some (.int t1), some (.int ys5_0), some (.int ys5_1), some (.int ys5_2), some (.int (ys5_2 / (7 : Int32))), some (.int (ys5_2 - ys5_2 / (7 : Int32) * (7 : Int32))), x9]) rfl (Nat.le_of_ble_eq_true rfl) rfl ?_
      refine r_aln rfl rfl rfl ?_
      refine r_il rfl rfl ?_
      refine r_il rfl rfl ?_
      refine r_vtI (rest := []) H rfl rfl rfl (s_X7_areTwo a0 (ys5_2 / (7 : Int32)) (ys5_2 - ys5_2 / (7 : Int32) * (7 : Int32))) rfl rfl ⟨rfl, rfl⟩ rfl (fun t12 h13 H => ?_)
      refine r_if H rfl rfl (fun H => ?_) (fun H => ?_)
      · refine r_inc (v := 1) (L' := [some (.ref a0), some (.int a1), some (.int t1), some (.int ys5_0), some (.int ys5_1), some (.int (ys5_2 + (1 : Int32))), some (.int (ys5_2 / (7 : Int32))), some (.int (ys5_2 - ys5_2 / (7 : Int32) * (7 : Int32))), x9]) rfl rfl ci_1 rfl ?_
        refine r_go rfl ?_
        have q := K6 _ _ H _ _ _ rfl
        exact q _ _ _
      · refine r_aln rfl rfl rfl ?_
        refine r_gR H rfl kd_6_5 (fun r14 H => ?_)
        refine r_il rfl rfl ?_
        refine r_aI' H rfl (fun t15 H => ?_)
        refine r_il rfl rfl ?_
        refine r_stI (rest := []) H rfl rfl (s_X7_has t15 (ys5_2 - ys5_2 / (7 : Int32) * (7 : Int32))) rfl rfl ⟨rfl, rfl⟩ rfl (fun t16 h17 H => ?_)
        refine r_if H rfl rfl (fun H => ?_) (fun H => ?_)
        · refine r_aln rfl rfl rfl ?_
          refine r_gR H rfl kd_6_5 (fun r18 H => ?_)
          refine r_il rfl rfl ?_
          refine r_dup2 rfl ?_
          refine r_aI' H rfl (fun t19 H => ?_)
          refine r_ic (v := 1) rfl ci_1 ?_
          refine r_il rfl rfl ?_
          refine r_shl rfl ?_
          refine r_xor rfl ?_
          refine r_sI H rfl (fun H => ?_)
          refine r_aln rfl rfl rfl ?_
          refine r_iln rfl rfl rfl ?_
          refine r_vtI (rest := []) H rfl rfl rfl (s_X7_errorBehind a0 a1) rfl rfl ⟨rfl, rfl⟩ rfl (fun t20 h21 H => ?_)
          refine r_is (L' := [some (.ref a0), some (.int a1), some (.int t1), some (.int ys5_0), some (.int ys5_1), some (.int ys5_2), some (.int (ys5_2 / (7 : Int32))), some (.int (ys5_2 - ys5_2 / (7 : Int32) * (7 : Int32))), some (.int t20)]) rfl (Nat.le_of_ble_eq_true rfl) rfl ?_
          refine r_aln rfl rfl rfl ?_
          refine r_gR H rfl kd_6_5 (fun r22 H => ?_)
          refine r_il rfl rfl ?_
          refine r_dup2 rfl ?_
          refine r_aI' H rfl (fun t23 H => ?_)
          refine r_ic (v := 1) rfl ci_1 ?_
          refine r_il rfl rfl ?_
          refine r_shl rfl ?_
          refine r_xor rfl ?_
          refine r_sI H rfl (fun H => ?_)
          refine r_il rfl rfl ?_
          refine r_iln rfl rfl rfl ?_
          refine r_cmp H rfl rfl (fun H => ?_) (fun H => ?_)
          · refine r_bi (v := 10) rfl cb_10 ?_
            refine r_il rfl rfl ?_
            refine r_mul rfl ?_
            refine r_il rfl rfl ?_
            refine r_add rfl ?_
            refine r_is (L' := [some (.ref a0), some (.int a1), some (.int t1), some (.int ys5_0), some (.int (((10 : Int32) * (ys5_2 / (7 : Int32))) + (ys5_2 - ys5_2 / (7 : Int32) * (7 : Int32)))), some (.int ys5_2), some (.int (ys5_2 / (7 : Int32))), some (.int (ys5_2 - ys5_2 / (7 : Int32) * (7 : Int32))), some (.int t20)]) rfl (Nat.le_of_ble_eq_true rfl) rfl ?_
            refine r_il rfl rfl ?_
            refine r_isn (L' := [some (.ref a0), some (.int a1), some (.int t1), some (.int t20), some (.int (((10 : Int32) * (ys5_2 / (7 : Int32))) + (ys5_2 - ys5_2 / (7 : Int32) * (7 : Int32)))), some (.int ys5_2), some (.int (ys5_2 / (7 : Int32))), some (.int (ys5_2 - ys5_2 / (7 : Int32) * (7 : Int32))), some (.int t20)]) rfl rfl (Nat.le_of_ble_eq_true rfl) rfl ?_
            refine r_inc (v := 1) (L' := [some (.ref a0), some (.int a1), some (.int t1), some (.int t20), some (.int (((10 : Int32) * (ys5_2 / (7 : Int32))) + (ys5_2 - ys5_2 / (7 : Int32) * (7 : Int32)))), some (.int (ys5_2 + (1 : Int32))), some (.int (ys5_2 / (7 : Int32))), some (.int (ys5_2 - ys5_2 / (7 : Int32) * (7 : Int32))), some (.int t20)]) rfl rfl ci_1 rfl ?_
            refine r_go rfl ?_
            have q := K6 _ _ H _ _ _ rfl
            exact q _ _ _
          · refine r_go rfl ?_
            refine r_inc (v := 1) (L' := [some (.ref a0), some (.int a1), some (.int t1), some (.int ys5_0), some (.int ys5_1), some (.int (ys5_2 + (1 : Int32))), some (.int (ys5_2 / (7 : Int32))), some (.int (ys5_2 - ys5_2 / (7 : Int32) * (7 : Int32))), some (.int t20)]) rfl rfl ci_1 rfl ?_
            refine r_go rfl ?_
            have q := K6 _ _ H _ _ _ rfl
            exact q _ _ _
        · refine r_go rfl ?_
          refine r_inc (v := 1) (L' := [some (.ref a0), some (.int a1), some (.int t1), some (.int ys5_0), some (.int ys5_1), some (.int (ys5_2 + (1 : Int32))), some (.int (ys5_2 / (7 : Int32))), some (.int (ys5_2 - ys5_2 / (7 : Int32) * (7 : Int32))), x9]) rfl rfl ci_1 rfl ?_
          refine r_go rfl ?_
          have q := K6 _ _ H _ _ _ rfl
          exact q _ _ _
  · refine r_aln rfl rfl rfl ?_
    refine r_iln rfl rfl rfl ?_
    refine r_vtI (rest := []) H rfl rfl rfl (s_X7_no a0 t1) rfl rfl ⟨rfl, rfl⟩ rfl (fun t24 h25 H => ?_)
    exact r_reti H rfl rfl ⟨Nat.zero_le _, Nat.zero_le _⟩
def f_X7_sisters (a0 : Nat) (a1 : Int32) (a2 : Int32) (a3 : Int32) (a4 : Int32) : M Int32 := bnd (cv 6 a0 (f_X7_areTwo a0 a1 a2)) fun t1 => jn (fun k4 => if ¬ t1 = (0 : Int32) then bnd (f_X7_notWeeks a3) fun t41 => k4 t41 else k4 (-1 : Int32)) (fun (s3 : Int32) => jn (fun k6 => if ¬ s3 = (0 : Int32) then k6 s3 else bnd (f_X7_isIn a4 (0 : Int32) (1 : Int32)) fun t39 => if ¬ t39 = (0 : Int32) then k6 s3 else k6 (-2 : Int32)) (fun (s5 : Int32) => if s5 = (0 : Int32) then bnd (gR 6 5 a0) fun r7 => bnd (aI r7 a1) fun t8 => bnd (gR 6 5 a0) fun r9 => bnd (aI r9 a2) fun t10 => bnd (gR 6 5 a0) fun r11 => bnd (sI r11 a1 ((1 : Int32) <<< (a2 &&& (31 : Int32)))) fun _ => bnd (gR 6 5 a0) fun r12 => bnd (sI r12 a2 ((1 : Int32) <<< (a1 &&& (31 : Int32)))) fun _ => bnd (cv 6 a0 (f_X7_findWeeks a0 a3)) fun _ => bnd (gR 6 5 a0) fun r15 => bnd (sI r15 a1 t8) fun _ => bnd (gR 6 5 a0) fun r16 => bnd (sI r16 a2 t10) fun _ => loopK NF (fun (s17 : Int32 × Int32) k18 => if a3 < s17.2 then if ¬ a4 = (0 : Int32) then rt s17.1 else bnd (cv 6 a0 (f_X7_beliefAt a0 a3 a1)) fun t19 => bnd (cv 6 a0 (f_X7_beliefAt a0 a3 a2)) fun t21 => bnd (f_X7_far t19 t21) fun t23 => rt t23 else bnd (cv 6 a0 (f_X7_beliefAt a0 s17.2 a1)) fun t25 => bnd (cv 6 a0 (f_X7_beliefAt a0 s17.2 a2)) fun t27 => bnd (f_X7_far t25 t27) fun t29 => if t29 ≤ s17.1 then k18 (s17.1, (s17.2 + (1 : Int32))) else bnd (cv 6 a0 (f_X7_beliefAt a0 s17.2 a1)) fun t31 => bnd (cv 6 a0 (f_X7_beliefAt a0 s17.2 a2)) fun t33 => bnd (f_X7_far t31 t33) fun t35 => k18 (t35, (s17.2 + (1 : Int32)))) ((0 : Int32), (0 : Int32)) else bnd (cv 6 a0 (f_X7_no a0 s5)) fun t37 => rt t37))
set_option maxRecDepth 20000 in
theorem s_X7_sisters (a0 : Nat) (a1 : Int32) (a2 : Int32) (a3 : Int32) (a4 : Int32) : Sm eX7_sisters [.ref a0, .int a1, .int a2, .int a3, .int a4] eI (f_X7_sisters a0 a1 a2 a3 a4) := by
  intro hp vr hr H
  unfold f_X7_sisters at H
  show Rn none 0 0 eX7_sisters 0 [some (.ref a0), some (.int a1), some (.int a2), some (.int a3), some (.int a4), none, none, none, none, none] [] hp (eI vr, hr)
  refine r_aln rfl rfl rfl ?_
  refine r_iln rfl rfl rfl ?_
  refine r_iln rfl rfl rfl ?_
  refine r_vtI (rest := []) H rfl rfl rfl (s_X7_areTwo a0 a1 a2) rfl rfl ⟨rfl, rfl⟩ rfl (fun t1 h2 H => ?_)
  refine r_jn (P := (fun (s3 : Int32) hq => Rn none 0 0 eX7_sisters 9 [some (.ref a0), some (.int a1), some (.int a2), some (.int a3), some (.int a4), none, none, none, none, none] [.int s3] hq (eI vr, hr))) H (fun s3 hs3 H  => ?_) (fun k4 K4 H => ?_)
  · refine r_is (L' := [some (.ref a0), some (.int a1), some (.int a2), some (.int a3), some (.int a4), some (.int s3), none, none, none, none]) rfl (Nat.le_of_ble_eq_true rfl) rfl ?_
    refine r_il rfl rfl ?_
    refine r_jn (P := (fun (s5 : Int32) hq => Rn none 0 0 eX7_sisters 19 [some (.ref a0), some (.int a1), some (.int a2), some (.int a3), some (.int a4), some (.int s5), none, none, none, none] [] hq (eI vr, hr))) H (fun s5 hs5 H  => ?_) (fun k6 K6 H => ?_)
    · refine r_il rfl rfl ?_
      refine r_if H rfl rfl (fun H => ?_) (fun H => ?_)
      · refine r_aln rfl rfl rfl ?_
        refine r_gR H rfl kd_6_5 (fun r7 H => ?_)
        refine r_iln rfl rfl rfl ?_
        refine r_aI' H rfl (fun t8 H => ?_)
        refine r_is (L' := [some (.ref a0), some (.int a1), some (.int a2), some (.int a3), some (.int a4), some (.int s5), some (.int t8), none, none, none]) rfl (Nat.le_of_ble_eq_true rfl) rfl ?_
        refine r_aln rfl rfl rfl ?_
        refine r_gR H rfl kd_6_5 (fun r9 H => ?_)
        refine r_iln rfl rfl rfl ?_
        refine r_aI' H rfl (fun t10 H => ?_)
        refine r_is (L' := [some (.ref a0), some (.int a1), some (.int a2), some (.int a3), some (.int a4), some (.int s5), some (.int t8), some (.int t10), none, none]) rfl (Nat.le_of_ble_eq_true rfl) rfl ?_
        refine r_aln rfl rfl rfl ?_
        refine r_gR H rfl kd_6_5 (fun r11 H => ?_)
        refine r_iln rfl rfl rfl ?_
        refine r_ic (v := 1) rfl ci_1 ?_
        refine r_iln rfl rfl rfl ?_
        refine r_shl rfl ?_
        refine r_sI H rfl (fun H => ?_)
        refine r_aln rfl rfl rfl ?_
        refine r_gR H rfl kd_6_5 (fun r12 H => ?_)
        refine r_iln rfl rfl rfl ?_
        refine r_ic (v := 1) rfl ci_1 ?_
        refine r_iln rfl rfl rfl ?_
        refine r_shl rfl ?_
        refine r_sI H rfl (fun H => ?_)
        refine r_aln rfl rfl rfl ?_
        refine r_iln rfl rfl rfl ?_
        refine r_vtU (rest := []) H rfl rfl rfl (s_X7_findWeeks a0 a3) rfl rfl ⟨rfl, rfl⟩ rfl (fun t13 h14 H => ?_)
        refine r_aln rfl rfl rfl ?_
        refine r_gR H rfl kd_6_5 (fun r15 H => ?_)
        refine r_iln rfl rfl rfl ?_
        refine r_il rfl rfl ?_
        refine r_sI H rfl (fun H => ?_)
        refine r_aln rfl rfl rfl ?_
        refine r_gR H rfl kd_6_5 (fun r16 H => ?_)
        refine r_iln rfl rfl rfl ?_
        refine r_il rfl rfl ?_
        refine r_sI H rfl (fun H => ?_)
        refine r_ic (v := 0) rfl ci_0 ?_
        refine r_is (L' := [some (.ref a0), some (.int a1), some (.int a2), some (.int a3), some (.int a4), some (.int s5), some (.int t8), some (.int t10), some (.int (0 : Int32)), none]) rfl (Nat.le_of_ble_eq_true rfl) rfl ?_
        refine r_ic (v := 0) rfl ci_0 ?_
        refine r_is (L' := [some (.ref a0), some (.int a1), some (.int a2), some (.int a3), some (.int a4), some (.int s5), some (.int t8), some (.int t10), some (.int (0 : Int32)), some (.int (0 : Int32))]) rfl (Nat.le_of_ble_eq_true rfl) rfl ?_
        refine (r_loop (P := (fun (s17 : Int32 × Int32) hq => ∀ ys17_0 : Int32, ∀ ys17_1 : Int32, s17 = (ys17_0, ys17_1) → Rn none 0 0 eX7_sisters 66 [some (.ref a0), some (.int a1), some (.int a2), some (.int a3), some (.int a4), some (.int s5), some (.int t8), some (.int t10), some (.int ys17_0), some (.int ys17_1)] [] hq (eI vr, hr))) ?_ NF _ _ H) _ _ rfl
        intro k18 K18 s17 hs17 H ys17_0 ys17_1 es17 
        subst es17
        refine r_il rfl rfl ?_
        refine r_iln rfl rfl rfl ?_
        refine r_cmp H rfl rfl (fun H => ?_) (fun H => ?_)
        · refine r_il rfl rfl ?_
          refine r_if H rfl rfl (fun H => ?_) (fun H => ?_)
          · refine r_il rfl rfl ?_
            exact r_reti H rfl rfl ⟨Nat.zero_le _, Nat.zero_le _⟩
          · refine r_aln rfl rfl rfl ?_
            refine r_iln rfl rfl rfl ?_
            refine r_iln rfl rfl rfl ?_
            refine r_vtI (rest := []) H rfl rfl rfl (s_X7_beliefAt a0 a3 a1) rfl rfl ⟨rfl, rfl⟩ rfl (fun t19 h20 H => ?_)
            refine r_aln rfl rfl rfl ?_
            refine r_iln rfl rfl rfl ?_
            refine r_iln rfl rfl rfl ?_
            refine r_vtI (rest := [.int t19]) H rfl rfl rfl (s_X7_beliefAt a0 a3 a2) rfl rfl ⟨rfl, rfl⟩ rfl (fun t21 h22 H => ?_)
            refine r_stI (rest := []) H rfl rfl (s_X7_far t19 t21) rfl rfl ⟨rfl, rfl⟩ rfl (fun t23 h24 H => ?_)
            refine r_go rfl ?_
            exact r_reti H rfl rfl ⟨Nat.zero_le _, Nat.zero_le _⟩
        · refine r_aln rfl rfl rfl ?_
          refine r_il rfl rfl ?_
          refine r_iln rfl rfl rfl ?_
          refine r_vtI (rest := []) H rfl rfl rfl (s_X7_beliefAt a0 ys17_1 a1) rfl rfl ⟨rfl, rfl⟩ rfl (fun t25 h26 H => ?_)
          refine r_aln rfl rfl rfl ?_
          refine r_il rfl rfl ?_
          refine r_iln rfl rfl rfl ?_
          refine r_vtI (rest := [.int t25]) H rfl rfl rfl (s_X7_beliefAt a0 ys17_1 a2) rfl rfl ⟨rfl, rfl⟩ rfl (fun t27 h28 H => ?_)
          refine r_stI (rest := []) H rfl rfl (s_X7_far t25 t27) rfl rfl ⟨rfl, rfl⟩ rfl (fun t29 h30 H => ?_)
          refine r_il rfl rfl ?_
          refine r_cmp H rfl rfl (fun H => ?_) (fun H => ?_)
          · refine r_il rfl rfl ?_
            refine r_is (L' := [some (.ref a0), some (.int a1), some (.int a2), some (.int a3), some (.int a4), some (.int s5), some (.int t8), some (.int t10), some (.int ys17_0), some (.int ys17_1)]) rfl (Nat.le_of_ble_eq_true rfl) rfl ?_
            refine r_inc (v := 1) (L' := [some (.ref a0), some (.int a1), some (.int a2), some (.int a3), some (.int a4), some (.int s5), some (.int t8), some (.int t10), some (.int ys17_0), some (.int (ys17_1 + (1 : Int32)))]) rfl rfl ci_1 rfl ?_
            refine r_go rfl ?_
            have q := K18 _ _ H _ _ rfl
            exact q
          · refine r_aln rfl rfl rfl ?_
            refine r_il rfl rfl ?_
            refine r_iln rfl rfl rfl ?_
            refine r_vtI (rest := []) H rfl rfl rfl (s_X7_beliefAt a0 ys17_1 a1) rfl rfl ⟨rfl, rfl⟩ rfl (fun t31 h32 H => ?_)
            refine r_aln rfl rfl rfl ?_
            refine r_il rfl rfl ?_
            refine r_iln rfl rfl rfl ?_
            refine r_vtI (rest := [.int t31]) H rfl rfl rfl (s_X7_beliefAt a0 ys17_1 a2) rfl rfl ⟨rfl, rfl⟩ rfl (fun t33 h34 H => ?_)
            refine r_stI (rest := []) H rfl rfl (s_X7_far t31 t33) rfl rfl ⟨rfl, rfl⟩ rfl (fun t35 h36 H => ?_)
            refine r_go rfl ?_
            refine r_is (L' := [some (.ref a0), some (.int a1), some (.int a2), some (.int a3), some (.int a4), some (.int s5), some (.int t8), some (.int t10), some (.int t35), some (.int ys17_1)]) rfl (Nat.le_of_ble_eq_true rfl) rfl ?_
            refine r_inc (v := 1) (L' := [some (.ref a0), some (.int a1), some (.int a2), some (.int a3), some (.int a4), some (.int s5), some (.int t8), some (.int t10), some (.int t35), some (.int (ys17_1 + (1 : Int32)))]) rfl rfl ci_1 rfl ?_
            refine r_go rfl ?_
            have q := K18 _ _ H _ _ rfl
            exact q
      · refine r_aln rfl rfl rfl ?_
        refine r_il rfl rfl ?_
        refine r_vtI (rest := []) H rfl rfl rfl (s_X7_no a0 s5) rfl rfl ⟨rfl, rfl⟩ rfl (fun t37 h38 H => ?_)
        exact r_reti H rfl rfl ⟨Nat.zero_le _, Nat.zero_le _⟩
    · refine r_if H rfl rfl (fun H => ?_) (fun H => ?_)
      · have q := K6 _ _ H
        exact q
      · refine r_il rfl rfl ?_
        refine r_ic (v := 0) rfl ci_0 ?_
        refine r_ic (v := 1) rfl ci_1 ?_
        refine r_stI (rest := []) H rfl rfl (s_X7_isIn a4 (0 : Int32) (1 : Int32)) rfl rfl ⟨rfl, rfl⟩ rfl (fun t39 h40 H => ?_)
        refine r_if H rfl rfl (fun H => ?_) (fun H => ?_)
        · have q := K6 _ _ H
          exact q
        · refine r_bi (v := -2) rfl cb_m2 ?_
          refine r_is (L' := [some (.ref a0), some (.int a1), some (.int a2), some (.int a3), some (.int a4), some (.int (-2 : Int32)), none, none, none, none]) rfl (Nat.le_of_ble_eq_true rfl) rfl ?_
          have q := K6 _ _ H
          exact q
  · refine r_if H rfl rfl (fun H => ?_) (fun H => ?_)
    · refine r_iln rfl rfl rfl ?_
      refine r_stI (rest := []) H rfl rfl (s_X7_notWeeks a3) rfl rfl ⟨rfl, rfl⟩ rfl (fun t41 h42 H => ?_)
      have q := K4 _ _ H
      exact q
    · refine r_ic (v := -1) rfl ci_m1 ?_
      refine r_go rfl ?_
      have q := K4 _ _ H
      exact q
def f_X7_believesWith (a0 : Nat) (a1 : Int32) (a2 : Int32) : M Int32 := bnd (gR 6 3 a0) fun r1 => bnd (aI r1 a1) fun t2 => bnd (gR 6 3 a0) fun r3 => bnd (sI r3 a1 a2) fun _ => bnd (gR 6 5 a0) fun r4 => bnd (aI r4 a1) fun t5 => bnd (cv 6 a0 (f_X7_meanOf a0 a1 t5)) fun t6 => bnd (gR 6 3 a0) fun r8 => bnd (sI r8 a1 t2) fun _ => rt t6
set_option maxRecDepth 20000 in
theorem s_X7_believesWith (a0 : Nat) (a1 : Int32) (a2 : Int32) : Sm eX7_believesWith [.ref a0, .int a1, .int a2] eI (f_X7_believesWith a0 a1 a2) := by
  intro hp vr hr H
  unfold f_X7_believesWith at H
  show Rn none 0 0 eX7_believesWith 0 [some (.ref a0), some (.int a1), some (.int a2), none, none] [] hp (eI vr, hr)
  refine r_aln rfl rfl rfl ?_
  refine r_gR H rfl kd_6_3 (fun r1 H => ?_)
  refine r_iln rfl rfl rfl ?_
  refine r_aI' H rfl (fun t2 H => ?_)
  refine r_isn (L' := [some (.ref a0), some (.int a1), some (.int a2), some (.int t2), none]) rfl rfl (Nat.le_of_ble_eq_true rfl) rfl ?_
  refine r_aln rfl rfl rfl ?_
  refine r_gR H rfl kd_6_3 (fun r3 H => ?_)
  refine r_iln rfl rfl rfl ?_
  refine r_iln rfl rfl rfl ?_
  refine r_sI H rfl (fun H => ?_)
  refine r_aln rfl rfl rfl ?_
  refine r_iln rfl rfl rfl ?_
  refine r_aln rfl rfl rfl ?_
  refine r_gR H rfl kd_6_5 (fun r4 H => ?_)
  refine r_iln rfl rfl rfl ?_
  refine r_aI' H rfl (fun t5 H => ?_)
  refine r_vtI (rest := []) H rfl rfl rfl (s_X7_meanOf a0 a1 t5) rfl rfl ⟨rfl, rfl⟩ rfl (fun t6 h7 H => ?_)
  refine r_is (L' := [some (.ref a0), some (.int a1), some (.int a2), some (.int t2), some (.int t6)]) rfl (Nat.le_of_ble_eq_true rfl) rfl ?_
  refine r_aln rfl rfl rfl ?_
  refine r_gR H rfl kd_6_3 (fun r8 H => ?_)
  refine r_iln rfl rfl rfl ?_
  refine r_iln rfl rfl rfl ?_
  refine r_sI H rfl (fun H => ?_)
  refine r_il rfl rfl ?_
  exact r_reti H rfl rfl ⟨Nat.zero_le _, Nat.zero_le _⟩
def f_X7_cheat (a0 : Nat) (a1 : Int32) (a2 : Int32) (a3 : Int32) : M Int32 := bnd (cv 6 a0 (f_X7_isPerson a0 a1)) fun t1 => jn (fun k4 => if ¬ t1 = (0 : Int32) then bnd (f_X7_bound a2 (0 : Int32) (99 : Int32)) fun t17 => k4 t17 else k4 (-1 : Int32)) (fun (s3 : Int32) => jn (fun k6 => if ¬ s3 = (0 : Int32) then k6 s3 else bnd (f_X7_isIn a3 (0 : Int32) (1 : Int32)) fun t13 => if ¬ t13 = (0 : Int32) then bnd (gR 6 5 a0) fun r15 => bnd (aI r15 a1) fun t16 => if ¬ t16 = (0 : Int32) then k6 (0 : Int32) else k6 (-3 : Int32) else k6 (-2 : Int32)) (fun (s5 : Int32) => if s5 = (0 : Int32) then loopK NF (fun (s7 : Int32 × Int32 × Int32) k8 => if s7.2.2 < (0 : Int32) then if ¬ a3 = (0 : Int32) then rt s7.2.1 else rt s7.1 else bnd (cv 6 a0 (f_X7_believesWith a0 a1 s7.2.2)) fun t9 => if t9 = a2 then k8 ((s7.1 + (1 : Int32)), s7.2.2, (s7.2.2 + (-1 : Int32))) else k8 (s7.1, s7.2.1, (s7.2.2 + (-1 : Int32)))) ((0 : Int32), (-9 : Int32), (99 : Int32)) else bnd (cv 6 a0 (f_X7_no a0 s5)) fun t11 => rt t11))
set_option maxRecDepth 20000 in
theorem s_X7_cheat (a0 : Nat) (a1 : Int32) (a2 : Int32) (a3 : Int32) : Sm eX7_cheat [.ref a0, .int a1, .int a2, .int a3] eI (f_X7_cheat a0 a1 a2 a3) := by
  intro hp vr hr H
  unfold f_X7_cheat at H
  show Rn none 0 0 eX7_cheat 0 [some (.ref a0), some (.int a1), some (.int a2), some (.int a3), none, none, none, none] [] hp (eI vr, hr)
  refine r_aln rfl rfl rfl ?_
  refine r_iln rfl rfl rfl ?_
  refine r_vtI (rest := []) H rfl rfl rfl (s_X7_isPerson a0 a1) rfl rfl ⟨rfl, rfl⟩ rfl (fun t1 h2 H => ?_)
  refine r_jn (P := (fun (s3 : Int32) hq => Rn none 0 0 eX7_cheat 10 [some (.ref a0), some (.int a1), some (.int a2), some (.int a3), none, none, none, none] [.int s3] hq (eI vr, hr))) H (fun s3 hs3 H  => ?_) (fun k4 K4 H => ?_)
  · refine r_is (L' := [some (.ref a0), some (.int a1), some (.int a2), some (.int a3), some (.int s3), none, none, none]) rfl (Nat.le_of_ble_eq_true rfl) rfl ?_
    refine r_il rfl rfl ?_
    refine r_jn (P := (fun (s5 : Int32) hq => Rn none 0 0 eX7_cheat 29 [some (.ref a0), some (.int a1), some (.int a2), some (.int a3), some (.int s5), none, none, none] [] hq (eI vr, hr))) H (fun s5 hs5 H  => ?_) (fun k6 K6 H => ?_)
    · refine r_il rfl rfl ?_
      refine r_if H rfl rfl (fun H => ?_) (fun H => ?_)
      · refine r_ic (v := 0) rfl ci_0 ?_
        refine r_is (L' := [some (.ref a0), some (.int a1), some (.int a2), some (.int a3), some (.int s5), some (.int (0 : Int32)), none, none]) rfl (Nat.le_of_ble_eq_true rfl) rfl ?_
        refine r_bi (v := -9) rfl cb_m9 ?_
        refine r_is (L' := [some (.ref a0), some (.int a1), some (.int a2), some (.int a3), some (.int s5), some (.int (0 : Int32)), some (.int (-9 : Int32)), none]) rfl (Nat.le_of_ble_eq_true rfl) rfl ?_
        refine r_bi (v := 99) rfl cb_99 ?_
        refine r_is (L' := [some (.ref a0), some (.int a1), some (.int a2), some (.int a3), some (.int s5), some (.int (0 : Int32)), some (.int (-9 : Int32)), some (.int (99 : Int32))]) rfl (Nat.le_of_ble_eq_true rfl) rfl ?_
        refine (r_loop (P := (fun (s7 : Int32 × Int32 × Int32) hq => ∀ ys7_0 : Int32, ∀ ys7_1 : Int32, ∀ ys7_2 : Int32, s7 = (ys7_0, ys7_1, ys7_2) → Rn none 0 0 eX7_cheat 41 [some (.ref a0), some (.int a1), some (.int a2), some (.int a3), some (.int s5), some (.int ys7_0), some (.int ys7_1), some (.int ys7_2)] [] hq (eI vr, hr))) ?_ NF _ _ H) _ _ _ rfl
        intro k8 K8 s7 hs7 H ys7_0 ys7_1 ys7_2 es7 
        subst es7
        refine r_il rfl rfl ?_
        refine r_if H rfl rfl (fun H => ?_) (fun H => ?_)
        · refine r_iln rfl rfl rfl ?_
          refine r_if H rfl rfl (fun H => ?_) (fun H => ?_)
          · refine r_il rfl rfl ?_
            exact r_reti H rfl rfl ⟨Nat.zero_le _, Nat.zero_le _⟩
          · refine r_il rfl rfl ?_
            refine r_go rfl ?_
            exact r_reti H rfl rfl ⟨Nat.zero_le _, Nat.zero_le _⟩
        · refine r_aln rfl rfl rfl ?_
          refine r_iln rfl rfl rfl ?_
          refine r_il rfl rfl ?_
          refine r_vtI (rest := []) H rfl rfl rfl (s_X7_believesWith a0 a1 ys7_2) rfl rfl ⟨rfl, rfl⟩ rfl (fun t9 h10 H => ?_)
          refine r_iln rfl rfl rfl ?_
          refine r_cmp H rfl rfl (fun H => ?_) (fun H => ?_)
          · refine r_inc (v := 1) (L' := [some (.ref a0), some (.int a1), some (.int a2), some (.int a3), some (.int s5), some (.int (ys7_0 + (1 : Int32))), some (.int ys7_1), some (.int ys7_2)]) rfl rfl ci_1 rfl ?_
            refine r_il rfl rfl ?_
            refine r_is (L' := [some (.ref a0), some (.int a1), some (.int a2), some (.int a3), some (.int s5), some (.int (ys7_0 + (1 : Int32))), some (.int ys7_2), some (.int ys7_2)]) rfl (Nat.le_of_ble_eq_true rfl) rfl ?_
            refine r_inc (v := -1) (L' := [some (.ref a0), some (.int a1), some (.int a2), some (.int a3), some (.int s5), some (.int (ys7_0 + (1 : Int32))), some (.int ys7_2), some (.int (ys7_2 + (-1 : Int32)))]) rfl rfl ci_m1 rfl ?_
            refine r_go rfl ?_
            have q := K8 _ _ H _ _ _ rfl
            exact q
          · refine r_go rfl ?_
            refine r_inc (v := -1) (L' := [some (.ref a0), some (.int a1), some (.int a2), some (.int a3), some (.int s5), some (.int ys7_0), some (.int ys7_1), some (.int (ys7_2 + (-1 : Int32)))]) rfl rfl ci_m1 rfl ?_
            refine r_go rfl ?_
            have q := K8 _ _ H _ _ _ rfl
            exact q
      · refine r_aln rfl rfl rfl ?_
        refine r_il rfl rfl ?_
        refine r_vtI (rest := []) H rfl rfl rfl (s_X7_no a0 s5) rfl rfl ⟨rfl, rfl⟩ rfl (fun t11 h12 H => ?_)
        exact r_reti H rfl rfl ⟨Nat.zero_le _, Nat.zero_le _⟩
    · refine r_if H rfl rfl (fun H => ?_) (fun H => ?_)
      · have q := K6 _ _ H
        exact q
      · refine r_iln rfl rfl rfl ?_
        refine r_ic (v := 0) rfl ci_0 ?_
        refine r_ic (v := 1) rfl ci_1 ?_
        refine r_stI (rest := []) H rfl rfl (s_X7_isIn a3 (0 : Int32) (1 : Int32)) rfl rfl ⟨rfl, rfl⟩ rfl (fun t13 h14 H => ?_)
        refine r_if H rfl rfl (fun H => ?_) (fun H => ?_)
        · refine r_aln rfl rfl rfl ?_
          refine r_gR H rfl kd_6_5 (fun r15 H => ?_)
          refine r_iln rfl rfl rfl ?_
          refine r_aI' H rfl (fun t16 H => ?_)
          refine r_if H rfl rfl (fun H => ?_) (fun H => ?_)
          · refine r_ic (v := 0) rfl ci_0 ?_
            refine r_is (L' := [some (.ref a0), some (.int a1), some (.int a2), some (.int a3), some (.int (0 : Int32)), none, none, none]) rfl (Nat.le_of_ble_eq_true rfl) rfl ?_
            have q := K6 _ _ H
            exact q
          · refine r_bi (v := -3) rfl cb_m3 ?_
            refine r_go rfl ?_
            refine r_is (L' := [some (.ref a0), some (.int a1), some (.int a2), some (.int a3), some (.int (-3 : Int32)), none, none, none]) rfl (Nat.le_of_ble_eq_true rfl) rfl ?_
            have q := K6 _ _ H
            exact q
        · refine r_bi (v := -2) rfl cb_m2 ?_
          refine r_go rfl ?_
          refine r_is (L' := [some (.ref a0), some (.int a1), some (.int a2), some (.int a3), some (.int (-2 : Int32)), none, none, none]) rfl (Nat.le_of_ble_eq_true rfl) rfl ?_
          have q := K6 _ _ H
          exact q
  · refine r_if H rfl rfl (fun H => ?_) (fun H => ?_)
    · refine r_iln rfl rfl rfl ?_
      refine r_ic (v := 0) rfl ci_0 ?_
      refine r_bi (v := 99) rfl cb_99 ?_
      refine r_stI (rest := []) H rfl rfl (s_X7_bound a2 (0 : Int32) (99 : Int32)) rfl rfl ⟨rfl, rfl⟩ rfl (fun t17 h18 H => ?_)
      have q := K4 _ _ H
      exact q
    · refine r_ic (v := -1) rfl ci_m1 ?_
      refine r_go rfl ?_
      have q := K4 _ _ H
      exact q
def f_X7_barber (a0 : Nat) (a1 : Int32) (a2 : Int32) : M Int32 := bnd (cv 6 a0 (f_X7_isPerson a0 a1)) fun t1 => jn (fun k4 => if ¬ t1 = (0 : Int32) then bnd (f_X7_bound a2 (0 : Int32) (99 : Int32)) fun t20 => k4 t20 else k4 (-1 : Int32)) (fun (s3 : Int32) => jn (fun k6 => if ¬ s3 = (0 : Int32) then k6 s3 else bnd (gR 6 5 a0) fun r18 => bnd (aI r18 a1) fun t19 => if ¬ t19 = (0 : Int32) then k6 s3 else k6 (-3 : Int32)) (fun (s5 : Int32) => if s5 = (0 : Int32) then loopK NF (fun (s7 : Int32 × Int32) k8 => if (99 : Int32) < s7.2 then rt s7.1 else bnd (gR 6 3 a0) fun r10 => bnd (aI r10 a1) fun t11 => bnd (f_X7_far s7.2 t11) fun t12 => bnd (cv 6 a0 (f_X7_believesWith a0 a1 s7.2)) fun t14 => if t14 < a2 then k8 (s7.1, (s7.2 + (1 : Int32))) else if s7.1 < (0 : Int32) then k8 (t12, (s7.2 + (1 : Int32))) else if s7.1 ≤ t12 then k8 (s7.1, (s7.2 + (1 : Int32))) else k8 (t12, (s7.2 + (1 : Int32)))) ((-9 : Int32), (0 : Int32)) else bnd (cv 6 a0 (f_X7_no a0 s5)) fun t16 => rt t16))
set_option maxRecDepth 20000 in
theorem s_X7_barber (a0 : Nat) (a1 : Int32) (a2 : Int32) : Sm eX7_barber [.ref a0, .int a1, .int a2] eI (f_X7_barber a0 a1 a2) := by
  intro hp vr hr H
  unfold f_X7_barber at H
  show Rn none 0 0 eX7_barber 0 [some (.ref a0), some (.int a1), some (.int a2), none, none, none, none] [] hp (eI vr, hr)
  refine r_aln rfl rfl rfl ?_
  refine r_iln rfl rfl rfl ?_
  refine r_vtI (rest := []) H rfl rfl rfl (s_X7_isPerson a0 a1) rfl rfl ⟨rfl, rfl⟩ rfl (fun t1 h2 H => ?_)
  refine r_jn (P := (fun (s3 : Int32) hq => Rn none 0 0 eX7_barber 10 [some (.ref a0), some (.int a1), some (.int a2), none, none, none, none] [.int s3] hq (eI vr, hr))) H (fun s3 hs3 H  => ?_) (fun k4 K4 H => ?_)
  · refine r_isn (L' := [some (.ref a0), some (.int a1), some (.int a2), some (.int s3), none, none, none]) rfl rfl (Nat.le_of_ble_eq_true rfl) rfl ?_
    refine r_iln rfl rfl rfl ?_
    refine r_jn (P := (fun (s5 : Int32) hq => Rn none 0 0 eX7_barber 20 [some (.ref a0), some (.int a1), some (.int a2), some (.int s5), none, none, none] [] hq (eI vr, hr))) H (fun s5 hs5 H  => ?_) (fun k6 K6 H => ?_)
    · refine r_iln rfl rfl rfl ?_
      refine r_if H rfl rfl (fun H => ?_) (fun H => ?_)
      · refine r_bi (v := -9) rfl cb_m9 ?_
        refine r_is (L' := [some (.ref a0), some (.int a1), some (.int a2), some (.int s5), some (.int (-9 : Int32)), none, none]) rfl (Nat.le_of_ble_eq_true rfl) rfl ?_
        refine r_ic (v := 0) rfl ci_0 ?_
        refine r_is (L' := [some (.ref a0), some (.int a1), some (.int a2), some (.int s5), some (.int (-9 : Int32)), some (.int (0 : Int32)), none]) rfl (Nat.le_of_ble_eq_true rfl) rfl ?_
        refine (r_loop (P := (fun (s7 : Int32 × Int32) hq => ∀ ys7_0 : Int32, ∀ ys7_1 : Int32, s7 = (ys7_0, ys7_1) → ∀ x9 : Option Value, Rn none 0 0 eX7_barber 30 [some (.ref a0), some (.int a1), some (.int a2), some (.int s5), some (.int ys7_0), some (.int ys7_1), x9] [] hq (eI vr, hr))) ?_ NF _ _ H) _ _ rfl _
        intro k8 K8 s7 hs7 H ys7_0 ys7_1 es7 x9
        subst es7
        refine r_il rfl rfl ?_
        refine r_bi (v := 99) rfl cb_99 ?_
        refine r_cmp H rfl rfl (fun H => ?_) (fun H => ?_)
        · refine r_il rfl rfl ?_
          exact r_reti H rfl rfl ⟨Nat.zero_le _, Nat.zero_le _⟩
        · refine r_il rfl rfl ?_
          refine r_aln rfl rfl rfl ?_
          refine r_gR H rfl kd_6_3 (fun r10 H => ?_)
          refine r_iln rfl rfl rfl ?_
          refine r_aI' H rfl (fun t11 H => ?_)
          refine r_stI (rest := []) H rfl rfl (s_X7_far ys7_1 t11) rfl rfl ⟨rfl, rfl⟩ rfl (fun t12 h13 H => ?_)
          refine r_is (L' := [some (.ref a0), some (.int a1), some (.int a2), some (.int s5), some (.int ys7_0), some (.int ys7_1), some (.int t12)]) rfl (Nat.le_of_ble_eq_true rfl) rfl ?_
          refine r_aln rfl rfl rfl ?_
          refine r_iln rfl rfl rfl ?_
          refine r_il rfl rfl ?_
          refine r_vtI (rest := []) H rfl rfl rfl (s_X7_believesWith a0 a1 ys7_1) rfl rfl ⟨rfl, rfl⟩ rfl (fun t14 h15 H => ?_)
          refine r_iln rfl rfl rfl ?_
          refine r_cmp H rfl rfl (fun H => ?_) (fun H => ?_)
          · refine r_inc (v := 1) (L' := [some (.ref a0), some (.int a1), some (.int a2), some (.int s5), some (.int ys7_0), some (.int (ys7_1 + (1 : Int32))), some (.int t12)]) rfl rfl ci_1 rfl ?_
            refine r_go rfl ?_
            have q := K8 _ _ H _ _ rfl
            exact q _
          · refine r_il rfl rfl ?_
            refine r_if H rfl rfl (fun H => ?_) (fun H => ?_)
            · refine r_il rfl rfl ?_
              refine r_is (L' := [some (.ref a0), some (.int a1), some (.int a2), some (.int s5), some (.int t12), some (.int ys7_1), some (.int t12)]) rfl (Nat.le_of_ble_eq_true rfl) rfl ?_
              refine r_inc (v := 1) (L' := [some (.ref a0), some (.int a1), some (.int a2), some (.int s5), some (.int t12), some (.int (ys7_1 + (1 : Int32))), some (.int t12)]) rfl rfl ci_1 rfl ?_
              refine r_go rfl ?_
              have q := K8 _ _ H _ _ rfl
              exact q _
            · refine r_il rfl rfl ?_
              refine r_il rfl rfl ?_
              refine r_cmp H rfl rfl (fun H => ?_) (fun H => ?_)
              · refine r_inc (v := 1) (L' := [some (.ref a0), some (.int a1), some (.int a2), some (.int s5), some (.int ys7_0), some (.int (ys7_1 + (1 : Int32))), some (.int t12)]) rfl rfl ci_1 rfl ?_
                refine r_go rfl ?_
                have q := K8 _ _ H _ _ rfl
                exact q _
              · refine r_il rfl rfl ?_
                refine r_is (L' := [some (.ref a0), some (.int a1), some (.int a2), some (.int s5), some (.int t12), some (.int ys7_1), some (.int t12)]) rfl (Nat.le_of_ble_eq_true rfl) rfl ?_
                refine r_inc (v := 1) (L' := [some (.ref a0), some (.int a1), some (.int a2), some (.int s5), some (.int t12), some (.int (ys7_1 + (1 : Int32))), some (.int t12)]) rfl rfl ci_1 rfl ?_
                refine r_go rfl ?_
                have q := K8 _ _ H _ _ rfl
                exact q _
      · refine r_aln rfl rfl rfl ?_
        refine r_iln rfl rfl rfl ?_
        refine r_vtI (rest := []) H rfl rfl rfl (s_X7_no a0 s5) rfl rfl ⟨rfl, rfl⟩ rfl (fun t16 h17 H => ?_)
        exact r_reti H rfl rfl ⟨Nat.zero_le _, Nat.zero_le _⟩
    · refine r_if H rfl rfl (fun H => ?_) (fun H => ?_)
      · have q := K6 _ _ H
        exact q
      · refine r_aln rfl rfl rfl ?_
        refine r_gR H rfl kd_6_5 (fun r18 H => ?_)
        refine r_iln rfl rfl rfl ?_
        refine r_aI' H rfl (fun t19 H => ?_)
        refine r_if H rfl rfl (fun H => ?_) (fun H => ?_)
        · have q := K6 _ _ H
          exact q
        · refine r_bi (v := -3) rfl cb_m3 ?_
          refine r_isn (L' := [some (.ref a0), some (.int a1), some (.int a2), some (.int (-3 : Int32)), none, none, none]) rfl rfl (Nat.le_of_ble_eq_true rfl) rfl ?_
          have q := K6 _ _ H
          exact q
  · refine r_if H rfl rfl (fun H => ?_) (fun H => ?_)
    · refine r_iln rfl rfl rfl ?_
      refine r_ic (v := 0) rfl ci_0 ?_
      refine r_bi (v := 99) rfl cb_99 ?_
      refine r_stI (rest := []) H rfl rfl (s_X7_bound a2 (0 : Int32) (99 : Int32)) rfl rfl ⟨rfl, rfl⟩ rfl (fun t20 h21 H => ?_)
      have q := K4 _ _ H
      exact q
    · refine r_ic (v := -1) rfl ci_m1 ?_
      refine r_go rfl ?_
      have q := K4 _ _ H
      exact q
def f_X7_fits (a0 : Nat) (a1 : Int32) : M Int32 := loopK NF (fun (s1 : Int32) k2 => bnd (gI 6 25 a0) fun t3 => if t3 ≤ s1 then retZ (1 : Int32) else bnd (gR 6 24 a0) fun r4 => bnd (aI r4 s1) fun t5 => if t5 = (99 : Int32) then k2 (s1 + (1 : Int32)) else bnd (cv 6 a0 (f_X7_saidOf a0 s1 a1)) fun t6 => bnd (gR 6 24 a0) fun r8 => bnd (aI r8 s1) fun t9 => if t6 = t9 then k2 (s1 + (1 : Int32)) else retZ (0 : Int32)) (0 : Int32)
set_option maxRecDepth 20000 in
theorem s_X7_fits (a0 : Nat) (a1 : Int32) : Sm eX7_fits [.ref a0, .int a1] eI (f_X7_fits a0 a1) := by
  intro hp vr hr H
  unfold f_X7_fits at H
  show Rn none 0 0 eX7_fits 0 [some (.ref a0), some (.int a1), none] [] hp (eI vr, hr)
  refine r_ic (v := 0) rfl ci_0 ?_
  refine r_isn (L' := [some (.ref a0), some (.int a1), some (.int (0 : Int32))]) rfl rfl (Nat.le_of_ble_eq_true rfl) rfl ?_
  refine (r_loop (P := (fun (s1 : Int32) hq => Rn none 0 0 eX7_fits 2 [some (.ref a0), some (.int a1), some (.int s1)] [] hq (eI vr, hr))) ?_ NF _ _ H)
  intro k2 K2 s1 hs1 H 
  refine r_iln rfl rfl rfl ?_
  refine r_aln rfl rfl rfl ?_
  refine r_gI' H rfl kl_6_25 (fun t3 H => ?_)
  refine r_cmp H rfl rfl (fun H => ?_) (fun H => ?_)
  · refine r_ic (v := 1) rfl ci_1 ?_
    exact r_retz H rfl rfl ⟨Nat.zero_le _, Nat.zero_le _⟩
  · refine r_aln rfl rfl rfl ?_
    refine r_gR H rfl kd_6_24 (fun r4 H => ?_)
    refine r_iln rfl rfl rfl ?_
    refine r_aI' H rfl (fun t5 H => ?_)
    refine r_bi (v := 99) rfl cb_99 ?_
    refine r_cmp H rfl rfl (fun H => ?_) (fun H => ?_)
    · refine r_inc (v := 1) (L' := [some (.ref a0), some (.int a1), some (.int (s1 + (1 : Int32)))]) rfl rfl ci_1 rfl ?_
      refine r_go rfl ?_
      have q := K2 _ _ H
      exact q
    · refine r_aln rfl rfl rfl ?_
      refine r_iln rfl rfl rfl ?_
      refine r_iln rfl rfl rfl ?_
      refine r_vtI (rest := []) H rfl rfl rfl (s_X7_saidOf a0 s1 a1) rfl rfl ⟨rfl, rfl⟩ rfl (fun t6 h7 H => ?_)
      refine r_aln rfl rfl rfl ?_
      refine r_gR H rfl kd_6_24 (fun r8 H => ?_)
      refine r_iln rfl rfl rfl ?_
      refine r_aI' H rfl (fun t9 H => ?_)
      refine r_cmp H rfl rfl (fun H => ?_) (fun H => ?_)
      · refine r_inc (v := 1) (L' := [some (.ref a0), some (.int a1), some (.int (s1 + (1 : Int32)))]) rfl rfl ci_1 rfl ?_
        refine r_go rfl ?_
        have q := K2 _ _ H
        exact q
      · refine r_ic (v := 0) rfl ci_0 ?_
        exact r_retz H rfl rfl ⟨Nat.zero_le _, Nat.zero_le _⟩
def f_X7_thief (a0 : Nat) (a1 : Int32) : M Int32 := bnd (f_X7_isIn a1 (0 : Int32) (2 : Int32)) fun t1 => jn (fun k4 => if ¬ t1 = (0 : Int32) then bnd (gI 6 25 a0) fun t17 => bnd (gI 6 8 a0) fun t18 => if t17 ≤ t18 then k4 (0 : Int32) else k4 (-3 : Int32) else k4 (-2 : Int32)) (fun (s3 : Int32) => if s3 = (0 : Int32) then loopK NF (fun (s5 : Int32 × Int32 × Int32 × Int32) k6 => if s5.2.2.2 < (0 : Int32) then if ¬ a1 = (0 : Int32) then if ¬ a1 = (1 : Int32) then rt s5.2.2.1 else rt s5.2.1 else rt s5.1 else bnd (cv 6 a0 (f_X7_fits a0 s5.2.2.2)) fun t8 => if ¬ t8 = (0 : Int32) then loopK NF (fun (s10 : Int32 × Int32) k11 => bnd (gI 6 8 a0) fun t12 => if t12 ≤ s10.2 then k6 ((s5.1 + (1 : Int32)), s5.2.2.2, s10.1, (s5.2.2.2 + (-1 : Int32))) else bnd (gR 6 3 a0) fun r13 => bnd (aI r13 s10.2) fun t14 => if ¬ t14 = s5.2.2.2 then k11 ((s10.1 ||| (0 : Int32)), (s10.2 + (1 : Int32))) else k11 ((s10.1 ||| ((1 : Int32) <<< (s10.2 &&& (31 : Int32)))), (s10.2 + (1 : Int32)))) (s5.2.2.1, (0 : Int32)) else k6 (s5.1, s5.2.1, s5.2.2.1, (s5.2.2.2 + (-1 : Int32)))) ((0 : Int32), (-9 : Int32), (0 : Int32), (99 : Int32)) else bnd (cv 6 a0 (f_X7_no a0 s3)) fun t15 => rt t15)
set_option maxRecDepth 20000 in
theorem s_X7_thief (a0 : Nat) (a1 : Int32) : Sm eX7_thief [.ref a0, .int a1] eI (f_X7_thief a0 a1) := by
  intro hp vr hr H
  unfold f_X7_thief at H
  show Rn none 0 0 eX7_thief 0 [some (.ref a0), some (.int a1), none, none, none, none, none, none] [] hp (eI vr, hr)
  refine r_iln rfl rfl rfl ?_
  refine r_ic (v := 0) rfl ci_0 ?_
  refine r_ic (v := 2) rfl ci_2 ?_
  refine r_stI (rest := []) H rfl rfl (s_X7_isIn a1 (0 : Int32) (2 : Int32)) rfl rfl ⟨rfl, rfl⟩ rfl (fun t1 h2 H => ?_)
  refine r_jn (P := (fun (s3 : Int32) hq => Rn none 0 0 eX7_thief 15 [some (.ref a0), some (.int a1), none, none, none, none, none, none] [.int s3] hq (eI vr, hr))) H (fun s3 hs3 H  => ?_) (fun k4 K4 H => ?_)
  · refine r_isn (L' := [some (.ref a0), some (.int a1), some (.int s3), none, none, none, none, none]) rfl rfl (Nat.le_of_ble_eq_true rfl) rfl ?_
    refine r_iln rfl rfl rfl ?_
    refine r_if H rfl rfl (fun H => ?_) (fun H => ?_)
    · refine r_ic (v := 0) rfl ci_0 ?_
      refine r_isn (L' := [some (.ref a0), some (.int a1), some (.int s3), some (.int (0 : Int32)), none, none, none, none]) rfl rfl (Nat.le_of_ble_eq_true rfl) rfl ?_
      refine r_bi (v := -9) rfl cb_m9 ?_
      refine r_is (L' := [some (.ref a0), some (.int a1), some (.int s3), some (.int (0 : Int32)), some (.int (-9 : Int32)), none, none, none]) rfl (Nat.le_of_ble_eq_true rfl) rfl ?_
      refine r_ic (v := 0) rfl ci_0 ?_
      refine r_is (L' := [some (.ref a0), some (.int a1), some (.int s3), some (.int (0 : Int32)), some (.int (-9 : Int32)), some (.int (0 : Int32)), none, none]) rfl (Nat.le_of_ble_eq_true rfl) rfl ?_
      refine r_bi (v := 99) rfl cb_99 ?_
      refine r_is (L' := [some (.ref a0), some (.int a1), some (.int s3), some (.int (0 : Int32)), some (.int (-9 : Int32)), some (.int (0 : Int32)), some (.int (99 : Int32)), none]) rfl (Nat.le_of_ble_eq_true rfl) rfl ?_
      refine (r_loop (P := (fun (s5 : Int32 × Int32 × Int32 × Int32) hq => ∀ ys5_0 : Int32, ∀ ys5_1 : Int32, ∀ ys5_2 : Int32, ∀ ys5_3 : Int32, s5 = (ys5_0, ys5_1, ys5_2, ys5_3) → ∀ x7 : Option Value, Rn none 0 0 eX7_thief 30 [some (.ref a0), some (.int a1), some (.int s3), some (.int ys5_0), some (.int ys5_1), some (.int ys5_2), some (.int ys5_3), x7] [] hq (eI vr, hr))) ?_ NF _ _ H) _ _ _ _ rfl _
      intro k6 K6 s5 hs5 H ys5_0 ys5_1 ys5_2 ys5_3 es5 x7
      subst es5
      refine r_il rfl rfl ?_
      refine r_if H rfl rfl (fun H => ?_) (fun H => ?_)
      · refine r_iln rfl rfl rfl ?_
        refine r_if H rfl rfl (fun H => ?_) (fun H => ?_)
        · refine r_iln rfl rfl rfl ?_
          refine r_ic (v := 1) rfl ci_1 ?_
          refine r_cmp H rfl rfl (fun H => ?_) (fun H => ?_)
          · refine r_il rfl rfl ?_
            exact r_reti H rfl rfl ⟨Nat.zero_le _, Nat.zero_le _⟩
          · refine r_il rfl rfl ?_
            refine r_go rfl ?_
            exact r_reti H rfl rfl ⟨Nat.zero_le _, Nat.zero_le _⟩
        · refine r_iln rfl rfl rfl ?_
          refine r_go rfl ?_
          exact r_reti H rfl rfl ⟨Nat.zero_le _, Nat.zero_le _⟩
      · refine r_aln rfl rfl rfl ?_
        refine r_il rfl rfl ?_
        refine r_vtI (rest := []) H rfl rfl rfl (s_X7_fits a0 ys5_3) rfl rfl ⟨rfl, rfl⟩ rfl (fun t8 h9 H => ?_)
        refine r_if H rfl rfl (fun H => ?_) (fun H => ?_)
        · refine r_inc (v := 1) (L' := [some (.ref a0), some (.int a1), some (.int s3), some (.int (ys5_0 + (1 : Int32))), some (.int ys5_1), some (.int ys5_2), some (.int ys5_3), x7]) rfl rfl ci_1 rfl ?_
          refine r_il rfl rfl ?_
          refine r_is (L' := [some (.ref a0), some (.int a1), some (.int s3), some (.int (ys5_0 + (1 : Int32))), some (.int ys5_3), some (.int ys5_2), some (.int ys5_3), x7]) rfl (Nat.le_of_ble_eq_true rfl) rfl ?_
          refine r_ic (v := 0) rfl ci_0 ?_
          refine r_is (L' := [some (.ref a0), some (.int a1), some (.int s3), some (.int (ys5_0 + (1 : Int32))), some (.int ys5_3), some (.int ys5_2), some (.int ys5_3), some (.int (0 : Int32))]) rfl (Nat.le_of_ble_eq_true rfl) rfl ?_
          refine (r_loop (P := (fun (s10 : Int32 × Int32) hq => ∀ ys10_0 : Int32, ∀ ys10_1 : Int32, s10 = (ys10_0, ys10_1) → Rn none 0 0 eX7_thief 42 [some (.ref a0), some (.int a1), some (.int s3), some (.int (ys5_0 + (1 : Int32))), some (.int ys5_3), some (.int ys10_0), some (.int ys5_3), some (.int ys10_1)] [] hq (eI vr, hr))) ?_ NF _ _ H) _ _ rfl
          intro k11 K11 s10 hs10 H ys10_0 ys10_1 es10 
          subst es10
          refine r_il rfl rfl ?_
          refine r_aln rfl rfl rfl ?_
          refine r_gI' H rfl kl_6_8 (fun t12 H => ?_)
          refine r_cmp H rfl rfl (fun H => ?_) (fun H => ?_)
          · refine r_inc (v := -1) (L' := [some (.ref a0), some (.int a1), some (.int s3), some (.int (ys5_0 + (1 : Int32))), some (.int ys5_3), some (.int ys10_0), some (.int (ys5_3 + (-1 : Int32))), some (.int ys10_1)]) rfl rfl ci_m1 rfl ?_
            refine r_go rfl ?_
            have q := K6 _ _ H _ _ _ _ rfl
            exact q _
          · refine r_il rfl rfl ?_
            refine r_aln rfl rfl rfl ?_
            refine r_gR H rfl kd_6_3 (fun r13 H => ?_)
            refine r_il rfl rfl ?_
            refine r_aI' H rfl (fun t14 H => ?_)
            refine r_il rfl rfl ?_
            refine r_cmp H rfl rfl (fun H => ?_) (fun H => ?_)
            · refine r_ic (v := 0) rfl ci_0 ?_
              refine r_or rfl ?_
              refine r_is (L' := [some (.ref a0), some (.int a1), some (.int s3), some (.int (ys5_0 + (1 : Int32))), some (.int ys5_3), some (.int (ys10_0 ||| (0 : Int32))), some (.int ys5_3), some (.int ys10_1)]) rfl (Nat.le_of_ble_eq_true rfl) rfl ?_
              refine r_inc (v := 1) (L' := [some (.ref a0), some (.int a1), some (.int s3), some (.int (ys5_0 + (1 : Int32))), some (.int ys5_3), some (.int (ys10_0 ||| (0 : Int32))), some (.int ys5_3), some (.int (ys10_1 + (1 : Int32)))]) rfl rfl ci_1 rfl ?_
              refine r_go rfl ?_
              have q := K11 _ _ H _ _ rfl
              exact q
            · refine r_ic (v := 1) rfl ci_1 ?_
              refine r_il rfl rfl ?_
              refine r_shl rfl ?_
              refine r_go rfl ?_
              refine r_or rfl ?_
              refine r_is (L' := [some (.ref a0), some (.int a1), some (.int s3), some (.int (ys5_0 + (1 : Int32))), some (.int ys5_3), some (.int (ys10_0 ||| ((1 : Int32) <<< (ys10_1 &&& (31 : Int32))))), some (.int ys5_3), some (.int ys10_1)]) rfl (Nat.le_of_ble_eq_true rfl) rfl ?_
              refine r_inc (v := 1) (L' := [some (.ref a0), some (.int a1), some (.int s3), some (.int (ys5_0 + (1 : Int32))), some (.int ys5_3), some (.int (ys10_0 ||| ((1 : Int32) <<< (ys10_1 &&& (31 : Int32))))), some (.int ys5_3), some (.int (ys10_1 + (1 : Int32)))]) rfl rfl ci_1 rfl ?_
              refine r_go rfl ?_
              have q := K11 _ _ H _ _ rfl
              exact q
        · refine r_go rfl ?_
          refine r_inc (v := -1) (L' := [some (.ref a0), some (.int a1), some (.int s3), some (.int ys5_0), some (.int ys5_1), some (.int ys5_2), some (.int (ys5_3 + (-1 : Int32))), x7]) rfl rfl ci_m1 rfl ?_
          refine r_go rfl ?_
          have q := K6 _ _ H _ _ _ _ rfl
          exact q _
    · refine r_aln rfl rfl rfl ?_
      refine r_iln rfl rfl rfl ?_
      refine r_vtI (rest := []) H rfl rfl rfl (s_X7_no a0 s3) rfl rfl ⟨rfl, rfl⟩ rfl (fun t15 h16 H => ?_)
      exact r_reti H rfl rfl ⟨Nat.zero_le _, Nat.zero_le _⟩
  · refine r_if H rfl rfl (fun H => ?_) (fun H => ?_)
    · refine r_aln rfl rfl rfl ?_
      refine r_gI' H rfl kl_6_25 (fun t17 H => ?_)
      refine r_aln rfl rfl rfl ?_
      refine r_gI' H rfl kl_6_8 (fun t18 H => ?_)
      refine r_cmp H rfl rfl (fun H => ?_) (fun H => ?_)
      · refine r_ic (v := 0) rfl ci_0 ?_
        have q := K4 _ _ H
        exact q
      · refine r_bi (v := -3) rfl cb_m3 ?_
        refine r_go rfl ?_
        have q := K4 _ _ H
        exact q
    · refine r_bi (v := -2) rfl cb_m2 ?_
      refine r_go rfl ?_
      have q := K4 _ _ H
      exact q
def f_X7_kindsBy (a0 : Nat) (a1 : Int32) : M Int32 := loopK NF (fun (s1 : Int32) k2 => if (99 : Int32) < s1 then loopK NF (fun (s3 : Int32 × Int32) k4 => if (99 : Int32) < s3.2 then rt s3.1 else bnd (cv 6 a0 (f_X7_fits a0 s3.2)) fun t5 => if ¬ t5 = (0 : Int32) then bnd (gR 6 26 a0) fun r7 => bnd (cv 6 a0 (f_X7_saidOf a0 a1 s3.2)) fun t8 => bnd (aI r7 t8) fun t10 => bnd (gR 6 26 a0) fun r11 => bnd (cv 6 a0 (f_X7_saidOf a0 a1 s3.2)) fun t12 => bnd (sI r11 t12 (1 : Int32)) fun _ => k4 ((s3.1 + ((1 : Int32) - t10)), (s3.2 + (1 : Int32))) else k4 (s3.1, (s3.2 + (1 : Int32)))) ((0 : Int32), (0 : Int32)) else bnd (gR 6 26 a0) fun r14 => bnd (sI r14 s1 (0 : Int32)) fun _ => k2 (s1 + (1 : Int32))) (0 : Int32)
set_option maxRecDepth 20000 in
theorem s_X7_kindsBy (a0 : Nat) (a1 : Int32) : Sm eX7_kindsBy [.ref a0, .int a1] eI (f_X7_kindsBy a0 a1) := by
  intro hp vr hr H
  unfold f_X7_kindsBy at H
  show Rn none 0 0 eX7_kindsBy 0 [some (.ref a0), some (.int a1), none, none] [] hp (eI vr, hr)
  refine r_ic (v := 0) rfl ci_0 ?_
  refine r_isn (L' := [some (.ref a0), some (.int a1), some (.int (0 : Int32)), none]) rfl rfl (Nat.le_of_ble_eq_true rfl) rfl ?_
  refine r_ic (v := 0) rfl ci_0 ?_
  refine r_isn (L' := [some (.ref a0), some (.int a1), some (.int (0 : Int32)), some (.int (0 : Int32))]) rfl rfl (Nat.le_of_ble_eq_true rfl) rfl ?_
  refine (r_loop (P := (fun (s1 : Int32) hq => Rn none 0 0 eX7_kindsBy 4 [some (.ref a0), some (.int a1), some (.int (0 : Int32)), some (.int s1)] [] hq (eI vr, hr))) ?_ NF _ _ H)
  intro k2 K2 s1 hs1 H 
  refine r_iln rfl rfl rfl ?_
  refine r_bi (v := 99) rfl cb_99 ?_
  refine r_cmp H rfl rfl (fun H => ?_) (fun H => ?_)
  · refine r_ic (v := 0) rfl ci_0 ?_
    refine r_isn (L' := [some (.ref a0), some (.int a1), some (.int (0 : Int32)), some (.int (0 : Int32))]) rfl rfl (Nat.le_of_ble_eq_true rfl) rfl ?_
    refine (r_loop (P := (fun (s3 : Int32 × Int32) hq => ∀ ys3_0 : Int32, ∀ ys3_1 : Int32, s3 = (ys3_0, ys3_1) → Rn none 0 0 eX7_kindsBy 16 [some (.ref a0), some (.int a1), some (.int ys3_0), some (.int ys3_1)] [] hq (eI vr, hr))) ?_ NF _ _ H) _ _ rfl
    intro k4 K4 s3 hs3 H ys3_0 ys3_1 es3 
    subst es3
    refine r_iln rfl rfl rfl ?_
    refine r_bi (v := 99) rfl cb_99 ?_
    refine r_cmp H rfl rfl (fun H => ?_) (fun H => ?_)
    · refine r_iln rfl rfl rfl ?_
      exact r_reti H rfl rfl ⟨Nat.zero_le _, Nat.zero_le _⟩
    · refine r_aln rfl rfl rfl ?_
      refine r_iln rfl rfl rfl ?_
      refine r_vtI (rest := []) H rfl rfl rfl (s_X7_fits a0 ys3_1) rfl rfl ⟨rfl, rfl⟩ rfl (fun t5 h6 H => ?_)
      refine r_if H rfl rfl (fun H => ?_) (fun H => ?_)
      · refine r_iln rfl rfl rfl ?_
        refine r_ic (v := 1) rfl ci_1 ?_
        refine r_aln rfl rfl rfl ?_
        refine r_gR H rfl kd_6_26 (fun r7 H => ?_)
        refine r_aln rfl rfl rfl ?_
        refine r_iln rfl rfl rfl ?_
        refine r_iln rfl rfl rfl ?_
        refine r_vtI (rest := [.ref r7, .int (1 : Int32), .int ys3_0]) H rfl rfl rfl (s_X7_saidOf a0 a1 ys3_1) rfl rfl ⟨rfl, rfl⟩ rfl (fun t8 h9 H => ?_)
        refine r_aI' H rfl (fun t10 H => ?_)
        refine r_sub rfl ?_
        refine r_add rfl ?_
        refine r_isn (L' := [some (.ref a0), some (.int a1), some (.int (ys3_0 + ((1 : Int32) - t10))), some (.int ys3_1)]) rfl rfl (Nat.le_of_ble_eq_true rfl) rfl ?_
        refine r_aln rfl rfl rfl ?_
        refine r_gR H rfl kd_6_26 (fun r11 H => ?_)
        refine r_aln rfl rfl rfl ?_
        refine r_iln rfl rfl rfl ?_
        refine r_iln rfl rfl rfl ?_
        refine r_vtI (rest := [.ref r11]) H rfl rfl rfl (s_X7_saidOf a0 a1 ys3_1) rfl rfl ⟨rfl, rfl⟩ rfl (fun t12 h13 H => ?_)
        refine r_ic (v := 1) rfl ci_1 ?_
        refine r_sI H rfl (fun H => ?_)
        refine r_inc (v := 1) (L' := [some (.ref a0), some (.int a1), some (.int (ys3_0 + ((1 : Int32) - t10))), some (.int (ys3_1 + (1 : Int32)))]) rfl rfl ci_1 rfl ?_
        refine r_go rfl ?_
        have q := K4 _ _ H _ _ rfl
        exact q
      · refine r_go rfl ?_
        refine r_inc (v := 1) (L' := [some (.ref a0), some (.int a1), some (.int ys3_0), some (.int (ys3_1 + (1 : Int32)))]) rfl rfl ci_1 rfl ?_
        refine r_go rfl ?_
        have q := K4 _ _ H _ _ rfl
        exact q
  · refine r_aln rfl rfl rfl ?_
    refine r_gR H rfl kd_6_26 (fun r14 H => ?_)
    refine r_iln rfl rfl rfl ?_
    refine r_ic (v := 0) rfl ci_0 ?_
    refine r_sI H rfl (fun H => ?_)
    refine r_inc (v := 1) (L' := [some (.ref a0), some (.int a1), some (.int (0 : Int32)), some (.int (s1 + (1 : Int32)))]) rfl rfl ci_1 rfl ?_
    refine r_go rfl ?_
    have q := K2 _ _ H
    exact q
def f_X7_tellsMost (a0 : Nat) (a1 : Int32) : M Int32 := bnd (f_X7_isIn a1 (0 : Int32) (1 : Int32)) fun t1 => jn (fun k4 => if ¬ t1 = (0 : Int32) then bnd (gI 6 25 a0) fun t16 => bnd (gI 6 8 a0) fun t17 => if t17 < t16 then k4 (-3 : Int32) else bnd (gI 6 8 a0) fun t18 => if ¬ t18 = (0 : Int32) then k4 (0 : Int32) else k4 (-3 : Int32) else k4 (-2 : Int32)) (fun (s3 : Int32) => if s3 = (0 : Int32) then loopK NF (fun (s5 : Int32 × Int32) k6 => bnd (gI 6 8 a0) fun t7 => if t7 ≤ s5.2 then bnd (cv 6 a0 (f_X7_kindsBy a0 s5.1)) fun t8 => if ¬ t8 = (0 : Int32) then if ¬ a1 = (0 : Int32) then rt t8 else rt s5.1 else rt (-9 : Int32) else bnd (cv 6 a0 (f_X7_kindsBy a0 s5.2)) fun t10 => bnd (cv 6 a0 (f_X7_kindsBy a0 s5.1)) fun t12 => if t10 ≤ t12 then k6 (s5.1, (s5.2 + (1 : Int32))) else k6 (s5.2, (s5.2 + (1 : Int32)))) ((0 : Int32), (1 : Int32)) else bnd (cv 6 a0 (f_X7_no a0 s3)) fun t14 => rt t14)
set_option maxRecDepth 20000 in
theorem s_X7_tellsMost (a0 : Nat) (a1 : Int32) : Sm eX7_tellsMost [.ref a0, .int a1] eI (f_X7_tellsMost a0 a1) := by
  intro hp vr hr H
  unfold f_X7_tellsMost at H
  show Rn none 0 0 eX7_tellsMost 0 [some (.ref a0), some (.int a1), none, none, none] [] hp (eI vr, hr)
  refine r_iln rfl rfl rfl ?_
  refine r_ic (v := 0) rfl ci_0 ?_
  refine r_ic (v := 1) rfl ci_1 ?_
  refine r_stI (rest := []) H rfl rfl (s_X7_isIn a1 (0 : Int32) (1 : Int32)) rfl rfl ⟨rfl, rfl⟩ rfl (fun t1 h2 H => ?_)
  refine r_jn (P := (fun (s3 : Int32) hq => Rn none 0 0 eX7_tellsMost 18 [some (.ref a0), some (.int a1), none, none, none] [.int s3] hq (eI vr, hr))) H (fun s3 hs3 H  => ?_) (fun k4 K4 H => ?_)
  · refine r_isn (L' := [some (.ref a0), some (.int a1), some (.int s3), none, none]) rfl rfl (Nat.le_of_ble_eq_true rfl) rfl ?_
    refine r_iln rfl rfl rfl ?_
    refine r_if H rfl rfl (fun H => ?_) (fun H => ?_)
    · refine r_ic (v := 0) rfl ci_0 ?_
      refine r_isn (L' := [some (.ref a0), some (.int a1), some (.int s3), some (.int (0 : Int32)), none]) rfl rfl (Nat.le_of_ble_eq_true rfl) rfl ?_
      refine r_ic (v := 1) rfl ci_1 ?_
      refine r_is (L' := [some (.ref a0), some (.int a1), some (.int s3), some (.int (0 : Int32)), some (.int (1 : Int32))]) rfl (Nat.le_of_ble_eq_true rfl) rfl ?_
      refine (r_loop (P := (fun (s5 : Int32 × Int32) hq => ∀ ys5_0 : Int32, ∀ ys5_1 : Int32, s5 = (ys5_0, ys5_1) → Rn none 0 0 eX7_tellsMost 29 [some (.ref a0), some (.int a1), some (.int s3), some (.int ys5_0), some (.int ys5_1)] [] hq (eI vr, hr))) ?_ NF _ _ H) _ _ rfl
      intro k6 K6 s5 hs5 H ys5_0 ys5_1 es5 
      subst es5
      refine r_il rfl rfl ?_
      refine r_aln rfl rfl rfl ?_
      refine r_gI' H rfl kl_6_8 (fun t7 H => ?_)
      refine r_cmp H rfl rfl (fun H => ?_) (fun H => ?_)
      · refine r_aln rfl rfl rfl ?_
        refine r_iln rfl rfl rfl ?_
        refine r_vtI (rest := []) H rfl rfl rfl (s_X7_kindsBy a0 ys5_0) rfl rfl ⟨rfl, rfl⟩ rfl (fun t8 h9 H => ?_)
        refine r_is (L' := [some (.ref a0), some (.int a1), some (.int s3), some (.int ys5_0), some (.int t8)]) rfl (Nat.le_of_ble_eq_true rfl) rfl ?_
        refine r_il rfl rfl ?_
        refine r_if H rfl rfl (fun H => ?_) (fun H => ?_)
        · refine r_iln rfl rfl rfl ?_
          refine r_if H rfl rfl (fun H => ?_) (fun H => ?_)
          · refine r_il rfl rfl ?_
            exact r_reti H rfl rfl ⟨Nat.zero_le _, Nat.zero_le _⟩
          · refine r_iln rfl rfl rfl ?_
            refine r_go rfl ?_
            exact r_reti H rfl rfl ⟨Nat.zero_le _, Nat.zero_le _⟩
        · refine r_bi (v := -9) rfl cb_m9 ?_
          refine r_go rfl ?_
          exact r_reti H rfl rfl ⟨Nat.zero_le _, Nat.zero_le _⟩
      · refine r_aln rfl rfl rfl ?_
        refine r_il rfl rfl ?_
        refine r_vtI (rest := []) H rfl rfl rfl (s_X7_kindsBy a0 ys5_1) rfl rfl ⟨rfl, rfl⟩ rfl (fun t10 h11 H => ?_)
        refine r_aln rfl rfl rfl ?_
        refine r_iln rfl rfl rfl ?_
        refine r_vtI (rest := [.int t10]) H rfl rfl rfl (s_X7_kindsBy a0 ys5_0) rfl rfl ⟨rfl, rfl⟩ rfl (fun t12 h13 H => ?_)
        refine r_cmp H rfl rfl (fun H => ?_) (fun H => ?_)
        · refine r_iln rfl rfl rfl ?_
          refine r_isn (L' := [some (.ref a0), some (.int a1), some (.int s3), some (.int ys5_0), some (.int ys5_1)]) rfl rfl (Nat.le_of_ble_eq_true rfl) rfl ?_
          refine r_inc (v := 1) (L' := [some (.ref a0), some (.int a1), some (.int s3), some (.int ys5_0), some (.int (ys5_1 + (1 : Int32)))]) rfl rfl ci_1 rfl ?_
          refine r_go rfl ?_
          have q := K6 _ _ H _ _ rfl
          exact q
        · refine r_il rfl rfl ?_
          refine r_go rfl ?_
          refine r_isn (L' := [some (.ref a0), some (.int a1), some (.int s3), some (.int ys5_1), some (.int ys5_1)]) rfl rfl (Nat.le_of_ble_eq_true rfl) rfl ?_
          refine r_inc (v := 1) (L' := [some (.ref a0), some (.int a1), some (.int s3), some (.int ys5_1), some (.int (ys5_1 + (1 : Int32)))]) rfl rfl ci_1 rfl ?_
          refine r_go rfl ?_
          have q := K6 _ _ H _ _ rfl
          exact q
    · refine r_aln rfl rfl rfl ?_
      refine r_iln rfl rfl rfl ?_
      refine r_vtI (rest := []) H rfl rfl rfl (s_X7_no a0 s3) rfl rfl ⟨rfl, rfl⟩ rfl (fun t14 h15 H => ?_)
      exact r_reti H rfl rfl ⟨Nat.zero_le _, Nat.zero_le _⟩
  · refine r_if H rfl rfl (fun H => ?_) (fun H => ?_)
    · refine r_aln rfl rfl rfl ?_
      refine r_gI' H rfl kl_6_25 (fun t16 H => ?_)
      refine r_aln rfl rfl rfl ?_
      refine r_gI' H rfl kl_6_8 (fun t17 H => ?_)
      refine r_cmp H rfl rfl (fun H => ?_) (fun H => ?_)
      · refine r_bi (v := -3) rfl cb_m3 ?_
        refine r_go rfl ?_
        have q := K4 _ _ H
        exact q
      · refine r_aln rfl rfl rfl ?_
        refine r_gI' H rfl kl_6_8 (fun t18 H => ?_)
        refine r_if H rfl rfl (fun H => ?_) (fun H => ?_)
        · refine r_ic (v := 0) rfl ci_0 ?_
          have q := K4 _ _ H
          exact q
        · refine r_bi (v := -3) rfl cb_m3 ?_
          refine r_go rfl ?_
          have q := K4 _ _ H
          exact q
    · refine r_bi (v := -2) rfl cb_m2 ?_
      refine r_go rfl ?_
      have q := K4 _ _ H
      exact q
def f_X7_findPhotos (a0 : Nat) : M Unit := bnd (cv 6 a0 (f_X7_all a0)) fun t1 => loopK NF (fun (s3 : Int32) k4 => if s3 < (0 : Int32) then rt () else bnd (f_X7_bits s3) fun t8 => bnd (gR 6 27 a0) fun r10 => bnd (gI 6 8 a0) fun t11 => if ¬ t8 = t11 then bnd (sI r10 s3 (1000000000 : Int32)) fun _ => loopK NF (fun (s12 : Int32) k13 => bnd (gI 6 8 a0) fun t15 => if t15 ≤ s12 then k4 (s3 + (-1 : Int32)) else bnd (gI 6 8 a0) fun t16 => if t16 ≤ t8 then k4 (s3 + (-1 : Int32)) else bnd (f_X7_has s3 s12) fun t17 => jn (fun k20 => if t17 = (0 : Int32) then bnd (gR 6 3 a0) fun r26 => bnd (aI r26 t8) fun t27 => bnd (gR 6 24 a0) fun r28 => bnd (aI r28 s12) fun t29 => bnd (f_X7_far t27 t29) fun t30 => bnd (gR 6 27 a0) fun r32 => bnd (aI r32 (s3 ||| ((1 : Int32) <<< (s12 &&& (31 : Int32))))) fun t33 => k20 (t30 + t33) else k20 (1000000000 : Int32)) (fun (s19 : Int32) => bnd (gR 6 27 a0) fun r21 => bnd (gR 6 27 a0) fun r22 => bnd (aI r22 s3) fun t23 => if t23 ≤ s19 then bnd (gR 6 27 a0) fun r24 => bnd (aI r24 s3) fun t25 => bnd (sI r21 s3 t25) fun _ => k13 (s12 + (1 : Int32)) else bnd (sI r21 s3 s19) fun _ => k13 (s12 + (1 : Int32)))) (0 : Int32) else bnd (sI r10 s3 (0 : Int32)) fun _ => loopK NF (fun (s34 : Int32) k35 => bnd (gI 6 8 a0) fun t37 => if t37 ≤ s34 then k4 (s3 + (-1 : Int32)) else bnd (gI 6 8 a0) fun t38 => if t38 ≤ t8 then k4 (s3 + (-1 : Int32)) else bnd (f_X7_has s3 s34) fun t39 => jn (fun k42 => if t39 = (0 : Int32) then bnd (gR 6 3 a0) fun r48 => bnd (aI r48 t8) fun t49 => bnd (gR 6 24 a0) fun r50 => bnd (aI r50 s34) fun t51 => bnd (f_X7_far t49 t51) fun t52 => bnd (gR 6 27 a0) fun r54 => bnd (aI r54 (s3 ||| ((1 : Int32) <<< (s34 &&& (31 : Int32))))) fun t55 => k42 (t52 + t55) else k42 (1000000000 : Int32)) (fun (s41 : Int32) => bnd (gR 6 27 a0) fun r43 => bnd (gR 6 27 a0) fun r44 => bnd (aI r44 s3) fun t45 => if t45 ≤ s41 then bnd (gR 6 27 a0) fun r46 => bnd (aI r46 s3) fun t47 => bnd (sI r43 s3 t47) fun _ => k35 (s34 + (1 : Int32)) else bnd (sI r43 s3 s41) fun _ => k35 (s34 + (1 : Int32)))) (0 : Int32)) t1
set_option maxRecDepth 20000 in
theorem s_X7_findPhotos (a0 : Nat) : Sm eX7_findPhotos [.ref a0] eU (f_X7_findPhotos a0) := by
  intro hp vr hr H
  unfold f_X7_findPhotos at H
  show Rn none 0 0 eX7_findPhotos 0 [some (.ref a0), none, none, none, none] [] hp (eU vr, hr)
  refine r_aln rfl rfl rfl ?_
  refine r_vtI (rest := []) H rfl rfl rfl (s_X7_all a0) rfl rfl ⟨rfl, rfl⟩ rfl (fun t1 h2 H => ?_)
  refine r_isn (L' := [some (.ref a0), some (.int t1), none, none, none]) rfl rfl (Nat.le_of_ble_eq_true rfl) rfl ?_
  refine (r_loop (P := (fun (s3 : Int32) hq => ∀ x5 : Option Value, ∀ x6 : Option Value, ∀ x7 : Option Value, Rn none 0 0 eX7_findPhotos 3 [some (.ref a0), some (.int s3), x5, x6, x7] [] hq (eU vr, hr))) ?_ NF _ _ H) _ _ _
  intro k4 K4 s3 hs3 H x5 x6 x7
  refine r_iln rfl rfl rfl ?_
  refine r_if H rfl rfl (fun H => ?_) (fun H => ?_)
  · exact r_retv H rfl rfl ⟨Nat.zero_le _, Nat.zero_le _⟩
  · refine r_iln rfl rfl rfl ?_
    refine r_stI (rest := []) H rfl rfl (s_X7_bits s3) rfl rfl ⟨rfl, rfl⟩ rfl (fun t8 h9 H => ?_)
    refine r_isn (L' := [some (.ref a0), some (.int s3), some (.int t8), x6, x7]) rfl rfl (Nat.le_of_ble_eq_true rfl) rfl ?_
    refine r_aln rfl rfl rfl ?_
    refine r_gR H rfl kd_6_27 (fun r10 H => ?_)
    refine r_iln rfl rfl rfl ?_
    refine r_iln rfl rfl rfl ?_
    refine r_aln rfl rfl rfl ?_
    refine r_gI' H rfl kl_6_8 (fun t11 H => ?_)
    refine r_cmp H rfl rfl (fun H => ?_) (fun H => ?_)
    · refine r_lc (v := 1000000000) rfl cn_1000000000 ?_
      refine r_sI H rfl (fun H => ?_)
      refine r_ic (v := 0) rfl ci_0 ?_
      refine r_isn (L' := [some (.ref a0), some (.int s3), some (.int t8), some (.int (0 : Int32)), x7]) rfl rfl (Nat.le_of_ble_eq_true rfl) rfl ?_
      refine (r_loop (P := (fun (s12 : Int32) hq => ∀ x14 : Option Value, Rn none 0 0 eX7_findPhotos 21 [some (.ref a0), some (.int s3), some (.int t8), some (.int s12), x14] [] hq (eU vr, hr))) ?_ NF _ _ H) _
      intro k13 K13 s12 hs12 H x14
      refine r_iln rfl rfl rfl ?_
      refine r_aln rfl rfl rfl ?_
      refine r_gI' H rfl kl_6_8 (fun t15 H => ?_)
      refine r_cmp H rfl rfl (fun H => ?_) (fun H => ?_)
      · refine r_inc (v := -1) (L' := [some (.ref a0), some (.int (s3 + (-1 : Int32))), some (.int t8), some (.int s12), x14]) rfl rfl ci_m1 rfl ?_
        refine r_go rfl ?_
        have q := K4 _ _ H
        exact q _ _ _
      · refine r_iln rfl rfl rfl ?_
        refine r_aln rfl rfl rfl ?_
        refine r_gI' H rfl kl_6_8 (fun t16 H => ?_)
        refine r_cmp H rfl rfl (fun H => ?_) (fun H => ?_)
        · refine r_inc (v := -1) (L' := [some (.ref a0), some (.int (s3 + (-1 : Int32))), some (.int t8), some (.int s12), x14]) rfl rfl ci_m1 rfl ?_
          refine r_go rfl ?_
          have q := K4 _ _ H
          exact q _ _ _
        · refine r_iln rfl rfl rfl ?_
          refine r_iln rfl rfl rfl ?_
          refine r_stI (rest := []) H rfl rfl (s_X7_has s3 s12) rfl rfl ⟨rfl, rfl⟩ rfl (fun t17 h18 H => ?_)
          refine r_jn (P := (fun (s19 : Int32) hq => Rn none 0 0 eX7_findPhotos 53 [some (.ref a0), some (.int s3), some (.int t8), some (.int s12), x14] [.int s19] hq (eU vr, hr))) H (fun s19 hs19 H  => ?_) (fun k20 K20 H => ?_)
          · refine r_is (L' := [some (.ref a0), some (.int s3), some (.int t8), some (.int s12), some (.int s19)]) rfl (Nat.le_of_ble_eq_true rfl) rfl ?_
            refine r_aln rfl rfl rfl ?_
            refine r_gR H rfl kd_6_27 (fun r21 H => ?_)
            refine r_iln rfl rfl rfl ?_
            refine r_il rfl rfl ?_
            refine r_aln rfl rfl rfl ?_
            refine r_gR H rfl kd_6_27 (fun r22 H => ?_)
            refine r_iln rfl rfl rfl ?_
            refine r_aI' H rfl (fun t23 H => ?_)
            refine r_cmp H rfl rfl (fun H => ?_) (fun H => ?_)
            · refine r_aln rfl rfl rfl ?_
              refine r_gR H rfl kd_6_27 (fun r24 H => ?_)
              refine r_iln rfl rfl rfl ?_
              refine r_aI' H rfl (fun t25 H => ?_)
              refine r_sI H rfl (fun H => ?_)
              refine r_inc (v := 1) (L' := [some (.ref a0), some (.int s3), some (.int t8), some (.int (s12 + (1 : Int32))), some (.int s19)]) rfl rfl ci_1 rfl ?_
              refine r_go rfl ?_
              have q := K13 _ _ H
              exact q _
            · refine r_il rfl rfl ?_
              refine r_go rfl ?_
              refine r_sI H rfl (fun H => ?_)
              refine r_inc (v := 1) (L' := [some (.ref a0), some (.int s3), some (.int t8), some (.int (s12 + (1 : Int32))), some (.int s19)]) rfl rfl ci_1 rfl ?_
              refine r_go rfl ?_
              have q := K13 _ _ H
              exact q _
          · refine r_if H rfl rfl (fun H => ?_) (fun H => ?_)
            · refine r_aln rfl rfl rfl ?_
              refine r_gR H rfl kd_6_3 (fun r26 H => ?_)
              refine r_iln rfl rfl rfl ?_
              refine r_aI' H rfl (fun t27 H => ?_)
              refine r_aln rfl rfl rfl ?_
              refine r_gR H rfl kd_6_24 (fun r28 H => ?_)
              refine r_iln rfl rfl rfl ?_
              refine r_aI' H rfl (fun t29 H => ?_)
              refine r_stI (rest := []) H rfl rfl (s_X7_far t27 t29) rfl rfl ⟨rfl, rfl⟩ rfl (fun t30 h31 H => ?_)
              refine r_aln rfl rfl rfl ?_
              refine r_gR H rfl kd_6_27 (fun r32 H => ?_)
              refine r_iln rfl rfl rfl ?_
              refine r_ic (v := 1) rfl ci_1 ?_
              refine r_iln rfl rfl rfl ?_
              refine r_shl rfl ?_
              refine r_or rfl ?_
              refine r_aI' H rfl (fun t33 H => ?_)
              refine r_add rfl ?_
              have q := K20 _ _ H
              exact q
            · refine r_lc (v := 1000000000) rfl cn_1000000000 ?_
              refine r_go rfl ?_
              have q := K20 _ _ H
              exact q
    · refine r_ic (v := 0) rfl ci_0 ?_
      refine r_go rfl ?_
      refine r_sI H rfl (fun H => ?_)
      refine r_ic (v := 0) rfl ci_0 ?_
      refine r_isn (L' := [some (.ref a0), some (.int s3), some (.int t8), some (.int (0 : Int32)), x7]) rfl rfl (Nat.le_of_ble_eq_true rfl) rfl ?_
      refine (r_loop (P := (fun (s34 : Int32) hq => ∀ x36 : Option Value, Rn none 0 0 eX7_findPhotos 21 [some (.ref a0), some (.int s3), some (.int t8), some (.int s34), x36] [] hq (eU vr, hr))) ?_ NF _ _ H) _
      intro k35 K35 s34 hs34 H x36
      refine r_iln rfl rfl rfl ?_
      refine r_aln rfl rfl rfl ?_
      refine r_gI' H rfl kl_6_8 (fun t37 H => ?_)
      refine r_cmp H rfl rfl (fun H => ?_) (fun H => ?_)
      · refine r_inc (v := -1) (L' := [some (.ref a0), some (.int (s3 + (-1 : Int32))), some (.int t8), some (.int s34), x36]) rfl rfl ci_m1 rfl ?_
        refine r_go rfl ?_
        have q := K4 _ _ H
        exact q _ _ _
      · refine r_iln rfl rfl rfl ?_
        refine r_aln rfl rfl rfl ?_
        refine r_gI' H rfl kl_6_8 (fun t38 H => ?_)
        refine r_cmp H rfl rfl (fun H => ?_) (fun H => ?_)
        · refine r_inc (v := -1) (L' := [some (.ref a0), some (.int (s3 + (-1 : Int32))), some (.int t8), some (.int s34), x36]) rfl rfl ci_m1 rfl ?_
          refine r_go rfl ?_
          have q := K4 _ _ H
          exact q _ _ _
        · refine r_iln rfl rfl rfl ?_
          refine r_iln rfl rfl rfl ?_
          refine r_stI (rest := []) H rfl rfl (s_X7_has s3 s34) rfl rfl ⟨rfl, rfl⟩ rfl (fun t39 h40 H => ?_)
          refine r_jn (P := (fun (s41 : Int32) hq => Rn none 0 0 eX7_findPhotos 53 [some (.ref a0), some (.int s3), some (.int t8), some (.int s34), x36] [.int s41] hq (eU vr, hr))) H (fun s41 hs41 H  => ?_) (fun k42 K42 H => ?_)
          · refine r_is (L' := [some (.ref a0), some (.int s3), some (.int t8), some (.int s34), some (.int s41)]) rfl (Nat.le_of_ble_eq_true rfl) rfl ?_
            refine r_aln rfl rfl rfl ?_
            refine r_gR H rfl kd_6_27 (fun r43 H => ?_)
            refine r_iln rfl rfl rfl ?_
            refine r_il rfl rfl ?_
            refine r_aln rfl rfl rfl ?_
            refine r_gR H rfl kd_6_27 (fun r44 H => ?_)
            refine r_iln rfl rfl rfl ?_
            refine r_aI' H rfl (fun t45 H => ?_)
            refine r_cmp H rfl rfl (fun H => ?_) (fun H => ?_)
            · refine r_aln rfl rfl rfl ?_
              refine r_gR H rfl kd_6_27 (fun r46 H => ?_)
              refine r_iln rfl rfl rfl ?_
              refine r_aI' H rfl (fun t47 H => ?_)
              refine r_sI H rfl (fun H => ?_)
              refine r_inc (v := 1) (L' := [some (.ref a0), some (.int s3), some (.int t8), some (.int (s34 + (1 : Int32))), some (.int s41)]) rfl rfl ci_1 rfl ?_
              refine r_go rfl ?_
              have q := K35 _ _ H
              exact q _
            · refine r_il rfl rfl ?_
              refine r_go rfl ?_
              refine r_sI H rfl (fun H => ?_)
              refine r_inc (v := 1) (L' := [some (.ref a0), some (.int s3), some (.int t8), some (.int (s34 + (1 : Int32))), some (.int s41)]) rfl rfl ci_1 rfl ?_
              refine r_go rfl ?_
              have q := K35 _ _ H
              exact q _
          · refine r_if H rfl rfl (fun H => ?_) (fun H => ?_)
            · refine r_aln rfl rfl rfl ?_
              refine r_gR H rfl kd_6_3 (fun r48 H => ?_)
              refine r_iln rfl rfl rfl ?_
              refine r_aI' H rfl (fun t49 H => ?_)
              refine r_aln rfl rfl rfl ?_
              refine r_gR H rfl kd_6_24 (fun r50 H => ?_)
              refine r_iln rfl rfl rfl ?_
              refine r_aI' H rfl (fun t51 H => ?_)
              refine r_stI (rest := []) H rfl rfl (s_X7_far t49 t51) rfl rfl ⟨rfl, rfl⟩ rfl (fun t52 h53 H => ?_)
              refine r_aln rfl rfl rfl ?_
              refine r_gR H rfl kd_6_27 (fun r54 H => ?_)
              refine r_iln rfl rfl rfl ?_
              refine r_ic (v := 1) rfl ci_1 ?_
              refine r_iln rfl rfl rfl ?_
              refine r_shl rfl ?_
              refine r_or rfl ?_
              refine r_aI' H rfl (fun t55 H => ?_)
              refine r_add rfl ?_
              have q := K42 _ _ H
              exact q
            · refine r_lc (v := 1000000000) rfl cn_1000000000 ?_
              refine r_go rfl ?_
              have q := K42 _ _ H
              exact q
def f_X7_photoOf (a0 : Nat) (a1 : Int32) (a2 : Int32) : M Int32 := loopK NF (fun (s1 : Int32) k2 => bnd (f_X7_has a2 s1) fun t3 => if ¬ t3 = (0 : Int32) then k2 (s1 + (1 : Int32)) else bnd (gR 6 3 a0) fun r5 => bnd (aI r5 a1) fun t6 => bnd (gR 6 24 a0) fun r7 => bnd (aI r7 s1) fun t8 => bnd (f_X7_far t6 t8) fun t9 => bnd (gR 6 27 a0) fun r11 => bnd (aI r11 (a2 ||| ((1 : Int32) <<< (s1 &&& (31 : Int32))))) fun t12 => bnd (gR 6 27 a0) fun r13 => bnd (aI r13 a2) fun t14 => if (t9 + t12) = t14 then rt s1 else k2 (s1 + (1 : Int32))) (0 : Int32)
set_option maxRecDepth 20000 in
theorem s_X7_photoOf (a0 : Nat) (a1 : Int32) (a2 : Int32) : Sm eX7_photoOf [.ref a0, .int a1, .int a2] eI (f_X7_photoOf a0 a1 a2) := by
  intro hp vr hr H
  unfold f_X7_photoOf at H
  show Rn none 0 0 eX7_photoOf 0 [some (.ref a0), some (.int a1), some (.int a2), none] [] hp (eI vr, hr)
  refine r_ic (v := 0) rfl ci_0 ?_
  refine r_isn (L' := [some (.ref a0), some (.int a1), some (.int a2), some (.int (0 : Int32))]) rfl rfl (Nat.le_of_ble_eq_true rfl) rfl ?_
  refine (r_loop (P := (fun (s1 : Int32) hq => Rn none 0 0 eX7_photoOf 2 [some (.ref a0), some (.int a1), some (.int a2), some (.int s1)] [] hq (eI vr, hr))) ?_ NF _ _ H)
  intro k2 K2 s1 hs1 H 
  refine r_iln rfl rfl rfl ?_
  refine r_iln rfl rfl rfl ?_
  refine r_stI (rest := []) H rfl rfl (s_X7_has a2 s1) rfl rfl ⟨rfl, rfl⟩ rfl (fun t3 h4 H => ?_)
  refine r_if H rfl rfl (fun H => ?_) (fun H => ?_)
  · refine r_inc (v := 1) (L' := [some (.ref a0), some (.int a1), some (.int a2), some (.int (s1 + (1 : Int32)))]) rfl rfl ci_1 rfl ?_
    refine r_go rfl ?_
    have q := K2 _ _ H
    exact q
  · refine r_aln rfl rfl rfl ?_
    refine r_gR H rfl kd_6_3 (fun r5 H => ?_)
    refine r_iln rfl rfl rfl ?_
    refine r_aI' H rfl (fun t6 H => ?_)
    refine r_aln rfl rfl rfl ?_
    refine r_gR H rfl kd_6_24 (fun r7 H => ?_)
    refine r_iln rfl rfl rfl ?_
    refine r_aI' H rfl (fun t8 H => ?_)
    refine r_stI (rest := []) H rfl rfl (s_X7_far t6 t8) rfl rfl ⟨rfl, rfl⟩ rfl (fun t9 h10 H => ?_)
    refine r_aln rfl rfl rfl ?_
    refine r_gR H rfl kd_6_27 (fun r11 H => ?_)
    refine r_iln rfl rfl rfl ?_
    refine r_ic (v := 1) rfl ci_1 ?_
    refine r_iln rfl rfl rfl ?_
    refine r_shl rfl ?_
    refine r_or rfl ?_
    refine r_aI' H rfl (fun t12 H => ?_)
    refine r_add rfl ?_
    refine r_aln rfl rfl rfl ?_
    refine r_gR H rfl kd_6_27 (fun r13 H => ?_)
    refine r_iln rfl rfl rfl ?_
    refine r_aI' H rfl (fun t14 H => ?_)
    refine r_cmp H rfl rfl (fun H => ?_) (fun H => ?_)
    · refine r_iln rfl rfl rfl ?_
      exact r_reti H rfl rfl ⟨Nat.zero_le _, Nat.zero_le _⟩
    · refine r_inc (v := 1) (L' := [some (.ref a0), some (.int a1), some (.int a2), some (.int (s1 + (1 : Int32)))]) rfl rfl ci_1 rfl ?_
      refine r_go rfl ?_
      have q := K2 _ _ H
      exact q
def f_X7_photos (a0 : Nat) (a1 : Int32) : M Int32 := jn (fun k2 => if (-1 : Int32) ≤ a1 then bnd (gI 6 25 a0) fun t16 => bnd (gI 6 8 a0) fun t17 => if t16 = t17 then k2 (0 : Int32) else k2 (-3 : Int32) else k2 (-4 : Int32)) (fun (s1 : Int32) => if s1 = (0 : Int32) then bnd (cv 6 a0 (f_X7_findPhotos a0)) fun _ => if (0 : Int32) ≤ a1 then bnd (gI 6 8 a0) fun t5 => if a1 < t5 then loopK NF (fun (s6 : Int32 × Int32) k7 => if a1 ≤ s6.2 then bnd (cv 6 a0 (f_X7_photoOf a0 a1 s6.1)) fun t8 => rt t8 else bnd (cv 6 a0 (f_X7_photoOf a0 s6.2 s6.1)) fun t10 => k7 ((s6.1 ||| ((1 : Int32) <<< (t10 &&& (31 : Int32)))), (s6.2 + (1 : Int32)))) ((0 : Int32), (0 : Int32)) else rt (-9 : Int32) else bnd (gR 6 27 a0) fun r12 => bnd (aI r12 (0 : Int32)) fun t13 => rt t13 else bnd (cv 6 a0 (f_X7_no a0 s1)) fun t14 => rt t14)
set_option maxRecDepth 20000 in
theorem s_X7_photos (a0 : Nat) (a1 : Int32) : Sm eX7_photos [.ref a0, .int a1] eI (f_X7_photos a0 a1) := by
  intro hp vr hr H
  unfold f_X7_photos at H
  show Rn none 0 0 eX7_photos 0 [some (.ref a0), some (.int a1), none, none, none] [] hp (eI vr, hr)
  refine r_iln rfl rfl rfl ?_
  refine r_ic (v := -1) rfl ci_m1 ?_
  refine r_jn (P := (fun (s1 : Int32) hq => Rn none 0 0 eX7_photos 13 [some (.ref a0), some (.int a1), none, none, none] [.int s1] hq (eI vr, hr))) H (fun s1 hs1 H  => ?_) (fun k2 K2 H => ?_)
  · refine r_isn (L' := [some (.ref a0), some (.int a1), some (.int s1), none, none]) rfl rfl (Nat.le_of_ble_eq_true rfl) rfl ?_
    refine r_iln rfl rfl rfl ?_
    refine r_if H rfl rfl (fun H => ?_) (fun H => ?_)
    · refine r_aln rfl rfl rfl ?_
      refine r_vtU (rest := []) H rfl rfl rfl (s_X7_findPhotos a0) rfl rfl ⟨rfl, rfl⟩ rfl (fun t3 h4 H => ?_)
      refine r_iln rfl rfl rfl ?_
      refine r_if H rfl rfl (fun H => ?_) (fun H => ?_)
      · refine r_iln rfl rfl rfl ?_
        refine r_aln rfl rfl rfl ?_
        refine r_gI' H rfl kl_6_8 (fun t5 H => ?_)
        refine r_cmp H rfl rfl (fun H => ?_) (fun H => ?_)
        · refine r_ic (v := 0) rfl ci_0 ?_
          refine r_isn (L' := [some (.ref a0), some (.int a1), some (.int s1), some (.int (0 : Int32)), none]) rfl rfl (Nat.le_of_ble_eq_true rfl) rfl ?_
          refine r_ic (v := 0) rfl ci_0 ?_
          refine r_is (L' := [some (.ref a0), some (.int a1), some (.int s1), some (.int (0 : Int32)), some (.int (0 : Int32))]) rfl (Nat.le_of_ble_eq_true rfl) rfl ?_
          refine (r_loop (P := (fun (s6 : Int32 × Int32) hq => ∀ ys6_0 : Int32, ∀ ys6_1 : Int32, s6 = (ys6_0, ys6_1) → Rn none 0 0 eX7_photos 39 [some (.ref a0), some (.int a1), some (.int s1), some (.int ys6_0), some (.int ys6_1)] [] hq (eI vr, hr))) ?_ NF _ _ H) _ _ rfl
          intro k7 K7 s6 hs6 H ys6_0 ys6_1 es6 
          subst es6
          refine r_il rfl rfl ?_
          refine r_iln rfl rfl rfl ?_
          refine r_cmp H rfl rfl (fun H => ?_) (fun H => ?_)
          · refine r_aln rfl rfl rfl ?_
            refine r_iln rfl rfl rfl ?_
            refine r_iln rfl rfl rfl ?_
            refine r_vtI (rest := []) H rfl rfl rfl (s_X7_photoOf a0 a1 ys6_0) rfl rfl ⟨rfl, rfl⟩ rfl (fun t8 h9 H => ?_)
            exact r_reti H rfl rfl ⟨Nat.zero_le _, Nat.zero_le _⟩
          · refine r_iln rfl rfl rfl ?_
            refine r_ic (v := 1) rfl ci_1 ?_
            refine r_aln rfl rfl rfl ?_
            refine r_il rfl rfl ?_
            refine r_iln rfl rfl rfl ?_
            refine r_vtI (rest := [.int (1 : Int32), .int ys6_0]) H rfl rfl rfl (s_X7_photoOf a0 ys6_1 ys6_0) rfl rfl ⟨rfl, rfl⟩ rfl (fun t10 h11 H => ?_)
            refine r_shl rfl ?_
            refine r_or rfl ?_
            refine r_isn (L' := [some (.ref a0), some (.int a1), some (.int s1), some (.int (ys6_0 ||| ((1 : Int32) <<< (t10 &&& (31 : Int32))))), some (.int ys6_1)]) rfl rfl (Nat.le_of_ble_eq_true rfl) rfl ?_
            refine r_inc (v := 1) (L' := [some (.ref a0), some (.int a1), some (.int s1), some (.int (ys6_0 ||| ((1 : Int32) <<< (t10 &&& (31 : Int32))))), some (.int (ys6_1 + (1 : Int32)))]) rfl rfl ci_1 rfl ?_
            refine r_go rfl ?_
            have q := K7 _ _ H _ _ rfl
            exact q
        · refine r_bi (v := -9) rfl cb_m9 ?_
          exact r_reti H rfl rfl ⟨Nat.zero_le _, Nat.zero_le _⟩
      · refine r_aln rfl rfl rfl ?_
        refine r_gR H rfl kd_6_27 (fun r12 H => ?_)
        refine r_ic (v := 0) rfl ci_0 ?_
        refine r_aI' H rfl (fun t13 H => ?_)
        exact r_reti H rfl rfl ⟨Nat.zero_le _, Nat.zero_le _⟩
    · refine r_aln rfl rfl rfl ?_
      refine r_iln rfl rfl rfl ?_
      refine r_vtI (rest := []) H rfl rfl rfl (s_X7_no a0 s1) rfl rfl ⟨rfl, rfl⟩ rfl (fun t14 h15 H => ?_)
      exact r_reti H rfl rfl ⟨Nat.zero_le _, Nat.zero_le _⟩
  · refine r_cmp H rfl rfl (fun H => ?_) (fun H => ?_)
    · refine r_aln rfl rfl rfl ?_
      refine r_gI' H rfl kl_6_25 (fun t16 H => ?_)
      refine r_aln rfl rfl rfl ?_
      refine r_gI' H rfl kl_6_8 (fun t17 H => ?_)
      refine r_cmp H rfl rfl (fun H => ?_) (fun H => ?_)
      · refine r_ic (v := 0) rfl ci_0 ?_
        have q := K2 _ _ H
        exact q
      · refine r_bi (v := -3) rfl cb_m3 ?_
        refine r_go rfl ?_
        have q := K2 _ _ H
        exact q
    · refine r_bi (v := -4) rfl cb_m4 ?_
      refine r_go rfl ?_
      have q := K2 _ _ H
      exact q
def f_X7_glanceOf (a0 : Int32) : M Int32 := if ¬ a0 = (0 : Int32) then if ¬ a0 = (1 : Int32) then if ¬ a0 = (2 : Int32) then rt (7 : Int32) else rt (3 : Int32) else rt (1 : Int32) else rt (0 : Int32)
set_option maxRecDepth 20000 in
theorem s_X7_glanceOf (a0 : Int32) : Sm eX7_glanceOf [.int a0] eI (f_X7_glanceOf a0) := by
  intro hp vr hr H
  unfold f_X7_glanceOf at H
  show Rn none 0 0 eX7_glanceOf 0 [some (.int a0)] [] hp (eI vr, hr)
  refine r_iln rfl rfl rfl ?_
  refine r_if H rfl rfl (fun H => ?_) (fun H => ?_)
  · refine r_iln rfl rfl rfl ?_
    refine r_ic (v := 1) rfl ci_1 ?_
    refine r_cmp H rfl rfl (fun H => ?_) (fun H => ?_)
    · refine r_iln rfl rfl rfl ?_
      refine r_ic (v := 2) rfl ci_2 ?_
      refine r_cmp H rfl rfl (fun H => ?_) (fun H => ?_)
      · refine r_bi (v := 7) rfl cb_7 ?_
        exact r_reti H rfl rfl ⟨Nat.zero_le _, Nat.zero_le _⟩
      · refine r_ic (v := 3) rfl ci_3 ?_
        refine r_go rfl ?_
        exact r_reti H rfl rfl ⟨Nat.zero_le _, Nat.zero_le _⟩
    · refine r_ic (v := 1) rfl ci_1 ?_
      refine r_go rfl ?_
      exact r_reti H rfl rfl ⟨Nat.zero_le _, Nat.zero_le _⟩
  · refine r_ic (v := 0) rfl ci_0 ?_
    refine r_go rfl ?_
    exact r_reti H rfl rfl ⟨Nat.zero_le _, Nat.zero_le _⟩
def f_X7_findWays (a0 : Nat) (a1 : Int32) (a2 : Int32) : M Unit := loopK NF (fun (s1 : Int32) k2 => if (8 : Int32) ≤ s1 then loopK NF (fun (s3 : Int32) k4 => if (8 : Int32) ≤ s3 then rt () else loopK NF (fun (s9 : Int32) k10 => if (64 : Int32) ≤ s9 then k4 (s3 + (1 : Int32)) else bnd (divM s9 (8 : Int32)) fun t14 => bnd (remM s9 (8 : Int32)) fun t15 => bnd (gR 6 28 a0) fun r16 => bnd (aI r16 t14) fun t17 => jn (fun k19 => if a2 = (0 : Int32) then bnd (gR 6 7 a0) fun r29 => bnd (aI r29 t15) fun t30 => bnd (f_X7_glanceOf t30) fun t31 => k19 ((1000 : Int32) * t31) else k19 (0 : Int32)) (fun (s18 : Int32) => bnd (gR 6 6 a0) fun r20 => bnd (aI r20 t14) fun t21 => bnd (f_X7_has t21 t15) fun t22 => if t22 = (0 : Int32) then k10 (s9 + (1 : Int32)) else bnd (gR 6 28 a0) fun r24 => bnd (aI r24 t14) fun t25 => if (1000000000 : Int32) ≤ t25 then k10 (s9 + (1 : Int32)) else bnd (gR 6 28 a0) fun r26 => bnd (aI r26 t15) fun t27 => if t27 ≤ ((t17 + (1 : Int32)) + s18) then k10 (s9 + (1 : Int32)) else bnd (gR 6 28 a0) fun r28 => bnd (sI r28 t15 ((t17 + (1 : Int32)) + s18)) fun _ => k10 (s9 + (1 : Int32)))) (0 : Int32)) (0 : Int32) else bnd (gR 6 28 a0) fun r33 => if ¬ s1 = a1 then bnd (sI r33 s1 (1000000000 : Int32)) fun _ => k2 (s1 + (1 : Int32)) else if a2 = (0 : Int32) then bnd (gR 6 7 a0) fun r34 => bnd (aI r34 s1) fun t35 => bnd (f_X7_glanceOf t35) fun t36 => bnd (sI r33 s1 ((1000 : Int32) * t36)) fun _ => k2 (s1 + (1 : Int32)) else bnd (sI r33 s1 (0 : Int32)) fun _ => k2 (s1 + (1 : Int32))) (0 : Int32)
set_option maxRecDepth 20000 in
theorem s_X7_findWays (a0 : Nat) (a1 : Int32) (a2 : Int32) : Sm eX7_findWays [.ref a0, .int a1, .int a2] eU (f_X7_findWays a0 a1 a2) := by
  intro hp vr hr H
  unfold f_X7_findWays at H
  show Rn none 0 0 eX7_findWays 0 [some (.ref a0), some (.int a1), some (.int a2), none, none, none, none, none] [] hp (eU vr, hr)
  refine r_ic (v := 0) rfl ci_0 ?_
  refine r_isn (L' := [some (.ref a0), some (.int a1), some (.int a2), some (.int (0 : Int32)), none, none, none, none]) rfl rfl (Nat.le_of_ble_eq_true rfl) rfl ?_
  refine (r_loop (P := (fun (s1 : Int32) hq => Rn none 0 0 eX7_findWays 2 [some (.ref a0), some (.int a1), some (.int a2), some (.int s1), none, none, none, none] [] hq (eU vr, hr))) ?_ NF _ _ H)
  intro k2 K2 s1 hs1 H 
  refine r_iln rfl rfl rfl ?_
  refine r_bi (v := 8) rfl cb_8 ?_
  refine r_cmp H rfl rfl (fun H => ?_) (fun H => ?_)
  · refine r_ic (v := 0) rfl ci_0 ?_
    refine r_isn (L' := [some (.ref a0), some (.int a1), some (.int a2), some (.int (0 : Int32)), none, none, none, none]) rfl rfl (Nat.le_of_ble_eq_true rfl) rfl ?_
    refine (r_loop (P := (fun (s3 : Int32) hq => ∀ x5 : Option Value, ∀ x6 : Option Value, ∀ x7 : Option Value, ∀ x8 : Option Value, Rn none 0 0 eX7_findWays 29 [some (.ref a0), some (.int a1), some (.int a2), some (.int s3), x5, x6, x7, x8] [] hq (eU vr, hr))) ?_ NF _ _ H) _ _ _ _
    intro k4 K4 s3 hs3 H x5 x6 x7 x8
    refine r_iln rfl rfl rfl ?_
    refine r_bi (v := 8) rfl cb_8 ?_
    refine r_cmp H rfl rfl (fun H => ?_) (fun H => ?_)
    · exact r_retv H rfl rfl ⟨Nat.zero_le _, Nat.zero_le _⟩
    · refine r_ic (v := 0) rfl ci_0 ?_
      refine r_is (L' := [some (.ref a0), some (.int a1), some (.int a2), some (.int s3), some (.int (0 : Int32)), x6, x7, x8]) rfl (Nat.le_of_ble_eq_true rfl) rfl ?_
      refine (r_loop (P := (fun (s9 : Int32) hq => ∀ x11 : Option Value, ∀ x12 : Option Value, ∀ x13 : Option Value, Rn none 0 0 eX7_findWays 34 [some (.ref a0), some (.int a1), some (.int a2), some (.int s3), some (.int s9), x11, x12, x13] [] hq (eU vr, hr))) ?_ NF _ _ H) _ _ _
      intro k10 K10 s9 hs9 H x11 x12 x13
      refine r_il rfl rfl ?_
      refine r_bi (v := 64) rfl cb_64 ?_
      refine r_cmp H rfl rfl (fun H => ?_) (fun H => ?_)
      · refine r_inc (v := 1) (L' := [some (.ref a0), some (.int a1), some (.int a2), some (.int (s3 + (1 : Int32))), some (.int s9), x11, x12, x13]) rfl rfl ci_1 rfl ?_
        refine r_go rfl ?_
        have q := K4 _ _ H
        exact q _ _ _ _
      · refine r_il rfl rfl ?_
        refine r_bi (v := 8) rfl cb_8 ?_
        refine r_div H rfl (fun H => ?_)
        refine r_is (L' := [some (.ref a0), some (.int a1), some (.int a2), some (.int s3), some (.int s9), some (.int (s9 / (8 : Int32))), x12, x13]) rfl (Nat.le_of_ble_eq_true rfl) rfl ?_
        refine r_il rfl rfl ?_
        refine r_bi (v := 8) rfl cb_8 ?_
        refine r_rem H rfl (fun H => ?_)
        refine r_is (L' := [some (.ref a0), some (.int a1), some (.int a2), some (.int s3), some (.int s9), some (.int (s9 / (8 : Int32))), some (.int (s9 - s9 / (8 : Int32) * (8 : Int32))), x13]) rfl (Nat.le_of_ble_eq_true rfl) rfl ?_
        refine r_aln rfl rfl rfl ?_
        refine r_gR H rfl kd_6_28 (fun r16 H => ?_)
        refine r_il rfl rfl ?_
        refine r_aI' H rfl (fun t17 H => ?_)
        refine r_ic (v := 1) rfl ci_1 ?_
        refine r_add rfl ?_
        refine r_iln rfl rfl rfl ?_
        refine r_jn (P := (fun (s18 : Int32) hq => Rn none 0 0 eX7_findWays 62 [some (.ref a0), some (.int a1), some (.int a2), some (.int s3), some (.int s9), some (.int (s9 / (8 : Int32))), some (.int (s9 - s9 / (8 : Int32) * (8 : Int32))), x13] [.int s18, .int (t17 + (1 : Int32))] hq (eU vr, hr))) H (fun s18 hs18 H  => ?_) (fun k19 K19 H => ?_)
        · refine r_add rfl ?_
          refine r_is (L' := [some (.ref a0), some (.int a1), some (.int a2), some (.int s3), some (.int s9), some (.int (s9 / (8 : Int32))), some (.int (s9 - s9 / (8 : Int32) * (8 : Int32))), some (.int ((t17 + (1 : Int32)) + s18))]) rfl (Nat.le_of_ble_eq_true rfl) rfl ?_
          refine r_aln rfl rfl rfl ?_
          refine r_gR H rfl kd_6_6 (fun r20 H => ?_)
          refine r_il rfl rfl ?_
          refine r_aI' H rfl (fun t21 H => ?_)
          refine r_il rfl rfl ?_
          refine r_stI (rest := []) H rfl rfl (s_X7_has t21 (s9 - s9 / (8 : Int32) * (8 : Int32))) rfl rfl ⟨rfl, rfl⟩ rfl (fun t22 h23 H => ?_)
          refine r_if H rfl rfl (fun H => ?_) (fun H => ?_)
          · refine r_inc (v := 1) (L' := [some (.ref a0), some (.int a1), some (.int a2), some (.int s3), some (.int (s9 + (1 : Int32))), some (.int (s9 / (8 : Int32))), some (.int (s9 - s9 / (8 : Int32) * (8 : Int32))), some (.int ((t17 + (1 : Int32)) + s18))]) rfl rfl ci_1 rfl ?_
            refine r_go rfl ?_
            have q := K10 _ _ H
            exact q _ _ _
          · refine r_aln rfl rfl rfl ?_
            refine r_gR H rfl kd_6_28 (fun r24 H => ?_)
            refine r_il rfl rfl ?_
            refine r_aI' H rfl (fun t25 H => ?_)
            refine r_lc (v := 1000000000) rfl cn_1000000000 ?_
            refine r_cmp H rfl rfl (fun H => ?_) (fun H => ?_)
            · refine r_inc (v := 1) (L' := [some (.ref a0), some (.int a1), some (.int a2), some (.int s3), some (.int (s9 + (1 : Int32))), some (.int (s9 / (8 : Int32))), some (.int (s9 - s9 / (8 : Int32) * (8 : Int32))), some (.int ((t17 + (1 : Int32)) + s18))]) rfl rfl ci_1 rfl ?_
              refine r_go rfl ?_
              have q := K10 _ _ H
              exact q _ _ _
            · refine r_il rfl rfl ?_
              refine r_aln rfl rfl rfl ?_
              refine r_gR H rfl kd_6_28 (fun r26 H => ?_)
              refine r_il rfl rfl ?_
              refine r_aI' H rfl (fun t27 H => ?_)
              refine r_cmp H rfl rfl (fun H => ?_) (fun H => ?_)
              · refine r_inc (v := 1) (L' := [some (.ref a0), some (.int a1), some (.int a2), some (.int s3), some (.int (s9 + (1 : Int32))), some (.int (s9 / (8 : Int32))), some (.int (s9 - s9 / (8 : Int32) * (8 : Int32))), some (.int ((t17 + (1 : Int32)) + s18))]) rfl rfl ci_1 rfl ?_
                refine r_go rfl ?_
                have q := K10 _ _ H
                exact q _ _ _
              · refine r_aln rfl rfl rfl ?_
                refine r_gR H rfl kd_6_28 (fun r28 H => ?_)
                refine r_il rfl rfl ?_
                refine r_il rfl rfl ?_
                refine r_sI H rfl (fun H => ?_)
                refine r_inc (v := 1) (L' := [some (.ref a0), some (.int a1), some (.int a2), some (.int s3), some (.int (s9 + (1 : Int32))), some (.int (s9 / (8 : Int32))), some (.int (s9 - s9 / (8 : Int32) * (8 : Int32))), some (.int ((t17 + (1 : Int32)) + s18))]) rfl rfl ci_1 rfl ?_
                refine r_go rfl ?_
                have q := K10 _ _ H
                exact q _ _ _
        · refine r_if H rfl rfl (fun H => ?_) (fun H => ?_)
          · refine r_si (v := 1000) rfl cs_1000 ?_
            refine r_aln rfl rfl rfl ?_
            refine r_gR H rfl kd_6_7 (fun r29 H => ?_)
            refine r_il rfl rfl ?_
            refine r_aI' H rfl (fun t30 H => ?_)
            refine r_stI (rest := [.int (1000 : Int32), .int (t17 + (1 : Int32))]) H rfl rfl (s_X7_glanceOf t30) rfl rfl ⟨rfl, rfl⟩ rfl (fun t31 h32 H => ?_)
            refine r_mul rfl ?_
            have q := K19 _ _ H
            exact q
          · refine r_ic (v := 0) rfl ci_0 ?_
            refine r_go rfl ?_
            have q := K19 _ _ H
            exact q
  · refine r_aln rfl rfl rfl ?_
    refine r_gR H rfl kd_6_28 (fun r33 H => ?_)
    refine r_iln rfl rfl rfl ?_
    refine r_iln rfl rfl rfl ?_
    refine r_iln rfl rfl rfl ?_
    refine r_cmp H rfl rfl (fun H => ?_) (fun H => ?_)
    · refine r_lc (v := 1000000000) rfl cn_1000000000 ?_
      refine r_sI H rfl (fun H => ?_)
      refine r_inc (v := 1) (L' := [some (.ref a0), some (.int a1), some (.int a2), some (.int (s1 + (1 : Int32))), none, none, none, none]) rfl rfl ci_1 rfl ?_
      refine r_go rfl ?_
      have q := K2 _ _ H
      exact q
    · refine r_iln rfl rfl rfl ?_
      refine r_if H rfl rfl (fun H => ?_) (fun H => ?_)
      · refine r_si (v := 1000) rfl cs_1000 ?_
        refine r_aln rfl rfl rfl ?_
        refine r_gR H rfl kd_6_7 (fun r34 H => ?_)
        refine r_iln rfl rfl rfl ?_
        refine r_aI' H rfl (fun t35 H => ?_)
        refine r_stI (rest := [.int (1000 : Int32), .int s1, .ref r33]) H rfl rfl (s_X7_glanceOf t35) rfl rfl ⟨rfl, rfl⟩ rfl (fun t36 h37 H => ?_)
        refine r_mul rfl ?_
        refine r_go rfl ?_
        refine r_sI H rfl (fun H => ?_)
        refine r_inc (v := 1) (L' := [some (.ref a0), some (.int a1), some (.int a2), some (.int (s1 + (1 : Int32))), none, none, none, none]) rfl rfl ci_1 rfl ?_
        refine r_go rfl ?_
        have q := K2 _ _ H
        exact q
      · refine r_ic (v := 0) rfl ci_0 ?_
        refine r_go rfl ?_
        refine r_sI H rfl (fun H => ?_)
        refine r_inc (v := 1) (L' := [some (.ref a0), some (.int a1), some (.int a2), some (.int (s1 + (1 : Int32))), none, none, none, none]) rfl rfl ci_1 rfl ?_
        refine r_go rfl ?_
        have q := K2 _ _ H
        exact q
def f_X7_steps (a0 : Nat) (a1 : Int32) (a2 : Int32) : M Int32 := bnd (f_X7_isPlace a1) fun t1 => jn (fun k4 => if t1 = (0 : Int32) then k4 () else bnd (f_X7_isPlace a2) fun t7 => if ¬ t7 = (0 : Int32) then bnd (cv 6 a0 (f_X7_findWays a0 a1 (1 : Int32))) fun _ => bnd (gR 6 28 a0) fun r11 => bnd (aI r11 a2) fun t12 => if ¬ t12 = (1000000000 : Int32) then bnd (gR 6 28 a0) fun r13 => bnd (aI r13 a2) fun t14 => rt t14 else rt (-9 : Int32) else k4 ()) (fun (s3 : Unit) => bnd (cv 6 a0 (f_X7_no a0 (-1 : Int32))) fun t5 => rt t5)
set_option maxRecDepth 20000 in
theorem s_X7_steps (a0 : Nat) (a1 : Int32) (a2 : Int32) : Sm eX7_steps [.ref a0, .int a1, .int a2] eI (f_X7_steps a0 a1 a2) := by
  intro hp vr hr H
  unfold f_X7_steps at H
  show Rn none 0 0 eX7_steps 0 [some (.ref a0), some (.int a1), some (.int a2)] [] hp (eI vr, hr)
  refine r_iln rfl rfl rfl ?_
  refine r_stI (rest := []) H rfl rfl (s_X7_isPlace a1) rfl rfl ⟨rfl, rfl⟩ rfl (fun t1 h2 H => ?_)
  refine r_jn (P := (fun (s3 : Unit) hq => Rn none 0 0 eX7_steps 6 [some (.ref a0), some (.int a1), some (.int a2)] [] hq (eI vr, hr))) H (fun s3 hs3 H  => ?_) (fun k4 K4 H => ?_)
  · refine r_aln rfl rfl rfl ?_
    refine r_ic (v := -1) rfl ci_m1 ?_
    refine r_vtI (rest := []) H rfl rfl rfl (s_X7_no a0 (-1 : Int32)) rfl rfl ⟨rfl, rfl⟩ rfl (fun t5 h6 H => ?_)
    exact r_reti H rfl rfl ⟨Nat.zero_le _, Nat.zero_le _⟩
  · refine r_if H rfl rfl (fun H => ?_) (fun H => ?_)
    · have q := K4 _ _ H
      exact q
    · refine r_iln rfl rfl rfl ?_
      refine r_stI (rest := []) H rfl rfl (s_X7_isPlace a2) rfl rfl ⟨rfl, rfl⟩ rfl (fun t7 h8 H => ?_)
      refine r_if H rfl rfl (fun H => ?_) (fun H => ?_)
      · refine r_aln rfl rfl rfl ?_
        refine r_iln rfl rfl rfl ?_
        refine r_ic (v := 1) rfl ci_1 ?_
        refine r_vtU (rest := []) H rfl rfl rfl (s_X7_findWays a0 a1 (1 : Int32)) rfl rfl ⟨rfl, rfl⟩ rfl (fun t9 h10 H => ?_)
        refine r_aln rfl rfl rfl ?_
        refine r_gR H rfl kd_6_28 (fun r11 H => ?_)
        refine r_iln rfl rfl rfl ?_
        refine r_aI' H rfl (fun t12 H => ?_)
        refine r_lc (v := 1000000000) rfl cn_1000000000 ?_
        refine r_cmp H rfl rfl (fun H => ?_) (fun H => ?_)
        · refine r_aln rfl rfl rfl ?_
          refine r_gR H rfl kd_6_28 (fun r13 H => ?_)
          refine r_iln rfl rfl rfl ?_
          refine r_aI' H rfl (fun t14 H => ?_)
          exact r_reti H rfl rfl ⟨Nat.zero_le _, Nat.zero_le _⟩
        · refine r_bi (v := -9) rfl cb_m9 ?_
          refine r_go rfl ?_
          exact r_reti H rfl rfl ⟨Nat.zero_le _, Nat.zero_le _⟩
      · have q := K4 _ _ H
        exact q
def f_X7_glances (a0 : Nat) (a1 : Int32) (a2 : Int32) (a3 : Int32) : M Int32 := bnd (f_X7_isPlace a1) fun t1 => jn (fun k4 => if t1 = (0 : Int32) then k4 (-1 : Int32) else bnd (f_X7_isPlace a2) fun t17 => if ¬ t17 = (0 : Int32) then bnd (f_X7_isIn a3 (0 : Int32) (1 : Int32)) fun t19 => if ¬ t19 = (0 : Int32) then k4 (0 : Int32) else k4 (-2 : Int32) else k4 (-1 : Int32)) (fun (s3 : Int32) => if s3 = (0 : Int32) then bnd (cv 6 a0 (f_X7_findWays a0 a1 (0 : Int32))) fun _ => bnd (gR 6 28 a0) fun r7 => bnd (aI r7 a2) fun t8 => if ¬ t8 = (1000000000 : Int32) then if ¬ a3 = (0 : Int32) then bnd (gR 6 28 a0) fun r9 => bnd (aI r9 a2) fun t10 => bnd (remM t10 (1000 : Int32)) fun t11 => rt t11 else bnd (gR 6 28 a0) fun r12 => bnd (aI r12 a2) fun t13 => bnd (divM t13 (1000 : Int32)) fun t14 => rt t14 else rt (-9 : Int32) else bnd (cv 6 a0 (f_X7_no a0 s3)) fun t15 => rt t15)
set_option maxRecDepth 20000 in
theorem s_X7_glances (a0 : Nat) (a1 : Int32) (a2 : Int32) (a3 : Int32) : Sm eX7_glances [.ref a0, .int a1, .int a2, .int a3] eI (f_X7_glances a0 a1 a2 a3) := by
  intro hp vr hr H
  unfold f_X7_glances at H
  show Rn none 0 0 eX7_glances 0 [some (.ref a0), some (.int a1), some (.int a2), some (.int a3), none] [] hp (eI vr, hr)
  refine r_iln rfl rfl rfl ?_
  refine r_stI (rest := []) H rfl rfl (s_X7_isPlace a1) rfl rfl ⟨rfl, rfl⟩ rfl (fun t1 h2 H => ?_)
  refine r_jn (P := (fun (s3 : Int32) hq => Rn none 0 0 eX7_glances 16 [some (.ref a0), some (.int a1), some (.int a2), some (.int a3), none] [.int s3] hq (eI vr, hr))) H (fun s3 hs3 H  => ?_) (fun k4 K4 H => ?_)
  · refine r_is (L' := [some (.ref a0), some (.int a1), some (.int a2), some (.int a3), some (.int s3)]) rfl (Nat.le_of_ble_eq_true rfl) rfl ?_
    refine r_il rfl rfl ?_
    refine r_if H rfl rfl (fun H => ?_) (fun H => ?_)
    · refine r_aln rfl rfl rfl ?_
      refine r_iln rfl rfl rfl ?_
      refine r_ic (v := 0) rfl ci_0 ?_
      refine r_vtU (rest := []) H rfl rfl rfl (s_X7_findWays a0 a1 (0 : Int32)) rfl rfl ⟨rfl, rfl⟩ rfl (fun t5 h6 H => ?_)
      refine r_aln rfl rfl rfl ?_
      refine r_gR H rfl kd_6_28 (fun r7 H => ?_)
      refine r_iln rfl rfl rfl ?_
      refine r_aI' H rfl (fun t8 H => ?_)
      refine r_lc (v := 1000000000) rfl cn_1000000000 ?_
      refine r_cmp H rfl rfl (fun H => ?_) (fun H => ?_)
      · refine r_iln rfl rfl rfl ?_
        refine r_if H rfl rfl (fun H => ?_) (fun H => ?_)
        · refine r_aln rfl rfl rfl ?_
          refine r_gR H rfl kd_6_28 (fun r9 H => ?_)
          refine r_iln rfl rfl rfl ?_
          refine r_aI' H rfl (fun t10 H => ?_)
          refine r_si (v := 1000) rfl cs_1000 ?_
          refine r_rem H rfl (fun H => ?_)
          exact r_reti H rfl rfl ⟨Nat.zero_le _, Nat.zero_le _⟩
        · refine r_aln rfl rfl rfl ?_
          refine r_gR H rfl kd_6_28 (fun r12 H => ?_)
          refine r_iln rfl rfl rfl ?_
          refine r_aI' H rfl (fun t13 H => ?_)
          refine r_si (v := 1000) rfl cs_1000 ?_
          refine r_div H rfl (fun H => ?_)
          refine r_go rfl ?_
          exact r_reti H rfl rfl ⟨Nat.zero_le _, Nat.zero_le _⟩
      · refine r_bi (v := -9) rfl cb_m9 ?_
        refine r_go rfl ?_
        exact r_reti H rfl rfl ⟨Nat.zero_le _, Nat.zero_le _⟩
    · refine r_aln rfl rfl rfl ?_
      refine r_il rfl rfl ?_
      refine r_vtI (rest := []) H rfl rfl rfl (s_X7_no a0 s3) rfl rfl ⟨rfl, rfl⟩ rfl (fun t15 h16 H => ?_)
      exact r_reti H rfl rfl ⟨Nat.zero_le _, Nat.zero_le _⟩
  · refine r_if H rfl rfl (fun H => ?_) (fun H => ?_)
    · refine r_ic (v := -1) rfl ci_m1 ?_
      refine r_go rfl ?_
      have q := K4 _ _ H
      exact q
    · refine r_iln rfl rfl rfl ?_
      refine r_stI (rest := []) H rfl rfl (s_X7_isPlace a2) rfl rfl ⟨rfl, rfl⟩ rfl (fun t17 h18 H => ?_)
      refine r_if H rfl rfl (fun H => ?_) (fun H => ?_)
      · refine r_iln rfl rfl rfl ?_
        refine r_ic (v := 0) rfl ci_0 ?_
        refine r_ic (v := 1) rfl ci_1 ?_
        refine r_stI (rest := []) H rfl rfl (s_X7_isIn a3 (0 : Int32) (1 : Int32)) rfl rfl ⟨rfl, rfl⟩ rfl (fun t19 h20 H => ?_)
        refine r_if H rfl rfl (fun H => ?_) (fun H => ?_)
        · refine r_ic (v := 0) rfl ci_0 ?_
          have q := K4 _ _ H
          exact q
        · refine r_bi (v := -2) rfl cb_m2 ?_
          refine r_go rfl ?_
          have q := K4 _ _ H
          exact q
      · refine r_ic (v := -1) rfl ci_m1 ?_
        refine r_go rfl ?_
        have q := K4 _ _ H
        exact q
def f_X7_unseen (a0 : Nat) (a1 : Int32) : M Int32 := bnd (f_X7_isPlace a1) fun t1 => if ¬ t1 = (0 : Int32) then loopK NF (fun (s3 : Int32 × Int32) k4 => if (8 : Int32) ≤ s3.2 then rt s3.1 else loopK NF (fun (s6 : Int32 × Int32) k7 => if (64 : Int32) ≤ s6.2 then k4 (s6.1, (s3.2 + (1 : Int32))) else bnd (divM s6.2 (8 : Int32)) fun t8 => bnd (f_X7_has s6.1 t8) fun t9 => if t9 = (0 : Int32) then k7 ((s6.1 ||| (0 : Int32)), (s6.2 + (1 : Int32))) else bnd (gR 6 6 a0) fun r11 => bnd (divM s6.2 (8 : Int32)) fun t12 => bnd (aI r11 t12) fun t13 => bnd (remM s6.2 (8 : Int32)) fun t14 => bnd (f_X7_has t13 t14) fun t15 => if t15 = (0 : Int32) then k7 ((s6.1 ||| (0 : Int32)), (s6.2 + (1 : Int32))) else bnd (gR 6 7 a0) fun r17 => bnd (remM s6.2 (8 : Int32)) fun t18 => bnd (aI r17 t18) fun t19 => if ¬ t19 = (0 : Int32) then k7 ((s6.1 ||| (0 : Int32)), (s6.2 + (1 : Int32))) else bnd (remM s6.2 (8 : Int32)) fun t20 => k7 ((s6.1 ||| ((1 : Int32) <<< (t20 &&& (31 : Int32)))), (s6.2 + (1 : Int32)))) (s3.1, (0 : Int32))) (((1 : Int32) <<< (a1 &&& (31 : Int32))), (0 : Int32)) else bnd (cv 6 a0 (f_X7_no a0 (-1 : Int32))) fun t21 => rt t21
set_option maxRecDepth 20000 in
theorem s_X7_unseen (a0 : Nat) (a1 : Int32) : Sm eX7_unseen [.ref a0, .int a1] eI (f_X7_unseen a0 a1) := by
  intro hp vr hr H
  unfold f_X7_unseen at H
  show Rn none 0 0 eX7_unseen 0 [some (.ref a0), some (.int a1), none, none, none] [] hp (eI vr, hr)
  refine r_iln rfl rfl rfl ?_
  refine r_stI (rest := []) H rfl rfl (s_X7_isPlace a1) rfl rfl ⟨rfl, rfl⟩ rfl (fun t1 h2 H => ?_)
  refine r_if H rfl rfl (fun H => ?_) (fun H => ?_)
  · refine r_ic (v := 1) rfl ci_1 ?_
    refine r_iln rfl rfl rfl ?_
    refine r_shl rfl ?_
    refine r_isn (L' := [some (.ref a0), some (.int a1), some (.int ((1 : Int32) <<< (a1 &&& (31 : Int32)))), none, none]) rfl rfl (Nat.le_of_ble_eq_true rfl) rfl ?_
    refine r_ic (v := 0) rfl ci_0 ?_
    refine r_isn (L' := [some (.ref a0), some (.int a1), some (.int ((1 : Int32) <<< (a1 &&& (31 : Int32)))), some (.int (0 : Int32)), none]) rfl rfl (Nat.le_of_ble_eq_true rfl) rfl ?_
    refine (r_loop (P := (fun (s3 : Int32 × Int32) hq => ∀ ys3_0 : Int32, ∀ ys3_1 : Int32, s3 = (ys3_0, ys3_1) → ∀ x5 : Option Value, Rn none 0 0 eX7_unseen 13 [some (.ref a0), some (.int a1), some (.int ys3_0), some (.int ys3_1), x5] [] hq (eI vr, hr))) ?_ NF _ _ H) _ _ rfl _
    intro k4 K4 s3 hs3 H ys3_0 ys3_1 es3 x5
    subst es3
    refine r_iln rfl rfl rfl ?_
    refine r_bi (v := 8) rfl cb_8 ?_
    refine r_cmp H rfl rfl (fun H => ?_) (fun H => ?_)
    · refine r_iln rfl rfl rfl ?_
      exact r_reti H rfl rfl ⟨Nat.zero_le _, Nat.zero_le _⟩
    · refine r_ic (v := 0) rfl ci_0 ?_
      refine r_is (L' := [some (.ref a0), some (.int a1), some (.int ys3_0), some (.int ys3_1), some (.int (0 : Int32))]) rfl (Nat.le_of_ble_eq_true rfl) rfl ?_
      refine (r_loop (P := (fun (s6 : Int32 × Int32) hq => ∀ ys6_0 : Int32, ∀ ys6_1 : Int32, s6 = (ys6_0, ys6_1) → Rn none 0 0 eX7_unseen 18 [some (.ref a0), some (.int a1), some (.int ys6_0), some (.int ys3_1), some (.int ys6_1)] [] hq (eI vr, hr))) ?_ NF _ _ H) _ _ rfl
      intro k7 K7 s6 hs6 H ys6_0 ys6_1 es6 
      subst es6
      refine r_il rfl rfl ?_
      refine r_bi (v := 64) rfl cb_64 ?_
      refine r_cmp H rfl rfl (fun H => ?_) (fun H => ?_)
      · refine r_inc (v := 1) (L' := [some (.ref a0), some (.int a1), some (.int ys6_0), some (.int (ys3_1 + (1 : Int32))), some (.int ys6_1)]) rfl rfl ci_1 rfl ?_
        refine r_go rfl ?_
        have q := K4 _ _ H _ _ rfl
        exact q _
      · refine r_iln rfl rfl rfl ?_
        refine r_iln rfl rfl rfl ?_
        refine r_il rfl rfl ?_
        refine r_bi (v := 8) rfl cb_8 ?_
        refine r_div H rfl (fun H => ?_)
        refine r_stI (rest := [.int ys6_0]) H rfl rfl (s_X7_has ys6_0 (ys6_1 / (8 : Int32))) rfl rfl ⟨rfl, rfl⟩ rfl (fun t9 h10 H => ?_)
        refine r_if H rfl rfl (fun H => ?_) (fun H => ?_)
        · refine r_ic (v := 0) rfl ci_0 ?_
          refine r_or rfl ?_
          refine r_isn (L' := [some (.ref a0), some (.int a1), some (.int (ys6_0 ||| (0 : Int32))), some (.int ys3_1), some (.int ys6_1)]) rfl rfl (Nat.le_of_ble_eq_true rfl) rfl ?_
          refine r_inc (v := 1) (L' := [some (.ref a0), some (.int a1), some (.int (ys6_0 ||| (0 : Int32))), some (.int ys3_1), some (.int (ys6_1 + (1 : Int32)))]) rfl rfl ci_1 rfl ?_
          refine r_go rfl ?_
          have q := K7 _ _ H _ _ rfl
          exact q
        · refine r_aln rfl rfl rfl ?_
          refine r_gR H rfl kd_6_6 (fun r11 H => ?_)
          refine r_il rfl rfl ?_
          refine r_bi (v := 8) rfl cb_8 ?_
          refine r_div H rfl (fun H => ?_)
          refine r_aI' H rfl (fun t13 H => ?_)
          refine r_il rfl rfl ?_
          refine r_bi (v := 8) rfl cb_8 ?_
          refine r_rem H rfl (fun H => ?_)
          refine r_stI (rest := [.int ys6_0]) H rfl rfl (s_X7_has t13 (ys6_1 - ys6_1 / (8 : Int32) * (8 : Int32))) rfl rfl ⟨rfl, rfl⟩ rfl (fun t15 h16 H => ?_)
          refine r_if H rfl rfl (fun H => ?_) (fun H => ?_)
          · refine r_ic (v := 0) rfl ci_0 ?_
            refine r_or rfl ?_
            refine r_isn (L' := [some (.ref a0), some (.int a1), some (.int (ys6_0 ||| (0 : Int32))), some (.int ys3_1), some (.int ys6_1)]) rfl rfl (Nat.le_of_ble_eq_true rfl) rfl ?_
            refine r_inc (v := 1) (L' := [some (.ref a0), some (.int a1), some (.int (ys6_0 ||| (0 : Int32))), some (.int ys3_1), some (.int (ys6_1 + (1 : Int32)))]) rfl rfl ci_1 rfl ?_
            refine r_go rfl ?_
            have q := K7 _ _ H _ _ rfl
            exact q
          · refine r_aln rfl rfl rfl ?_
            refine r_gR H rfl kd_6_7 (fun r17 H => ?_)
            refine r_il rfl rfl ?_
            refine r_bi (v := 8) rfl cb_8 ?_
            refine r_rem H rfl (fun H => ?_)
            refine r_aI' H rfl (fun t19 H => ?_)
            refine r_if H rfl rfl (fun H => ?_) (fun H => ?_)
            · refine r_ic (v := 0) rfl ci_0 ?_
              refine r_or rfl ?_
              refine r_isn (L' := [some (.ref a0), some (.int a1), some (.int (ys6_0 ||| (0 : Int32))), some (.int ys3_1), some (.int ys6_1)]) rfl rfl (Nat.le_of_ble_eq_true rfl) rfl ?_
              refine r_inc (v := 1) (L' := [some (.ref a0), some (.int a1), some (.int (ys6_0 ||| (0 : Int32))), some (.int ys3_1), some (.int (ys6_1 + (1 : Int32)))]) rfl rfl ci_1 rfl ?_
              refine r_go rfl ?_
              have q := K7 _ _ H _ _ rfl
              exact q
            · refine r_ic (v := 1) rfl ci_1 ?_
              refine r_il rfl rfl ?_
              refine r_bi (v := 8) rfl cb_8 ?_
              refine r_rem H rfl (fun H => ?_)
              refine r_shl rfl ?_
              refine r_go rfl ?_
              refine r_or rfl ?_
              refine r_isn (L' := [some (.ref a0), some (.int a1), some (.int (ys6_0 ||| ((1 : Int32) <<< ((ys6_1 - ys6_1 / (8 : Int32) * (8 : Int32)) &&& (31 : Int32))))), some (.int ys3_1), some (.int ys6_1)]) rfl rfl (Nat.le_of_ble_eq_true rfl) rfl ?_
              refine r_inc (v := 1) (L' := [some (.ref a0), some (.int a1), some (.int (ys6_0 ||| ((1 : Int32) <<< ((ys6_1 - ys6_1 / (8 : Int32) * (8 : Int32)) &&& (31 : Int32))))), some (.int ys3_1), some (.int (ys6_1 + (1 : Int32)))]) rfl rfl ci_1 rfl ?_
              refine r_go rfl ?_
              have q := K7 _ _ H _ _ rfl
              exact q
  · refine r_aln rfl rfl rfl ?_
    refine r_ic (v := -1) rfl ci_m1 ?_
    refine r_vtI (rest := []) H rfl rfl rfl (s_X7_no a0 (-1 : Int32)) rfl rfl ⟨rfl, rfl⟩ rfl (fun t21 h22 H => ?_)
    exact r_reti H rfl rfl ⟨Nat.zero_le _, Nat.zero_le _⟩
def f_X7_cover (a0 : Nat) (a1 : Int32) (a2 : Int32) : M Int32 := bnd (f_X7_isPlace a1) fun t1 => jn (fun k4 => if t1 = (0 : Int32) then k4 () else bnd (f_X7_isPlace a2) fun t7 => if ¬ t7 = (0 : Int32) then bnd (cv 6 a0 (f_X7_findWays a0 a1 (0 : Int32))) fun _ => bnd (gR 6 28 a0) fun r11 => bnd (aI r11 a2) fun t12 => bnd (divM t12 (1000 : Int32)) fun t13 => loopK NF (fun (s14 : Int32 × Int32 × Int32) k15 => if (8 : Int32) ≤ s14.2.2 then rt s14.2.1 else bnd (gR 6 28 a0) fun r17 => bnd (aI r17 a2) fun t18 => if (1000000000 : Int32) ≤ t18 then rt s14.2.1 else bnd (gR 6 7 a0) fun r19 => bnd (aI r19 s14.2.2) fun t20 => bnd (gR 6 7 a0) fun r21 => bnd (sI r21 s14.2.2 (0 : Int32)) fun _ => bnd (cv 6 a0 (f_X7_findWays a0 a1 (0 : Int32))) fun _ => bnd (gR 6 7 a0) fun r24 => bnd (sI r24 s14.2.2 t20) fun _ => bnd (gR 6 28 a0) fun r25 => bnd (aI r25 a2) fun t26 => bnd (divM t26 (1000 : Int32)) fun t27 => if t27 < s14.1 then bnd (gR 6 28 a0) fun r28 => bnd (aI r28 a2) fun t29 => bnd (divM t29 (1000 : Int32)) fun t30 => k15 (t30, s14.2.2, (s14.2.2 + (1 : Int32))) else k15 (s14.1, s14.2.1, (s14.2.2 + (1 : Int32)))) (t13, (-9 : Int32), (0 : Int32)) else k4 ()) (fun (s3 : Unit) => bnd (cv 6 a0 (f_X7_no a0 (-1 : Int32))) fun t5 => rt t5)
set_option maxRecDepth 20000 in
theorem s_X7_cover (a0 : Nat) (a1 : Int32) (a2 : Int32) : Sm eX7_cover [.ref a0, .int a1, .int a2] eI (f_X7_cover a0 a1 a2) := by
  intro hp vr hr H
  unfold f_X7_cover at H
  show Rn none 0 0 eX7_cover 0 [some (.ref a0), some (.int a1), some (.int a2), none, none, none, none] [] hp (eI vr, hr)
  refine r_iln rfl rfl rfl ?_
  refine r_stI (rest := []) H rfl rfl (s_X7_isPlace a1) rfl rfl ⟨rfl, rfl⟩ rfl (fun t1 h2 H => ?_)
  refine r_jn (P := (fun (s3 : Unit) hq => Rn none 0 0 eX7_cover 6 [some (.ref a0), some (.int a1), some (.int a2), none, none, none, none] [] hq (eI vr, hr))) H (fun s3 hs3 H  => ?_) (fun k4 K4 H => ?_)
  · refine r_aln rfl rfl rfl ?_
    refine r_ic (v := -1) rfl ci_m1 ?_
    refine r_vtI (rest := []) H rfl rfl rfl (s_X7_no a0 (-1 : Int32)) rfl rfl ⟨rfl, rfl⟩ rfl (fun t5 h6 H => ?_)
    exact r_reti H rfl rfl ⟨Nat.zero_le _, Nat.zero_le _⟩
  · refine r_if H rfl rfl (fun H => ?_) (fun H => ?_)
    · have q := K4 _ _ H
      exact q
    · refine r_iln rfl rfl rfl ?_
      refine r_stI (rest := []) H rfl rfl (s_X7_isPlace a2) rfl rfl ⟨rfl, rfl⟩ rfl (fun t7 h8 H => ?_)
      refine r_if H rfl rfl (fun H => ?_) (fun H => ?_)
      · refine r_aln rfl rfl rfl ?_
        refine r_iln rfl rfl rfl ?_
        refine r_ic (v := 0) rfl ci_0 ?_
        refine r_vtU (rest := []) H rfl rfl rfl (s_X7_findWays a0 a1 (0 : Int32)) rfl rfl ⟨rfl, rfl⟩ rfl (fun t9 h10 H => ?_)
        refine r_aln rfl rfl rfl ?_
        refine r_gR H rfl kd_6_28 (fun r11 H => ?_)
        refine r_iln rfl rfl rfl ?_
        refine r_aI' H rfl (fun t12 H => ?_)
        refine r_si (v := 1000) rfl cs_1000 ?_
        refine r_div H rfl (fun H => ?_)
        refine r_isn (L' := [some (.ref a0), some (.int a1), some (.int a2), some (.int (t12 / (1000 : Int32))), none, none, none]) rfl rfl (Nat.le_of_ble_eq_true rfl) rfl ?_
        refine r_bi (v := -9) rfl cb_m9 ?_
        refine r_is (L' := [some (.ref a0), some (.int a1), some (.int a2), some (.int (t12 / (1000 : Int32))), some (.int (-9 : Int32)), none, none]) rfl (Nat.le_of_ble_eq_true rfl) rfl ?_
        refine r_ic (v := 0) rfl ci_0 ?_
        refine r_is (L' := [some (.ref a0), some (.int a1), some (.int a2), some (.int (t12 / (1000 : Int32))), some (.int (-9 : Int32)), some (.int (0 : Int32)), none]) rfl (Nat.le_of_ble_eq_true rfl) rfl ?_
        refine (r_loop (P := (fun (s14 : Int32 × Int32 × Int32) hq => ∀ ys14_0 : Int32, ∀ ys14_1 : Int32, ∀ ys14_2 : Int32, s14 = (ys14_0, ys14_1, ys14_2) → ∀ x16 : Option Value, Rn none 0 0 eX7_cover 25 [some (.ref a0), some (.int a1), some (.int a2), some (.int ys14_0), some (.int ys14_1), some (.int ys14_2), x16] [] hq (eI vr, hr))) ?_ NF _ _ H) _ _ _ rfl _
        intro k15 K15 s14 hs14 H ys14_0 ys14_1 ys14_2 es14 x16
        subst es14
        refine r_il rfl rfl ?_
        refine r_bi (v := 8) rfl cb_8 ?_
        refine r_cmp H rfl rfl (fun H => ?_) (fun H => ?_)
        · refine r_il rfl rfl ?_
          exact r_reti H rfl rfl ⟨Nat.zero_le _, Nat.zero_le _⟩
        · refine r_aln rfl rfl rfl ?_
          refine r_gR H rfl kd_6_28 (fun r17 H => ?_)
          refine r_iln rfl rfl rfl ?_
          refine r_aI' H rfl (fun t18 H => ?_)
          refine r_lc (v := 1000000000) rfl cn_1000000000 ?_
          refine r_cmp H rfl rfl (fun H => ?_) (fun H => ?_)
          · refine r_il rfl rfl ?_
            exact r_reti H rfl rfl ⟨Nat.zero_le _, Nat.zero_le _⟩
          · refine r_aln rfl rfl rfl ?_
            refine r_gR H rfl kd_6_7 (fun r19 H => ?_)
            refine r_il rfl rfl ?_
            refine r_aI' H rfl (fun t20 H => ?_)
            refine r_is (L' := [some (.ref a0), some (.int a1), some (.int a2), some (.int ys14_0), some (.int ys14_1), some (.int ys14_2), some (.int t20)]) rfl (Nat.le_of_ble_eq_true rfl) rfl ?_
            refine r_aln rfl rfl rfl ?_
            refine r_gR H rfl kd_6_7 (fun r21 H => ?_)
            refine r_il rfl rfl ?_
            refine r_ic (v := 0) rfl ci_0 ?_
            refine r_sI H rfl (fun H => ?_)
            refine r_aln rfl rfl rfl ?_
            refine r_iln rfl rfl rfl ?_
            refine r_ic (v := 0) rfl ci_0 ?_
            refine r_vtU (rest := []) H rfl rfl rfl (s_X7_findWays a0 a1 (0 : Int32)) rfl rfl ⟨rfl, rfl⟩ rfl (fun t22 h23 H => ?_)
            refine r_aln rfl rfl rfl ?_
            refine r_gR H rfl kd_6_7 (fun r24 H => ?_)
            refine r_il rfl rfl ?_
            refine r_il rfl rfl ?_
            refine r_sI H rfl (fun H => ?_)
            refine r_aln rfl rfl rfl ?_
            refine r_gR H rfl kd_6_28 (fun r25 H => ?_)
            refine r_iln rfl rfl rfl ?_
            refine r_aI' H rfl (fun t26 H => ?_)
            refine r_si (v := 1000) rfl cs_1000 ?_
            refine r_div H rfl (fun H => ?_)
            refine r_iln rfl rfl rfl ?_
            refine r_cmp H rfl rfl (fun H => ?_) (fun H => ?_)
            · refine r_il rfl rfl ?_
              refine r_is (L' := [some (.ref a0), some (.int a1), some (.int a2), some (.int ys14_0), some (.int ys14_2), some (.int ys14_2), some (.int t20)]) rfl (Nat.le_of_ble_eq_true rfl) rfl ?_
              refine r_aln rfl rfl rfl ?_
              refine r_gR H rfl kd_6_28 (fun r28 H => ?_)
              refine r_iln rfl rfl rfl ?_
              refine r_aI' H rfl (fun t29 H => ?_)
              refine r_si (v := 1000) rfl cs_1000 ?_
              refine r_div H rfl (fun H => ?_)
              refine r_isn (L' := [some (.ref a0), some (.int a1), some (.int a2), some (.int (t29 / (1000 : Int32))), some (.int ys14_2), some (.int ys14_2), some (.int t20)]) rfl rfl (Nat.le_of_ble_eq_true rfl) rfl ?_
              refine r_inc (v := 1) (L' := [some (.ref a0), some (.int a1), some (.int a2), some (.int (t29 / (1000 : Int32))), some (.int ys14_2), some (.int (ys14_2 + (1 : Int32))), some (.int t20)]) rfl rfl ci_1 rfl ?_
              refine r_go rfl ?_
              have q := K15 _ _ H _ _ _ rfl
              exact q _
            · refine r_go rfl ?_
              refine r_inc (v := 1) (L' := [some (.ref a0), some (.int a1), some (.int a2), some (.int ys14_0), some (.int ys14_1), some (.int (ys14_2 + (1 : Int32))), some (.int t20)]) rfl rfl ci_1 rfl ?_
              refine r_go rfl ?_
              have q := K15 _ _ H _ _ _ rfl
              exact q _
      · have q := K4 _ _ H
        exact q
def f_X7_hoursIn (a0 : Int32) (a1 : Int32) : M Int32 := if (0 : Int32) ≤ ((100 : Int32) - (a1 * (a0 - (1 : Int32)))) then rt ((100 : Int32) - (a1 * (a0 - (1 : Int32)))) else rt (0 : Int32)
set_option maxRecDepth 20000 in
theorem s_X7_hoursIn (a0 : Int32) (a1 : Int32) : Sm eX7_hoursIn [.int a0, .int a1] eI (f_X7_hoursIn a0 a1) := by
  intro hp vr hr H
  unfold f_X7_hoursIn at H
  show Rn none 0 0 eX7_hoursIn 0 [some (.int a0), some (.int a1)] [] hp (eI vr, hr)
  refine r_bi (v := 100) rfl cb_100 ?_
  refine r_iln rfl rfl rfl ?_
  refine r_iln rfl rfl rfl ?_
  refine r_ic (v := 1) rfl ci_1 ?_
  refine r_sub rfl ?_
  refine r_mul rfl ?_
  refine r_sub rfl ?_
  refine r_if H rfl rfl (fun H => ?_) (fun H => ?_)
  · refine r_bi (v := 100) rfl cb_100 ?_
    refine r_iln rfl rfl rfl ?_
    refine r_iln rfl rfl rfl ?_
    refine r_ic (v := 1) rfl ci_1 ?_
    refine r_sub rfl ?_
    refine r_mul rfl ?_
    refine r_sub rfl ?_
    exact r_reti H rfl rfl ⟨Nat.zero_le _, Nat.zero_le _⟩
  · refine r_ic (v := 0) rfl ci_0 ?_
    refine r_go rfl ?_
    exact r_reti H rfl rfl ⟨Nat.zero_le _, Nat.zero_le _⟩
def f_X7_townHas (a0 : Int32) (a1 : Int32) : M Int32 := loopK NF (fun (s1 : Int32 × Int32) k2 => if s1.2 ≤ (0 : Int32) then rt s1.1 else bnd (f_X7_hoursIn s1.2 a1) fun t3 => k2 ((t3 - s1.1), (s1.2 + (-1 : Int32)))) ((0 : Int32), a0)
set_option maxRecDepth 20000 in
theorem s_X7_townHas (a0 : Int32) (a1 : Int32) : Sm eX7_townHas [.int a0, .int a1] eI (f_X7_townHas a0 a1) := by
  intro hp vr hr H
  unfold f_X7_townHas at H
  show Rn none 0 0 eX7_townHas 0 [some (.int a0), some (.int a1), none, none] [] hp (eI vr, hr)
  refine r_ic (v := 0) rfl ci_0 ?_
  refine r_isn (L' := [some (.int a0), some (.int a1), some (.int (0 : Int32)), none]) rfl rfl (Nat.le_of_ble_eq_true rfl) rfl ?_
  refine r_iln rfl rfl rfl ?_
  refine r_isn (L' := [some (.int a0), some (.int a1), some (.int (0 : Int32)), some (.int a0)]) rfl rfl (Nat.le_of_ble_eq_true rfl) rfl ?_
  refine (r_loop (P := (fun (s1 : Int32 × Int32) hq => ∀ ys1_0 : Int32, ∀ ys1_1 : Int32, s1 = (ys1_0, ys1_1) → Rn none 0 0 eX7_townHas 4 [some (.int a0), some (.int a1), some (.int ys1_0), some (.int ys1_1)] [] hq (eI vr, hr))) ?_ NF _ _ H) _ _ rfl
  intro k2 K2 s1 hs1 H ys1_0 ys1_1 es1 
  subst es1
  refine r_iln rfl rfl rfl ?_
  refine r_if H rfl rfl (fun H => ?_) (fun H => ?_)
  · refine r_iln rfl rfl rfl ?_
    exact r_reti H rfl rfl ⟨Nat.zero_le _, Nat.zero_le _⟩
  · refine r_iln rfl rfl rfl ?_
    refine r_iln rfl rfl rfl ?_
    refine r_stI (rest := []) H rfl rfl (s_X7_hoursIn ys1_1 a1) rfl rfl ⟨rfl, rfl⟩ rfl (fun t3 h4 H => ?_)
    refine r_iln rfl rfl rfl ?_
    refine r_sub rfl ?_
    refine r_isn (L' := [some (.int a0), some (.int a1), some (.int (t3 - ys1_0)), some (.int ys1_1)]) rfl rfl (Nat.le_of_ble_eq_true rfl) rfl ?_
    refine r_inc (v := -1) (L' := [some (.int a0), some (.int a1), some (.int (t3 - ys1_0)), some (.int (ys1_1 + (-1 : Int32)))]) rfl rfl ci_m1 rfl ?_
    refine r_go rfl ?_
    have q := K2 _ _ H _ _ rfl
    exact q
def f_X7_bargain (a0 : Nat) (a1 : Int32) (a2 : Int32) : M Int32 := jn (fun k2 => if a1 < (1 : Int32) then k2 (-4 : Int32) else if (0 : Int32) ≤ a2 then if (20 : Int32) < a1 then k2 (-6 : Int32) else if a2 ≤ (50 : Int32) then k2 (0 : Int32) else k2 (-6 : Int32) else k2 (-4 : Int32)) (fun (s1 : Int32) => if s1 = (0 : Int32) then bnd (f_X7_townHas a1 a2) fun t3 => rt t3 else bnd (cv 6 a0 (f_X7_no a0 s1)) fun t5 => rt t5)
set_option maxRecDepth 20000 in
theorem s_X7_bargain (a0 : Nat) (a1 : Int32) (a2 : Int32) : Sm eX7_bargain [.ref a0, .int a1, .int a2] eI (f_X7_bargain a0 a1 a2) := by
  intro hp vr hr H
  unfold f_X7_bargain at H
  show Rn none 0 0 eX7_bargain 0 [some (.ref a0), some (.int a1), some (.int a2), none] [] hp (eI vr, hr)
  refine r_iln rfl rfl rfl ?_
  refine r_ic (v := 1) rfl ci_1 ?_
  refine r_jn (P := (fun (s1 : Int32) hq => Rn none 0 0 eX7_bargain 16 [some (.ref a0), some (.int a1), some (.int a2), none] [.int s1] hq (eI vr, hr))) H (fun s1 hs1 H  => ?_) (fun k2 K2 H => ?_)
  · refine r_isn (L' := [some (.ref a0), some (.int a1), some (.int a2), some (.int s1)]) rfl rfl (Nat.le_of_ble_eq_true rfl) rfl ?_
    refine r_iln rfl rfl rfl ?_
    refine r_if H rfl rfl (fun H => ?_) (fun H => ?_)
    · refine r_iln rfl rfl rfl ?_
      refine r_iln rfl rfl rfl ?_
      refine r_stI (rest := []) H rfl rfl (s_X7_townHas a1 a2) rfl rfl ⟨rfl, rfl⟩ rfl (fun t3 h4 H => ?_)
      exact r_reti H rfl rfl ⟨Nat.zero_le _, Nat.zero_le _⟩
    · refine r_aln rfl rfl rfl ?_
      refine r_iln rfl rfl rfl ?_
      refine r_vtI (rest := []) H rfl rfl rfl (s_X7_no a0 s1) rfl rfl ⟨rfl, rfl⟩ rfl (fun t5 h6 H => ?_)
      refine r_go rfl ?_
      exact r_reti H rfl rfl ⟨Nat.zero_le _, Nat.zero_le _⟩
  · refine r_cmp H rfl rfl (fun H => ?_) (fun H => ?_)
    · refine r_bi (v := -4) rfl cb_m4 ?_
      refine r_go rfl ?_
      have q := K2 _ _ H
      exact q
    · refine r_iln rfl rfl rfl ?_
      refine r_if H rfl rfl (fun H => ?_) (fun H => ?_)
      · refine r_iln rfl rfl rfl ?_
        refine r_bi (v := 20) rfl cb_20 ?_
        refine r_cmp H rfl rfl (fun H => ?_) (fun H => ?_)
        · refine r_bi (v := -6) rfl cb_m6 ?_
          refine r_go rfl ?_
          have q := K2 _ _ H
          exact q
        · refine r_iln rfl rfl rfl ?_
          refine r_bi (v := 50) rfl cb_50 ?_
          refine r_cmp H rfl rfl (fun H => ?_) (fun H => ?_)
          · refine r_ic (v := 0) rfl ci_0 ?_
            have q := K2 _ _ H
            exact q
          · refine r_bi (v := -6) rfl cb_m6 ?_
            refine r_go rfl ?_
            have q := K2 _ _ H
            exact q
      · refine r_bi (v := -4) rfl cb_m4 ?_
        refine r_go rfl ?_
        have q := K2 _ _ H
        exact q
def f_X7_strike (a0 : Nat) (a1 : Int32) : M Int32 := bnd (f_X7_bound a1 (0 : Int32) (50 : Int32)) fun t1 => if t1 = (0 : Int32) then loopK NF (fun (s3 : Int32 × Int32) k4 => if (21 : Int32) ≤ s3.2 then rt s3.1 else bnd (f_X7_townHas s3.2 a1) fun t5 => bnd (f_X7_townHas s3.1 a1) fun t7 => if t5 ≤ t7 then k4 (s3.1, (s3.2 + (1 : Int32))) else k4 (s3.2, (s3.2 + (1 : Int32)))) ((1 : Int32), (2 : Int32)) else bnd (cv 6 a0 (f_X7_no a0 t1)) fun t9 => rt t9
set_option maxRecDepth 20000 in
theorem s_X7_strike (a0 : Nat) (a1 : Int32) : Sm eX7_strike [.ref a0, .int a1] eI (f_X7_strike a0 a1) := by
  intro hp vr hr H
  unfold f_X7_strike at H
  show Rn none 0 0 eX7_strike 0 [some (.ref a0), some (.int a1), none, none, none] [] hp (eI vr, hr)
  refine r_iln rfl rfl rfl ?_
  refine r_ic (v := 0) rfl ci_0 ?_
  refine r_bi (v := 50) rfl cb_50 ?_
  refine r_stI (rest := []) H rfl rfl (s_X7_bound a1 (0 : Int32) (50 : Int32)) rfl rfl ⟨rfl, rfl⟩ rfl (fun t1 h2 H => ?_)
  refine r_isn (L' := [some (.ref a0), some (.int a1), some (.int t1), none, none]) rfl rfl (Nat.le_of_ble_eq_true rfl) rfl ?_
  refine r_iln rfl rfl rfl ?_
  refine r_if H rfl rfl (fun H => ?_) (fun H => ?_)
  · refine r_ic (v := 1) rfl ci_1 ?_
    refine r_isn (L' := [some (.ref a0), some (.int a1), some (.int t1), some (.int (1 : Int32)), none]) rfl rfl (Nat.le_of_ble_eq_true rfl) rfl ?_
    refine r_ic (v := 2) rfl ci_2 ?_
    refine r_is (L' := [some (.ref a0), some (.int a1), some (.int t1), some (.int (1 : Int32)), some (.int (2 : Int32))]) rfl (Nat.le_of_ble_eq_true rfl) rfl ?_
    refine (r_loop (P := (fun (s3 : Int32 × Int32) hq => ∀ ys3_0 : Int32, ∀ ys3_1 : Int32, s3 = (ys3_0, ys3_1) → Rn none 0 0 eX7_strike 15 [some (.ref a0), some (.int a1), some (.int t1), some (.int ys3_0), some (.int ys3_1)] [] hq (eI vr, hr))) ?_ NF _ _ H) _ _ rfl
    intro k4 K4 s3 hs3 H ys3_0 ys3_1 es3 
    subst es3
    refine r_il rfl rfl ?_
    refine r_bi (v := 21) rfl cb_21 ?_
    refine r_cmp H rfl rfl (fun H => ?_) (fun H => ?_)
    · refine r_iln rfl rfl rfl ?_
      exact r_reti H rfl rfl ⟨Nat.zero_le _, Nat.zero_le _⟩
    · refine r_il rfl rfl ?_
      refine r_iln rfl rfl rfl ?_
      refine r_stI (rest := []) H rfl rfl (s_X7_townHas ys3_1 a1) rfl rfl ⟨rfl, rfl⟩ rfl (fun t5 h6 H => ?_)
      refine r_iln rfl rfl rfl ?_
      refine r_iln rfl rfl rfl ?_
      refine r_stI (rest := [.int t5]) H rfl rfl (s_X7_townHas ys3_0 a1) rfl rfl ⟨rfl, rfl⟩ rfl (fun t7 h8 H => ?_)
      refine r_cmp H rfl rfl (fun H => ?_) (fun H => ?_)
      · refine r_iln rfl rfl rfl ?_
        refine r_isn (L' := [some (.ref a0), some (.int a1), some (.int t1), some (.int ys3_0), some (.int ys3_1)]) rfl rfl (Nat.le_of_ble_eq_true rfl) rfl ?_
        refine r_inc (v := 1) (L' := [some (.ref a0), some (.int a1), some (.int t1), some (.int ys3_0), some (.int (ys3_1 + (1 : Int32)))]) rfl rfl ci_1 rfl ?_
        refine r_go rfl ?_
        have q := K4 _ _ H _ _ rfl
        exact q
      · refine r_il rfl rfl ?_
        refine r_go rfl ?_
        refine r_isn (L' := [some (.ref a0), some (.int a1), some (.int t1), some (.int ys3_1), some (.int ys3_1)]) rfl rfl (Nat.le_of_ble_eq_true rfl) rfl ?_
        refine r_inc (v := 1) (L' := [some (.ref a0), some (.int a1), some (.int t1), some (.int ys3_1), some (.int (ys3_1 + (1 : Int32)))]) rfl rfl ci_1 rfl ?_
        refine r_go rfl ?_
        have q := K4 _ _ H _ _ rfl
        exact q
  · refine r_aln rfl rfl rfl ?_
    refine r_iln rfl rfl rfl ?_
    refine r_vtI (rest := []) H rfl rfl rfl (s_X7_no a0 t1) rfl rfl ⟨rfl, rfl⟩ rfl (fun t9 h10 H => ?_)
    exact r_reti H rfl rfl ⟨Nat.zero_le _, Nat.zero_le _⟩
def f_X7_heardBy (a0 : Nat) (a1 : Int32) : M Int32 := bnd (gR 6 5 a0) fun r1 => bnd (aI r1 a1) fun t2 => loopK NF (fun (s3 : Int32 × Int32) k4 => if (7 : Int32) ≤ s3.2 then rt s3.1 else loopK NF (fun (s6 : Int32 × Int32) k7 => bnd (gI 6 8 a0) fun t8 => if t8 ≤ s6.2 then k4 (s6.1, (s3.2 + (1 : Int32))) else bnd (f_X7_has s6.1 s6.2) fun t9 => if t9 = (0 : Int32) then k7 ((s6.1 ||| (0 : Int32)), (s6.2 + (1 : Int32))) else bnd (gR 6 5 a0) fun r11 => bnd (aI r11 s6.2) fun t12 => k7 ((s6.1 ||| t12), (s6.2 + (1 : Int32)))) (s3.1, (0 : Int32))) (t2, (0 : Int32))
set_option maxRecDepth 20000 in
theorem s_X7_heardBy (a0 : Nat) (a1 : Int32) : Sm eX7_heardBy [.ref a0, .int a1] eI (f_X7_heardBy a0 a1) := by
  intro hp vr hr H
  unfold f_X7_heardBy at H
  show Rn none 0 0 eX7_heardBy 0 [some (.ref a0), some (.int a1), none, none, none] [] hp (eI vr, hr)
  refine r_aln rfl rfl rfl ?_
  refine r_gR H rfl kd_6_5 (fun r1 H => ?_)
  refine r_iln rfl rfl rfl ?_
  refine r_aI' H rfl (fun t2 H => ?_)
  refine r_isn (L' := [some (.ref a0), some (.int a1), some (.int t2), none, none]) rfl rfl (Nat.le_of_ble_eq_true rfl) rfl ?_
  refine r_ic (v := 0) rfl ci_0 ?_
  refine r_isn (L' := [some (.ref a0), some (.int a1), some (.int t2), some (.int (0 : Int32)), none]) rfl rfl (Nat.le_of_ble_eq_true rfl) rfl ?_
  refine (r_loop (P := (fun (s3 : Int32 × Int32) hq => ∀ ys3_0 : Int32, ∀ ys3_1 : Int32, s3 = (ys3_0, ys3_1) → ∀ x5 : Option Value, Rn none 0 0 eX7_heardBy 7 [some (.ref a0), some (.int a1), some (.int ys3_0), some (.int ys3_1), x5] [] hq (eI vr, hr))) ?_ NF _ _ H) _ _ rfl _
  intro k4 K4 s3 hs3 H ys3_0 ys3_1 es3 x5
  subst es3
  refine r_iln rfl rfl rfl ?_
  refine r_bi (v := 7) rfl cb_7 ?_
  refine r_cmp H rfl rfl (fun H => ?_) (fun H => ?_)
  · refine r_iln rfl rfl rfl ?_
    exact r_reti H rfl rfl ⟨Nat.zero_le _, Nat.zero_le _⟩
  · refine r_ic (v := 0) rfl ci_0 ?_
    refine r_is (L' := [some (.ref a0), some (.int a1), some (.int ys3_0), some (.int ys3_1), some (.int (0 : Int32))]) rfl (Nat.le_of_ble_eq_true rfl) rfl ?_
    refine (r_loop (P := (fun (s6 : Int32 × Int32) hq => ∀ ys6_0 : Int32, ∀ ys6_1 : Int32, s6 = (ys6_0, ys6_1) → Rn none 0 0 eX7_heardBy 12 [some (.ref a0), some (.int a1), some (.int ys6_0), some (.int ys3_1), some (.int ys6_1)] [] hq (eI vr, hr))) ?_ NF _ _ H) _ _ rfl
    intro k7 K7 s6 hs6 H ys6_0 ys6_1 es6 
    subst es6
    refine r_il rfl rfl ?_
    refine r_aln rfl rfl rfl ?_
    refine r_gI' H rfl kl_6_8 (fun t8 H => ?_)
    refine r_cmp H rfl rfl (fun H => ?_) (fun H => ?_)
    · refine r_inc (v := 1) (L' := [some (.ref a0), some (.int a1), some (.int ys6_0), some (.int (ys3_1 + (1 : Int32))), some (.int ys6_1)]) rfl rfl ci_1 rfl ?_
      refine r_go rfl ?_
      have q := K4 _ _ H _ _ rfl
      exact q _
    · refine r_iln rfl rfl rfl ?_
      refine r_iln rfl rfl rfl ?_
      refine r_il rfl rfl ?_
      refine r_stI (rest := [.int ys6_0]) H rfl rfl (s_X7_has ys6_0 ys6_1) rfl rfl ⟨rfl, rfl⟩ rfl (fun t9 h10 H => ?_)
      refine r_if H rfl rfl (fun H => ?_) (fun H => ?_)
      · refine r_ic (v := 0) rfl ci_0 ?_
        refine r_or rfl ?_
        refine r_isn (L' := [some (.ref a0), some (.int a1), some (.int (ys6_0 ||| (0 : Int32))), some (.int ys3_1), some (.int ys6_1)]) rfl rfl (Nat.le_of_ble_eq_true rfl) rfl ?_
        refine r_inc (v := 1) (L' := [some (.ref a0), some (.int a1), some (.int (ys6_0 ||| (0 : Int32))), some (.int ys3_1), some (.int (ys6_1 + (1 : Int32)))]) rfl rfl ci_1 rfl ?_
        refine r_go rfl ?_
        have q := K7 _ _ H _ _ rfl
        exact q
      · refine r_aln rfl rfl rfl ?_
        refine r_gR H rfl kd_6_5 (fun r11 H => ?_)
        refine r_il rfl rfl ?_
        refine r_aI' H rfl (fun t12 H => ?_)
        refine r_go rfl ?_
        refine r_or rfl ?_
        refine r_isn (L' := [some (.ref a0), some (.int a1), some (.int (ys6_0 ||| t12)), some (.int ys3_1), some (.int ys6_1)]) rfl rfl (Nat.le_of_ble_eq_true rfl) rfl ?_
        refine r_inc (v := 1) (L' := [some (.ref a0), some (.int a1), some (.int (ys6_0 ||| t12)), some (.int ys3_1), some (.int (ys6_1 + (1 : Int32)))]) rfl rfl ci_1 rfl ?_
        refine r_go rfl ?_
        have q := K7 _ _ H _ _ rfl
        exact q
def f_X7_echo (a0 : Nat) (a1 : Int32) : M Int32 := bnd (cv 6 a0 (f_X7_isPerson a0 a1)) fun t1 => if t1 = (0 : Int32) then bnd (cv 6 a0 (f_X7_no a0 (-1 : Int32))) fun t3 => rt t3 else bnd (cv 6 a0 (f_X7_heardBy a0 a1)) fun t5 => rt t5
set_option maxRecDepth 20000 in
theorem s_X7_echo (a0 : Nat) (a1 : Int32) : Sm eX7_echo [.ref a0, .int a1] eI (f_X7_echo a0 a1) := by
  intro hp vr hr H
  unfold f_X7_echo at H
  show Rn none 0 0 eX7_echo 0 [some (.ref a0), some (.int a1)] [] hp (eI vr, hr)
  refine r_aln rfl rfl rfl ?_
  refine r_iln rfl rfl rfl ?_
  refine r_vtI (rest := []) H rfl rfl rfl (s_X7_isPerson a0 a1) rfl rfl ⟨rfl, rfl⟩ rfl (fun t1 h2 H => ?_)
  refine r_if H rfl rfl (fun H => ?_) (fun H => ?_)
  · refine r_aln rfl rfl rfl ?_
    refine r_ic (v := -1) rfl ci_m1 ?_
    refine r_vtI (rest := []) H rfl rfl rfl (s_X7_no a0 (-1 : Int32)) rfl rfl ⟨rfl, rfl⟩ rfl (fun t3 h4 H => ?_)
    exact r_reti H rfl rfl ⟨Nat.zero_le _, Nat.zero_le _⟩
  · refine r_aln rfl rfl rfl ?_
    refine r_iln rfl rfl rfl ?_
    refine r_vtI (rest := []) H rfl rfl rfl (s_X7_heardBy a0 a1) rfl rfl ⟨rfl, rfl⟩ rfl (fun t5 h6 H => ?_)
    refine r_go rfl ?_
    exact r_reti H rfl rfl ⟨Nat.zero_le _, Nat.zero_le _⟩
def f_X7_loops (a0 : Nat) (a1 : Int32) : M Int32 := bnd (f_X7_isIn a1 (0 : Int32) (2 : Int32)) fun t1 => if ¬ t1 = (0 : Int32) then loopK NF (fun (s3 : Int32 × Int32 × Int32 × Int32) k4 => bnd (gI 6 8 a0) fun t5 => if t5 ≤ s3.2.2.2 then if ¬ a1 = (0 : Int32) then if ¬ a1 = (1 : Int32) then bnd (cv 6 a0 (f_X7_all a0)) fun t6 => rt (t6 &&& (s3.2.2.1 ^^^ (-1 : Int32))) else rt s3.2.1 else rt s3.1 else bnd (cv 6 a0 (f_X7_heardBy a0 s3.2.2.2)) fun t8 => bnd (f_X7_has t8 s3.2.2.2) fun t10 => jn (fun k13 => if t10 = (0 : Int32) then k13 (0 : Int32) else k13 ((1 : Int32) <<< (s3.2.2.2 &&& (31 : Int32)))) (fun (s12 : Int32) => bnd (gR 6 5 a0) fun r14 => bnd (aI r14 s3.2.2.2) fun t15 => jn (fun k17 => if ¬ t15 = (0 : Int32) then k17 (0 : Int32) else k17 ((1 : Int32) <<< (s3.2.2.2 &&& (31 : Int32)))) (fun (s16 : Int32) => bnd (gR 6 5 a0) fun r18 => bnd (aI r18 s3.2.2.2) fun t19 => k4 ((s3.1 ||| s12), (s3.2.1 ||| s16), (s3.2.2.1 ||| t19), (s3.2.2.2 + (1 : Int32)))))) ((0 : Int32), (0 : Int32), (0 : Int32), (0 : Int32)) else bnd (cv 6 a0 (f_X7_no a0 (-2 : Int32))) fun t20 => rt t20
set_option maxRecDepth 20000 in
theorem s_X7_loops (a0 : Nat) (a1 : Int32) : Sm eX7_loops [.ref a0, .int a1] eI (f_X7_loops a0 a1) := by
  intro hp vr hr H
  unfold f_X7_loops at H
  show Rn none 0 0 eX7_loops 0 [some (.ref a0), some (.int a1), none, none, none, none] [] hp (eI vr, hr)
  refine r_iln rfl rfl rfl ?_
  refine r_ic (v := 0) rfl ci_0 ?_
  refine r_ic (v := 2) rfl ci_2 ?_
  refine r_stI (rest := []) H rfl rfl (s_X7_isIn a1 (0 : Int32) (2 : Int32)) rfl rfl ⟨rfl, rfl⟩ rfl (fun t1 h2 H => ?_)
  refine r_if H rfl rfl (fun H => ?_) (fun H => ?_)
  · refine r_ic (v := 0) rfl ci_0 ?_
    refine r_isn (L' := [some (.ref a0), some (.int a1), some (.int (0 : Int32)), none, none, none]) rfl rfl (Nat.le_of_ble_eq_true rfl) rfl ?_
    refine r_ic (v := 0) rfl ci_0 ?_
    refine r_isn (L' := [some (.ref a0), some (.int a1), some (.int (0 : Int32)), some (.int (0 : Int32)), none, none]) rfl rfl (Nat.le_of_ble_eq_true rfl) rfl ?_
    refine r_ic (v := 0) rfl ci_0 ?_
    refine r_is (L' := [some (.ref a0), some (.int a1), some (.int (0 : Int32)), some (.int (0 : Int32)), some (.int (0 : Int32)), none]) rfl (Nat.le_of_ble_eq_true rfl) rfl ?_
    refine r_ic (v := 0) rfl ci_0 ?_
    refine r_is (L' := [some (.ref a0), some (.int a1), some (.int (0 : Int32)), some (.int (0 : Int32)), some (.int (0 : Int32)), some (.int (0 : Int32))]) rfl (Nat.le_of_ble_eq_true rfl) rfl ?_
    refine (r_loop (P := (fun (s3 : Int32 × Int32 × Int32 × Int32) hq => ∀ ys3_0 : Int32, ∀ ys3_1 : Int32, ∀ ys3_2 : Int32, ∀ ys3_3 : Int32, s3 = (ys3_0, ys3_1, ys3_2, ys3_3) → Rn none 0 0 eX7_loops 17 [some (.ref a0), some (.int a1), some (.int ys3_0), some (.int ys3_1), some (.int ys3_2), some (.int ys3_3)] [] hq (eI vr, hr))) ?_ NF _ _ H) _ _ _ _ rfl
    intro k4 K4 s3 hs3 H ys3_0 ys3_1 ys3_2 ys3_3 es3 
    subst es3
    refine r_il rfl rfl ?_
    refine r_aln rfl rfl rfl ?_
    refine r_gI' H rfl kl_6_8 (fun t5 H => ?_)
    refine r_cmp H rfl rfl (fun H => ?_) (fun H => ?_)
    · refine r_iln rfl rfl rfl ?_
      refine r_if H rfl rfl (fun H => ?_) (fun H => ?_)
      · refine r_iln rfl rfl rfl ?_
        refine r_ic (v := 1) rfl ci_1 ?_
        refine r_cmp H rfl rfl (fun H => ?_) (fun H => ?_)
        · refine r_aln rfl rfl rfl ?_
          refine r_vtI (rest := []) H rfl rfl rfl (s_X7_all a0) rfl rfl ⟨rfl, rfl⟩ rfl (fun t6 h7 H => ?_)
          refine r_il rfl rfl ?_
          refine r_ic (v := -1) rfl ci_m1 ?_
          refine r_xor rfl ?_
          refine r_and rfl ?_
          exact r_reti H rfl rfl ⟨Nat.zero_le _, Nat.zero_le _⟩
        · refine r_iln rfl rfl rfl ?_
          refine r_go rfl ?_
          exact r_reti H rfl rfl ⟨Nat.zero_le _, Nat.zero_le _⟩
      · refine r_iln rfl rfl rfl ?_
        refine r_go rfl ?_
        exact r_reti H rfl rfl ⟨Nat.zero_le _, Nat.zero_le _⟩
    · refine r_iln rfl rfl rfl ?_
      refine r_aln rfl rfl rfl ?_
      refine r_il rfl rfl ?_
      refine r_vtI (rest := [.int ys3_0]) H rfl rfl rfl (s_X7_heardBy a0 ys3_3) rfl rfl ⟨rfl, rfl⟩ rfl (fun t8 h9 H => ?_)
      refine r_il rfl rfl ?_
      refine r_stI (rest := [.int ys3_0]) H rfl rfl (s_X7_has t8 ys3_3) rfl rfl ⟨rfl, rfl⟩ rfl (fun t10 h11 H => ?_)
      refine r_jn (P := (fun (s12 : Int32) hq => Rn none 0 0 eX7_loops 33 [some (.ref a0), some (.int a1), some (.int ys3_0), some (.int ys3_1), some (.int ys3_2), some (.int ys3_3)] [.int s12, .int ys3_0] hq (eI vr, hr))) H (fun s12 hs12 H  => ?_) (fun k13 K13 H => ?_)
      · refine r_or rfl ?_
        refine r_isn (L' := [some (.ref a0), some (.int a1), some (.int (ys3_0 ||| s12)), some (.int ys3_1), some (.int ys3_2), some (.int ys3_3)]) rfl rfl (Nat.le_of_ble_eq_true rfl) rfl ?_
        refine r_iln rfl rfl rfl ?_
        refine r_aln rfl rfl rfl ?_
        refine r_gR H rfl kd_6_5 (fun r14 H => ?_)
        refine r_il rfl rfl ?_
        refine r_aI' H rfl (fun t15 H => ?_)
        refine r_jn (P := (fun (s16 : Int32) hq => Rn none 0 0 eX7_loops 46 [some (.ref a0), some (.int a1), some (.int (ys3_0 ||| s12)), some (.int ys3_1), some (.int ys3_2), some (.int ys3_3)] [.int s16, .int ys3_1] hq (eI vr, hr))) H (fun s16 hs16 H  => ?_) (fun k17 K17 H => ?_)
        · refine r_or rfl ?_
          refine r_isn (L' := [some (.ref a0), some (.int a1), some (.int (ys3_0 ||| s12)), some (.int (ys3_1 ||| s16)), some (.int ys3_2), some (.int ys3_3)]) rfl rfl (Nat.le_of_ble_eq_true rfl) rfl ?_
          refine r_il rfl rfl ?_
          refine r_aln rfl rfl rfl ?_
          refine r_gR H rfl kd_6_5 (fun r18 H => ?_)
          refine r_il rfl rfl ?_
          refine r_aI' H rfl (fun t19 H => ?_)
          refine r_or rfl ?_
          refine r_is (L' := [some (.ref a0), some (.int a1), some (.int (ys3_0 ||| s12)), some (.int (ys3_1 ||| s16)), some (.int (ys3_2 ||| t19)), some (.int ys3_3)]) rfl (Nat.le_of_ble_eq_true rfl) rfl ?_
          refine r_inc (v := 1) (L' := [some (.ref a0), some (.int a1), some (.int (ys3_0 ||| s12)), some (.int (ys3_1 ||| s16)), some (.int (ys3_2 ||| t19)), some (.int (ys3_3 + (1 : Int32)))]) rfl rfl ci_1 rfl ?_
          refine r_go rfl ?_
          have q := K4 _ _ H _ _ _ _ rfl
          exact q
        · refine r_if H rfl rfl (fun H => ?_) (fun H => ?_)
          · refine r_ic (v := 0) rfl ci_0 ?_
            have q := K17 _ _ H
            exact q
          · refine r_ic (v := 1) rfl ci_1 ?_
            refine r_il rfl rfl ?_
            refine r_shl rfl ?_
            refine r_go rfl ?_
            have q := K17 _ _ H
            exact q
      · refine r_if H rfl rfl (fun H => ?_) (fun H => ?_)
        · refine r_ic (v := 0) rfl ci_0 ?_
          have q := K13 _ _ H
          exact q
        · refine r_ic (v := 1) rfl ci_1 ?_
          refine r_il rfl rfl ?_
          refine r_shl rfl ?_
          refine r_go rfl ?_
          have q := K13 _ _ H
          exact q
  · refine r_aln rfl rfl rfl ?_
    refine r_bi (v := -2) rfl cb_m2 ?_
    refine r_vtI (rest := []) H rfl rfl rfl (s_X7_no a0 (-2 : Int32)) rfl rfl ⟨rfl, rfl⟩ rfl (fun t20 h21 H => ?_)
    exact r_reti H rfl rfl ⟨Nat.zero_le _, Nat.zero_le _⟩
def f_X7_humble (a0 : Nat) (a1 : Int32) : M Int32 := bnd (f_X7_notWeeks a1) fun t1 => if t1 = (0 : Int32) then bnd (cv 6 a0 (f_X7_errorBehind a0 a1)) fun t3 => loopK NF (fun (s5 : Int32 × Int32 × Int32) k6 => bnd (gI 6 8 a0) fun t9 => if t9 ≤ s5.2.2 then rt s5.2.1 else bnd (gR 6 2 a0) fun r10 => bnd (aI r10 s5.2.2) fun t11 => bnd (gR 6 2 a0) fun r12 => bnd (sI r12 s5.2.2 (0 : Int32)) fun _ => bnd (cv 6 a0 (f_X7_errorBehind a0 a1)) fun t13 => bnd (gR 6 2 a0) fun r15 => bnd (sI r15 s5.2.2 t11) fun _ => if t13 < s5.1 then k6 (t13, s5.2.2, (s5.2.2 + (1 : Int32))) else k6 (s5.1, s5.2.1, (s5.2.2 + (1 : Int32)))) (t3, (-9 : Int32), (0 : Int32)) else bnd (cv 6 a0 (f_X7_no a0 t1)) fun t16 => rt t16
set_option maxRecDepth 20000 in
theorem s_X7_humble (a0 : Nat) (a1 : Int32) : Sm eX7_humble [.ref a0, .int a1] eI (f_X7_humble a0 a1) := by
  intro hp vr hr H
  unfold f_X7_humble at H
  show Rn none 0 0 eX7_humble 0 [some (.ref a0), some (.int a1), none, none, none, none, none, none] [] hp (eI vr, hr)
  refine r_iln rfl rfl rfl ?_
  refine r_stI (rest := []) H rfl rfl (s_X7_notWeeks a1) rfl rfl ⟨rfl, rfl⟩ rfl (fun t1 h2 H => ?_)
  refine r_isn (L' := [some (.ref a0), some (.int a1), some (.int t1), none, none, none, none, none]) rfl rfl (Nat.le_of_ble_eq_true rfl) rfl ?_
  refine r_iln rfl rfl rfl ?_
  refine r_if H rfl rfl (fun H => ?_) (fun H => ?_)
  · refine r_aln rfl rfl rfl ?_
    refine r_iln rfl rfl rfl ?_
    refine r_vtI (rest := []) H rfl rfl rfl (s_X7_errorBehind a0 a1) rfl rfl ⟨rfl, rfl⟩ rfl (fun t3 h4 H => ?_)
    refine r_isn (L' := [some (.ref a0), some (.int a1), some (.int t1), some (.int t3), none, none, none, none]) rfl rfl (Nat.le_of_ble_eq_true rfl) rfl ?_
    refine r_bi (v := -9) rfl cb_m9 ?_
    refine r_is (L' := [some (.ref a0), some (.int a1), some (.int t1), some (.int t3), some (.int (-9 : Int32)), none, none, none]) rfl (Nat.le_of_ble_eq_true rfl) rfl ?_
    refine r_ic (v := 0) rfl ci_0 ?_
    refine r_is (L' := [some (.ref a0), some (.int a1), some (.int t1), some (.int t3), some (.int (-9 : Int32)), some (.int (0 : Int32)), none, none]) rfl (Nat.le_of_ble_eq_true rfl) rfl ?_
    refine (r_loop (P := (fun (s5 : Int32 × Int32 × Int32) hq => ∀ ys5_0 : Int32, ∀ ys5_1 : Int32, ∀ ys5_2 : Int32, s5 = (ys5_0, ys5_1, ys5_2) → ∀ x7 : Option Value, ∀ x8 : Option Value, Rn none 0 0 eX7_humble 17 [some (.ref a0), some (.int a1), some (.int t1), some (.int ys5_0), some (.int ys5_1), some (.int ys5_2), x7, x8] [] hq (eI vr, hr))) ?_ NF _ _ H) _ _ _ rfl _ _
    intro k6 K6 s5 hs5 H ys5_0 ys5_1 ys5_2 es5 x7 x8
    subst es5
    refine r_il rfl rfl ?_
    refine r_aln rfl rfl rfl ?_
    refine r_gI' H rfl kl_6_8 (fun t9 H => ?_)
    refine r_cmp H rfl rfl (fun H => ?_) (fun H => ?_)
    · refine r_il rfl rfl ?_
      exact r_reti H rfl rfl ⟨Nat.zero_le _, Nat.zero_le _⟩
    · refine r_aln rfl rfl rfl ?_
      refine r_gR H rfl kd_6_2 (fun r10 H => ?_)
      refine r_il rfl rfl ?_
      refine r_aI' H rfl (fun t11 H => ?_)
      refine r_is (L' := [some (.ref a0), some (.int a1), some (.int t1), some (.int ys5_0), some (.int ys5_1), some (.int ys5_2), some (.int t11), x8]) rfl (Nat.le_of_ble_eq_true rfl) rfl ?_
      refine r_aln rfl rfl rfl ?_
      refine r_gR H rfl kd_6_2 (fun r12 H => ?_)
      refine r_il rfl rfl ?_
      refine r_ic (v := 0) rfl ci_0 ?_
      refine r_sI H rfl (fun H => ?_)
      refine r_aln rfl rfl rfl ?_
      refine r_iln rfl rfl rfl ?_
      refine r_vtI (rest := []) H rfl rfl rfl (s_X7_errorBehind a0 a1) rfl rfl ⟨rfl, rfl⟩ rfl (fun t13 h14 H => ?_)
      refine r_is (L' := [some (.ref a0), some (.int a1), some (.int t1), some (.int ys5_0), some (.int ys5_1), some (.int ys5_2), some (.int t11), some (.int t13)]) rfl (Nat.le_of_ble_eq_true rfl) rfl ?_
      refine r_aln rfl rfl rfl ?_
      refine r_gR H rfl kd_6_2 (fun r15 H => ?_)
      refine r_il rfl rfl ?_
      refine r_il rfl rfl ?_
      refine r_sI H rfl (fun H => ?_)
      refine r_il rfl rfl ?_
      refine r_iln rfl rfl rfl ?_
      refine r_cmp H rfl rfl (fun H => ?_) (fun H => ?_)
      · refine r_il rfl rfl ?_
        refine r_is (L' := [some (.ref a0), some (.int a1), some (.int t1), some (.int ys5_0), some (.int ys5_2), some (.int ys5_2), some (.int t11), some (.int t13)]) rfl (Nat.le_of_ble_eq_true rfl) rfl ?_
        refine r_il rfl rfl ?_
        refine r_isn (L' := [some (.ref a0), some (.int a1), some (.int t1), some (.int t13), some (.int ys5_2), some (.int ys5_2), some (.int t11), some (.int t13)]) rfl rfl (Nat.le_of_ble_eq_true rfl) rfl ?_
        refine r_inc (v := 1) (L' := [some (.ref a0), some (.int a1), some (.int t1), some (.int t13), some (.int ys5_2), some (.int (ys5_2 + (1 : Int32))), some (.int t11), some (.int t13)]) rfl rfl ci_1 rfl ?_
        refine r_go rfl ?_
        have q := K6 _ _ H _ _ _ rfl
        exact q _ _
      · refine r_go rfl ?_
        refine r_inc (v := 1) (L' := [some (.ref a0), some (.int a1), some (.int t1), some (.int ys5_0), some (.int ys5_1), some (.int (ys5_2 + (1 : Int32))), some (.int t11), some (.int t13)]) rfl rfl ci_1 rfl ?_
        refine r_go rfl ?_
        have q := K6 _ _ H _ _ _ rfl
        exact q _ _
  · refine r_aln rfl rfl rfl ?_
    refine r_iln rfl rfl rfl ?_
    refine r_vtI (rest := []) H rfl rfl rfl (s_X7_no a0 t1) rfl rfl ⟨rfl, rfl⟩ rfl (fun t16 h17 H => ?_)
    exact r_reti H rfl rfl ⟨Nat.zero_le _, Nat.zero_le _⟩
def f_X7_highest (a0 : Nat) (a1 : Int32) (a2 : Int32) : M Int32 := bnd (cv 6 a0 (f_X7_isPerson a0 a1)) fun t1 => jn (fun k4 => if ¬ t1 = (0 : Int32) then bnd (f_X7_isIn a2 (0 : Int32) (1 : Int32)) fun t16 => if ¬ t16 = (0 : Int32) then k4 (0 : Int32) else k4 (-2 : Int32) else k4 (-1 : Int32)) (fun (s3 : Int32) => if s3 = (0 : Int32) then loopK NF (fun (s5 : Int32 × Int32) k6 => bnd (cv 6 a0 (f_X7_all a0)) fun t8 => if t8 < s5.2 then rt s5.1 else bnd (cv 6 a0 (f_X7_isOf a0 s5.2 a1)) fun t10 => if ¬ t10 = (0 : Int32) then bnd (cv 6 a0 (f_X7_meanOf a0 a1 s5.2)) fun t12 => if s5.1 < (0 : Int32) then k6 (t12, (s5.2 + (1 : Int32))) else if ¬ a2 = (0 : Int32) then if s5.1 ≤ t12 then k6 (s5.1, (s5.2 + (1 : Int32))) else k6 (t12, (s5.2 + (1 : Int32))) else if t12 ≤ s5.1 then k6 (s5.1, (s5.2 + (1 : Int32))) else k6 (t12, (s5.2 + (1 : Int32))) else k6 (s5.1, (s5.2 + (1 : Int32)))) ((-9 : Int32), (1 : Int32)) else bnd (cv 6 a0 (f_X7_no a0 s3)) fun t14 => rt t14)
set_option maxRecDepth 20000 in
theorem s_X7_highest (a0 : Nat) (a1 : Int32) (a2 : Int32) : Sm eX7_highest [.ref a0, .int a1, .int a2] eI (f_X7_highest a0 a1 a2) := by
  intro hp vr hr H
  unfold f_X7_highest at H
  show Rn none 0 0 eX7_highest 0 [some (.ref a0), some (.int a1), some (.int a2), none, none, none, none] [] hp (eI vr, hr)
  refine r_aln rfl rfl rfl ?_
  refine r_iln rfl rfl rfl ?_
  refine r_vtI (rest := []) H rfl rfl rfl (s_X7_isPerson a0 a1) rfl rfl ⟨rfl, rfl⟩ rfl (fun t1 h2 H => ?_)
  refine r_jn (P := (fun (s3 : Int32) hq => Rn none 0 0 eX7_highest 14 [some (.ref a0), some (.int a1), some (.int a2), none, none, none, none] [.int s3] hq (eI vr, hr))) H (fun s3 hs3 H  => ?_) (fun k4 K4 H => ?_)
  · refine r_isn (L' := [some (.ref a0), some (.int a1), some (.int a2), some (.int s3), none, none, none]) rfl rfl (Nat.le_of_ble_eq_true rfl) rfl ?_
    refine r_iln rfl rfl rfl ?_
    refine r_if H rfl rfl (fun H => ?_) (fun H => ?_)
    · refine r_bi (v := -9) rfl cb_m9 ?_
      refine r_is (L' := [some (.ref a0), some (.int a1), some (.int a2), some (.int s3), some (.int (-9 : Int32)), none, none]) rfl (Nat.le_of_ble_eq_true rfl) rfl ?_
      refine r_ic (v := 1) rfl ci_1 ?_
      refine r_is (L' := [some (.ref a0), some (.int a1), some (.int a2), some (.int s3), some (.int (-9 : Int32)), some (.int (1 : Int32)), none]) rfl (Nat.le_of_ble_eq_true rfl) rfl ?_
      refine (r_loop (P := (fun (s5 : Int32 × Int32) hq => ∀ ys5_0 : Int32, ∀ ys5_1 : Int32, s5 = (ys5_0, ys5_1) → ∀ x7 : Option Value, Rn none 0 0 eX7_highest 25 [some (.ref a0), some (.int a1), some (.int a2), some (.int s3), some (.int ys5_0), some (.int ys5_1), x7] [] hq (eI vr, hr))) ?_ NF _ _ H) _ _ rfl _
      intro k6 K6 s5 hs5 H ys5_0 ys5_1 es5 x7
      subst es5
      refine r_il rfl rfl ?_
      refine r_aln rfl rfl rfl ?_
      refine r_vtI (rest := [.int ys5_1]) H rfl rfl rfl (s_X7_all a0) rfl rfl ⟨rfl, rfl⟩ rfl (fun t8 h9 H => ?_)
      refine r_cmp H rfl rfl (fun H => ?_) (fun H => ?_)
      · refine r_il rfl rfl ?_
        exact r_reti H rfl rfl ⟨Nat.zero_le _, Nat.zero_le _⟩
      · refine r_aln rfl rfl rfl ?_
        refine r_il rfl rfl ?_
        refine r_iln rfl rfl rfl ?_
        refine r_vtI (rest := []) H rfl rfl rfl (s_X7_isOf a0 ys5_1 a1) rfl rfl ⟨rfl, rfl⟩ rfl (fun t10 h11 H => ?_)
        refine r_if H rfl rfl (fun H => ?_) (fun H => ?_)
        · refine r_aln rfl rfl rfl ?_
          refine r_iln rfl rfl rfl ?_
          refine r_il rfl rfl ?_
          refine r_vtI (rest := []) H rfl rfl rfl (s_X7_meanOf a0 a1 ys5_1) rfl rfl ⟨rfl, rfl⟩ rfl (fun t12 h13 H => ?_)
          refine r_is (L' := [some (.ref a0), some (.int a1), some (.int a2), some (.int s3), some (.int ys5_0), some (.int ys5_1), some (.int t12)]) rfl (Nat.le_of_ble_eq_true rfl) rfl ?_
          refine r_il rfl rfl ?_
          refine r_if H rfl rfl (fun H => ?_) (fun H => ?_)
          · refine r_il rfl rfl ?_
            refine r_is (L' := [some (.ref a0), some (.int a1), some (.int a2), some (.int s3), some (.int t12), some (.int ys5_1), some (.int t12)]) rfl (Nat.le_of_ble_eq_true rfl) rfl ?_
            refine r_inc (v := 1) (L' := [some (.ref a0), some (.int a1), some (.int a2), some (.int s3), some (.int t12), some (.int (ys5_1 + (1 : Int32))), some (.int t12)]) rfl rfl ci_1 rfl ?_
            refine r_go rfl ?_
            have q := K6 _ _ H _ _ rfl
            exact q _
          · refine r_iln rfl rfl rfl ?_
            refine r_if H rfl rfl (fun H => ?_) (fun H => ?_)
            · refine r_il rfl rfl ?_
              refine r_il rfl rfl ?_
              refine r_cmp H rfl rfl (fun H => ?_) (fun H => ?_)
              · refine r_inc (v := 1) (L' := [some (.ref a0), some (.int a1), some (.int a2), some (.int s3), some (.int ys5_0), some (.int (ys5_1 + (1 : Int32))), some (.int t12)]) rfl rfl ci_1 rfl ?_
                refine r_go rfl ?_
                have q := K6 _ _ H _ _ rfl
                exact q _
              · refine r_il rfl rfl ?_
                refine r_is (L' := [some (.ref a0), some (.int a1), some (.int a2), some (.int s3), some (.int t12), some (.int ys5_1), some (.int t12)]) rfl (Nat.le_of_ble_eq_true rfl) rfl ?_
                refine r_inc (v := 1) (L' := [some (.ref a0), some (.int a1), some (.int a2), some (.int s3), some (.int t12), some (.int (ys5_1 + (1 : Int32))), some (.int t12)]) rfl rfl ci_1 rfl ?_
                refine r_go rfl ?_
                have q := K6 _ _ H _ _ rfl
                exact q _
            · refine r_il rfl rfl ?_
              refine r_il rfl rfl ?_
              refine r_cmp H rfl rfl (fun H => ?_) (fun H => ?_)
              · refine r_inc (v := 1) (L' := [some (.ref a0), some (.int a1), some (.int a2), some (.int s3), some (.int ys5_0), some (.int (ys5_1 + (1 : Int32))), some (.int t12)]) rfl rfl ci_1 rfl ?_
                refine r_go rfl ?_
                have q := K6 _ _ H _ _ rfl
                exact q _
              · refine r_go rfl ?_
                refine r_il rfl rfl ?_
                refine r_is (L' := [some (.ref a0), some (.int a1), some (.int a2), some (.int s3), some (.int t12), some (.int ys5_1), some (.int t12)]) rfl (Nat.le_of_ble_eq_true rfl) rfl ?_
                refine r_inc (v := 1) (L' := [some (.ref a0), some (.int a1), some (.int a2), some (.int s3), some (.int t12), some (.int (ys5_1 + (1 : Int32))), some (.int t12)]) rfl rfl ci_1 rfl ?_
                refine r_go rfl ?_
                have q := K6 _ _ H _ _ rfl
                exact q _
        · refine r_go rfl ?_
          refine r_inc (v := 1) (L' := [some (.ref a0), some (.int a1), some (.int a2), some (.int s3), some (.int ys5_0), some (.int (ys5_1 + (1 : Int32))), x7]) rfl rfl ci_1 rfl ?_
          refine r_go rfl ?_
          have q := K6 _ _ H _ _ rfl
          exact q _
    · refine r_aln rfl rfl rfl ?_
      refine r_iln rfl rfl rfl ?_
      refine r_vtI (rest := []) H rfl rfl rfl (s_X7_no a0 s3) rfl rfl ⟨rfl, rfl⟩ rfl (fun t14 h15 H => ?_)
      exact r_reti H rfl rfl ⟨Nat.zero_le _, Nat.zero_le _⟩
  · refine r_if H rfl rfl (fun H => ?_) (fun H => ?_)
    · refine r_iln rfl rfl rfl ?_
      refine r_ic (v := 0) rfl ci_0 ?_
      refine r_ic (v := 1) rfl ci_1 ?_
      refine r_stI (rest := []) H rfl rfl (s_X7_isIn a2 (0 : Int32) (1 : Int32)) rfl rfl ⟨rfl, rfl⟩ rfl (fun t16 h17 H => ?_)
      refine r_if H rfl rfl (fun H => ?_) (fun H => ?_)
      · refine r_ic (v := 0) rfl ci_0 ?_
        have q := K4 _ _ H
        exact q
      · refine r_bi (v := -2) rfl cb_m2 ?_
        refine r_go rfl ?_
        have q := K4 _ _ H
        exact q
    · refine r_ic (v := -1) rfl ci_m1 ?_
      refine r_go rfl ?_
      have q := K4 _ _ H
      exact q
def f_X7_spread (a0 : Nat) (a1 : Int32) : M Int32 := bnd (f_X7_notWeeks a1) fun t1 => if t1 = (0 : Int32) then bnd (cv 6 a0 (f_X7_findWeeks a0 a1)) fun _ => loopK NF (fun (s5 : Int32 × Int32 × Int32) k6 => bnd (gI 6 8 a0) fun t7 => if t7 ≤ s5.2.2 then bnd (gI 6 8 a0) fun t8 => if ¬ t8 = (0 : Int32) then rt (s5.2.1 - s5.1) else rt (0 : Int32) else bnd (cv 6 a0 (f_X7_beliefAt a0 a1 s5.2.2)) fun t9 => jn (fun k12 => if s5.1 ≤ t9 then k12 s5.1 else bnd (cv 6 a0 (f_X7_beliefAt a0 a1 s5.2.2)) fun t17 => k12 t17) (fun (s11 : Int32) => bnd (cv 6 a0 (f_X7_beliefAt a0 a1 s5.2.2)) fun t13 => if t13 ≤ s5.2.1 then k6 (s11, s5.2.1, (s5.2.2 + (1 : Int32))) else bnd (cv 6 a0 (f_X7_beliefAt a0 a1 s5.2.2)) fun t15 => k6 (s11, t15, (s5.2.2 + (1 : Int32))))) ((99 : Int32), (0 : Int32), (0 : Int32)) else bnd (cv 6 a0 (f_X7_no a0 t1)) fun t19 => rt t19
set_option maxRecDepth 20000 in
theorem s_X7_spread (a0 : Nat) (a1 : Int32) : Sm eX7_spread [.ref a0, .int a1] eI (f_X7_spread a0 a1) := by
  intro hp vr hr H
  unfold f_X7_spread at H
  show Rn none 0 0 eX7_spread 0 [some (.ref a0), some (.int a1), none, none, none, none] [] hp (eI vr, hr)
  refine r_iln rfl rfl rfl ?_
  refine r_stI (rest := []) H rfl rfl (s_X7_notWeeks a1) rfl rfl ⟨rfl, rfl⟩ rfl (fun t1 h2 H => ?_)
  refine r_isn (L' := [some (.ref a0), some (.int a1), some (.int t1), none, none, none]) rfl rfl (Nat.le_of_ble_eq_true rfl) rfl ?_
  refine r_iln rfl rfl rfl ?_
  refine r_if H rfl rfl (fun H => ?_) (fun H => ?_)
  · refine r_aln rfl rfl rfl ?_
    refine r_iln rfl rfl rfl ?_
    refine r_vtU (rest := []) H rfl rfl rfl (s_X7_findWeeks a0 a1) rfl rfl ⟨rfl, rfl⟩ rfl (fun t3 h4 H => ?_)
    refine r_bi (v := 99) rfl cb_99 ?_
    refine r_isn (L' := [some (.ref a0), some (.int a1), some (.int t1), some (.int (99 : Int32)), none, none]) rfl rfl (Nat.le_of_ble_eq_true rfl) rfl ?_
    refine r_ic (v := 0) rfl ci_0 ?_
    refine r_is (L' := [some (.ref a0), some (.int a1), some (.int t1), some (.int (99 : Int32)), some (.int (0 : Int32)), none]) rfl (Nat.le_of_ble_eq_true rfl) rfl ?_
    refine r_ic (v := 0) rfl ci_0 ?_
    refine r_is (L' := [some (.ref a0), some (.int a1), some (.int t1), some (.int (99 : Int32)), some (.int (0 : Int32)), some (.int (0 : Int32))]) rfl (Nat.le_of_ble_eq_true rfl) rfl ?_
    refine (r_loop (P := (fun (s5 : Int32 × Int32 × Int32) hq => ∀ ys5_0 : Int32, ∀ ys5_1 : Int32, ∀ ys5_2 : Int32, s5 = (ys5_0, ys5_1, ys5_2) → Rn none 0 0 eX7_spread 18 [some (.ref a0), some (.int a1), some (.int t1), some (.int ys5_0), some (.int ys5_1), some (.int ys5_2)] [] hq (eI vr, hr))) ?_ NF _ _ H) _ _ _ rfl
    intro k6 K6 s5 hs5 H ys5_0 ys5_1 ys5_2 es5 
    subst es5
    refine r_il rfl rfl ?_
    refine r_aln rfl rfl rfl ?_
    refine r_gI' H rfl kl_6_8 (fun t7 H => ?_)
    refine r_cmp H rfl rfl (fun H => ?_) (fun H => ?_)
    · refine r_aln rfl rfl rfl ?_
      refine r_gI' H rfl kl_6_8 (fun t8 H => ?_)
      refine r_if H rfl rfl (fun H => ?_) (fun H => ?_)
      · refine r_il rfl rfl ?_
        refine r_iln rfl rfl rfl ?_
        refine r_sub rfl ?_
        exact r_reti H rfl rfl ⟨Nat.zero_le _, Nat.zero_le _⟩
      · refine r_ic (v := 0) rfl ci_0 ?_
        refine r_go rfl ?_
        exact r_reti H rfl rfl ⟨Nat.zero_le _, Nat.zero_le _⟩
    · refine r_aln rfl rfl rfl ?_
      refine r_iln rfl rfl rfl ?_
      refine r_il rfl rfl ?_
      refine r_vtI (rest := []) H rfl rfl rfl (s_X7_beliefAt a0 a1 ys5_2) rfl rfl ⟨rfl, rfl⟩ rfl (fun t9 h10 H => ?_)
      refine r_iln rfl rfl rfl ?_
      refine r_jn (P := (fun (s11 : Int32) hq => Rn none 0 0 eX7_spread 34 [some (.ref a0), some (.int a1), some (.int t1), some (.int ys5_0), some (.int ys5_1), some (.int ys5_2)] [.int s11] hq (eI vr, hr))) H (fun s11 hs11 H  => ?_) (fun k12 K12 H => ?_)
      · refine r_isn (L' := [some (.ref a0), some (.int a1), some (.int t1), some (.int s11), some (.int ys5_1), some (.int ys5_2)]) rfl rfl (Nat.le_of_ble_eq_true rfl) rfl ?_
        refine r_aln rfl rfl rfl ?_
        refine r_iln rfl rfl rfl ?_
        refine r_il rfl rfl ?_
        refine r_vtI (rest := []) H rfl rfl rfl (s_X7_beliefAt a0 a1 ys5_2) rfl rfl ⟨rfl, rfl⟩ rfl (fun t13 h14 H => ?_)
        refine r_il rfl rfl ?_
        refine r_cmp H rfl rfl (fun H => ?_) (fun H => ?_)
        · refine r_il rfl rfl ?_
          refine r_is (L' := [some (.ref a0), some (.int a1), some (.int t1), some (.int s11), some (.int ys5_1), some (.int ys5_2)]) rfl (Nat.le_of_ble_eq_true rfl) rfl ?_
          refine r_inc (v := 1) (L' := [some (.ref a0), some (.int a1), some (.int t1), some (.int s11), some (.int ys5_1), some (.int (ys5_2 + (1 : Int32)))]) rfl rfl ci_1 rfl ?_
          refine r_go rfl ?_
          have q := K6 _ _ H _ _ _ rfl
          exact q
        · refine r_aln rfl rfl rfl ?_
          refine r_iln rfl rfl rfl ?_
          refine r_il rfl rfl ?_
          refine r_vtI (rest := []) H rfl rfl rfl (s_X7_beliefAt a0 a1 ys5_2) rfl rfl ⟨rfl, rfl⟩ rfl (fun t15 h16 H => ?_)
          refine r_go rfl ?_
          refine r_is (L' := [some (.ref a0), some (.int a1), some (.int t1), some (.int s11), some (.int t15), some (.int ys5_2)]) rfl (Nat.le_of_ble_eq_true rfl) rfl ?_
          refine r_inc (v := 1) (L' := [some (.ref a0), some (.int a1), some (.int t1), some (.int s11), some (.int t15), some (.int (ys5_2 + (1 : Int32)))]) rfl rfl ci_1 rfl ?_
          refine r_go rfl ?_
          have q := K6 _ _ H _ _ _ rfl
          exact q
      · refine r_cmp H rfl rfl (fun H => ?_) (fun H => ?_)
        · refine r_iln rfl rfl rfl ?_
          have q := K12 _ _ H
          exact q
        · refine r_aln rfl rfl rfl ?_
          refine r_iln rfl rfl rfl ?_
          refine r_il rfl rfl ?_
          refine r_vtI (rest := []) H rfl rfl rfl (s_X7_beliefAt a0 a1 ys5_2) rfl rfl ⟨rfl, rfl⟩ rfl (fun t17 h18 H => ?_)
          refine r_go rfl ?_
          have q := K12 _ _ H
          exact q
  · refine r_aln rfl rfl rfl ?_
    refine r_iln rfl rfl rfl ?_
    refine r_vtI (rest := []) H rfl rfl rfl (s_X7_no a0 t1) rfl rfl ⟨rfl, rfl⟩ rfl (fun t19 h20 H => ?_)
    exact r_reti H rfl rfl ⟨Nat.zero_le _, Nat.zero_le _⟩
def f_X7_pairs (a0 : Nat) : M Int32 := loopK NF (fun (s1 : Int32 × Int32 × Int32) k2 => bnd (gI 6 8 a0) fun t4 => if t4 ≤ s1.2.2 then rt s1.1 else loopK NF (fun (s5 : Int32 × Int32 × Int32) k6 => bnd (gI 6 8 a0) fun t7 => if t7 ≤ s5.2.2 then k2 (s5.1, s5.2.1, (s1.2.2 + (1 : Int32))) else bnd (gR 6 5 a0) fun r8 => bnd (aI r8 s1.2.2) fun t9 => bnd (f_X7_has t9 s5.2.2) fun t10 => if t10 = (0 : Int32) then k6 (s5.1, s5.2.1, (s5.2.2 + (1 : Int32))) else bnd (gR 6 5 a0) fun r12 => bnd (aI r12 s5.2.2) fun t13 => bnd (f_X7_has t13 s1.2.2) fun t14 => if t14 = (0 : Int32) then k6 (s5.1, s5.2.1, (s5.2.2 + (1 : Int32))) else bnd (gR 6 4 a0) fun r16 => bnd (aI r16 s1.2.2) fun t17 => bnd (gR 6 4 a0) fun r18 => bnd (aI r18 s5.2.2) fun t19 => bnd (f_X7_far t17 t19) fun t20 => if s5.2.1 < t20 then bnd (gR 6 4 a0) fun r22 => bnd (aI r22 s1.2.2) fun t23 => bnd (gR 6 4 a0) fun r24 => bnd (aI r24 s5.2.2) fun t25 => bnd (f_X7_far t23 t25) fun t26 => k6 ((((10 : Int32) * s1.2.2) + s5.2.2), t26, (s5.2.2 + (1 : Int32))) else k6 (s5.1, s5.2.1, (s5.2.2 + (1 : Int32)))) (s1.1, s1.2.1, (s1.2.2 + (1 : Int32)))) ((-9 : Int32), (-1 : Int32), (0 : Int32))
set_option maxRecDepth 20000 in
theorem s_X7_pairs (a0 : Nat) : Sm eX7_pairs [.ref a0] eI (f_X7_pairs a0) := by
  intro hp vr hr H
  unfold f_X7_pairs at H
  show Rn none 0 0 eX7_pairs 0 [some (.ref a0), none, none, none, none] [] hp (eI vr, hr)
  refine r_bi (v := -9) rfl cb_m9 ?_
  refine r_isn (L' := [some (.ref a0), some (.int (-9 : Int32)), none, none, none]) rfl rfl (Nat.le_of_ble_eq_true rfl) rfl ?_
  refine r_ic (v := -1) rfl ci_m1 ?_
  refine r_isn (L' := [some (.ref a0), some (.int (-9 : Int32)), some (.int (-1 : Int32)), none, none]) rfl rfl (Nat.le_of_ble_eq_true rfl) rfl ?_
  refine r_ic (v := 0) rfl ci_0 ?_
  refine r_isn (L' := [some (.ref a0), some (.int (-9 : Int32)), some (.int (-1 : Int32)), some (.int (0 : Int32)), none]) rfl rfl (Nat.le_of_ble_eq_true rfl) rfl ?_
  refine (r_loop (P := (fun (s1 : Int32 × Int32 × Int32) hq => ∀ ys1_0 : Int32, ∀ ys1_1 : Int32, ∀ ys1_2 : Int32, s1 = (ys1_0, ys1_1, ys1_2) → ∀ x3 : Option Value, Rn none 0 0 eX7_pairs 6 [some (.ref a0), some (.int ys1_0), some (.int ys1_1), some (.int ys1_2), x3] [] hq (eI vr, hr))) ?_ NF _ _ H) _ _ _ rfl _
  intro k2 K2 s1 hs1 H ys1_0 ys1_1 ys1_2 es1 x3
  subst es1
  refine r_iln rfl rfl rfl ?_
  refine r_aln rfl rfl rfl ?_
  refine r_gI' H rfl kl_6_8 (fun t4 H => ?_)
  refine r_cmp H rfl rfl (fun H => ?_) (fun H => ?_)
  · refine r_iln rfl rfl rfl ?_
    exact r_reti H rfl rfl ⟨Nat.zero_le _, Nat.zero_le _⟩
  · refine r_iln rfl rfl rfl ?_
    refine r_ic (v := 1) rfl ci_1 ?_
    refine r_add rfl ?_
    refine r_is (L' := [some (.ref a0), some (.int ys1_0), some (.int ys1_1), some (.int ys1_2), some (.int (ys1_2 + (1 : Int32)))]) rfl (Nat.le_of_ble_eq_true rfl) rfl ?_
    refine (r_loop (P := (fun (s5 : Int32 × Int32 × Int32) hq => ∀ ys5_0 : Int32, ∀ ys5_1 : Int32, ∀ ys5_2 : Int32, s5 = (ys5_0, ys5_1, ys5_2) → Rn none 0 0 eX7_pairs 14 [some (.ref a0), some (.int ys5_0), some (.int ys5_1), some (.int ys1_2), some (.int ys5_2)] [] hq (eI vr, hr))) ?_ NF _ _ H) _ _ _ rfl
    intro k6 K6 s5 hs5 H ys5_0 ys5_1 ys5_2 es5 
    subst es5
    refine r_il rfl rfl ?_
    refine r_aln rfl rfl rfl ?_
    refine r_gI' H rfl kl_6_8 (fun t7 H => ?_)
    refine r_cmp H rfl rfl (fun H => ?_) (fun H => ?_)
    · refine r_inc (v := 1) (L' := [some (.ref a0), some (.int ys5_0), some (.int ys5_1), some (.int (ys1_2 + (1 : Int32))), some (.int ys5_2)]) rfl rfl ci_1 rfl ?_
      refine r_go rfl ?_
      have q := K2 _ _ H _ _ _ rfl
      exact q _
    · refine r_aln rfl rfl rfl ?_
      refine r_gR H rfl kd_6_5 (fun r8 H => ?_)
      refine r_iln rfl rfl rfl ?_
      refine r_aI' H rfl (fun t9 H => ?_)
      refine r_il rfl rfl ?_
      refine r_stI (rest := []) H rfl rfl (s_X7_has t9 ys5_2) rfl rfl ⟨rfl, rfl⟩ rfl (fun t10 h11 H => ?_)
      refine r_if H rfl rfl (fun H => ?_) (fun H => ?_)
      · refine r_inc (v := 1) (L' := [some (.ref a0), some (.int ys5_0), some (.int ys5_1), some (.int ys1_2), some (.int (ys5_2 + (1 : Int32)))]) rfl rfl ci_1 rfl ?_
        refine r_go rfl ?_
        have q := K6 _ _ H _ _ _ rfl
        exact q
      · refine r_aln rfl rfl rfl ?_
        refine r_gR H rfl kd_6_5 (fun r12 H => ?_)
        refine r_il rfl rfl ?_
        refine r_aI' H rfl (fun t13 H => ?_)
        refine r_iln rfl rfl rfl ?_
        refine r_stI (rest := []) H rfl rfl (s_X7_has t13 ys1_2) rfl rfl ⟨rfl, rfl⟩ rfl (fun t14 h15 H => ?_)
        refine r_if H rfl rfl (fun H => ?_) (fun H => ?_)
        · refine r_inc (v := 1) (L' := [some (.ref a0), some (.int ys5_0), some (.int ys5_1), some (.int ys1_2), some (.int (ys5_2 + (1 : Int32)))]) rfl rfl ci_1 rfl ?_
          refine r_go rfl ?_
          have q := K6 _ _ H _ _ _ rfl
          exact q
        · refine r_aln rfl rfl rfl ?_
          refine r_gR H rfl kd_6_4 (fun r16 H => ?_)
          refine r_iln rfl rfl rfl ?_
          refine r_aI' H rfl (fun t17 H => ?_)
          refine r_aln rfl rfl rfl ?_
          refine r_gR H rfl kd_6_4 (fun r18 H => ?_)
          refine r_il rfl rfl ?_
          refine r_aI' H rfl (fun t19 H => ?_)
          refine r_stI (rest := []) H rfl rfl (s_X7_far t17 t19) rfl rfl ⟨rfl, rfl⟩ rfl (fun t20 h21 H => ?_)
          refine r_iln rfl rfl rfl ?_
          refine r_cmp H rfl rfl (fun H => ?_) (fun H => ?_)
          · refine r_bi (v := 10) rfl cb_10 ?_
            refine r_iln rfl rfl rfl ?_
            refine r_mul rfl ?_
            refine r_il rfl rfl ?_
            refine r_add rfl ?_
            refine r_isn (L' := [some (.ref a0), some (.int (((10 : Int32) * ys1_2) + ys5_2)), some (.int ys5_1), some (.int ys1_2), some (.int ys5_2)]) rfl rfl (Nat.le_of_ble_eq_true rfl) rfl ?_
            refine r_aln rfl rfl rfl ?_
            refine r_gR H rfl kd_6_4 (fun r22 H => ?_)
            refine r_iln rfl rfl rfl ?_
            refine r_aI' H rfl (fun t23 H => ?_)
            refine r_aln rfl rfl rfl ?_
            refine r_gR H rfl kd_6_4 (fun r24 H => ?_)
            refine r_il rfl rfl ?_
            refine r_aI' H rfl (fun t25 H => ?_)
            refine r_stI (rest := []) H rfl rfl (s_X7_far t23 t25) rfl rfl ⟨rfl, rfl⟩ rfl (fun t26 h27 H => ?_)
            refine r_isn (L' := [some (.ref a0), some (.int (((10 : Int32) * ys1_2) + ys5_2)), some (.int t26), some (.int ys1_2), some (.int ys5_2)]) rfl rfl (Nat.le_of_ble_eq_true rfl) rfl ?_
            refine r_inc (v := 1) (L' := [some (.ref a0), some (.int (((10 : Int32) * ys1_2) + ys5_2)), some (.int t26), some (.int ys1_2), some (.int (ys5_2 + (1 : Int32)))]) rfl rfl ci_1 rfl ?_
            refine r_go rfl ?_
            have q := K6 _ _ H _ _ _ rfl
            exact q
          · refine r_go rfl ?_
            refine r_inc (v := 1) (L' := [some (.ref a0), some (.int ys5_0), some (.int ys5_1), some (.int ys1_2), some (.int (ys5_2 + (1 : Int32)))]) rfl rfl ci_1 rfl ?_
            refine r_go rfl ?_
            have q := K6 _ _ H _ _ _ rfl
            exact q
def f_X7_isCalm (a0 : Nat) (a1 : Int32) (a2 : Int32) : M Int32 := loopK NF (fun (s1 : Int32) k2 => bnd (gI 6 8 a0) fun t3 => if t3 ≤ s1 then retZ (1 : Int32) else bnd (cv 6 a0 (f_X7_beliefAt a0 a1 s1)) fun t4 => bnd (cv 6 a0 (f_X7_beliefAt a0 (a1 + (1 : Int32)) s1)) fun t6 => bnd (f_X7_far t4 t6) fun t8 => if t8 ≤ a2 then k2 (s1 + (1 : Int32)) else retZ (0 : Int32)) (0 : Int32)
set_option maxRecDepth 20000 in
theorem s_X7_isCalm (a0 : Nat) (a1 : Int32) (a2 : Int32) : Sm eX7_isCalm [.ref a0, .int a1, .int a2] eI (f_X7_isCalm a0 a1 a2) := by
  intro hp vr hr H
  unfold f_X7_isCalm at H
  show Rn none 0 0 eX7_isCalm 0 [some (.ref a0), some (.int a1), some (.int a2), none] [] hp (eI vr, hr)
  refine r_ic (v := 0) rfl ci_0 ?_
  refine r_isn (L' := [some (.ref a0), some (.int a1), some (.int a2), some (.int (0 : Int32))]) rfl rfl (Nat.le_of_ble_eq_true rfl) rfl ?_
  refine (r_loop (P := (fun (s1 : Int32) hq => Rn none 0 0 eX7_isCalm 2 [some (.ref a0), some (.int a1), some (.int a2), some (.int s1)] [] hq (eI vr, hr))) ?_ NF _ _ H)
  intro k2 K2 s1 hs1 H 
  refine r_iln rfl rfl rfl ?_
  refine r_aln rfl rfl rfl ?_
  refine r_gI' H rfl kl_6_8 (fun t3 H => ?_)
  refine r_cmp H rfl rfl (fun H => ?_) (fun H => ?_)
  · refine r_ic (v := 1) rfl ci_1 ?_
    exact r_retz H rfl rfl ⟨Nat.zero_le _, Nat.zero_le _⟩
  · refine r_aln rfl rfl rfl ?_
    refine r_iln rfl rfl rfl ?_
    refine r_iln rfl rfl rfl ?_
    refine r_vtI (rest := []) H rfl rfl rfl (s_X7_beliefAt a0 a1 s1) rfl rfl ⟨rfl, rfl⟩ rfl (fun t4 h5 H => ?_)
    refine r_aln rfl rfl rfl ?_
    refine r_iln rfl rfl rfl ?_
    refine r_ic (v := 1) rfl ci_1 ?_
    refine r_add rfl ?_
    refine r_iln rfl rfl rfl ?_
    refine r_vtI (rest := [.int t4]) H rfl rfl rfl (s_X7_beliefAt a0 (a1 + (1 : Int32)) s1) rfl rfl ⟨rfl, rfl⟩ rfl (fun t6 h7 H => ?_)
    refine r_stI (rest := []) H rfl rfl (s_X7_far t4 t6) rfl rfl ⟨rfl, rfl⟩ rfl (fun t8 h9 H => ?_)
    refine r_iln rfl rfl rfl ?_
    refine r_cmp H rfl rfl (fun H => ?_) (fun H => ?_)
    · refine r_inc (v := 1) (L' := [some (.ref a0), some (.int a1), some (.int a2), some (.int (s1 + (1 : Int32)))]) rfl rfl ci_1 rfl ?_
      refine r_go rfl ?_
      have q := K2 _ _ H
      exact q
    · refine r_ic (v := 0) rfl ci_0 ?_
      exact r_retz H rfl rfl ⟨Nat.zero_le _, Nat.zero_le _⟩
def f_X7_calm (a0 : Nat) (a1 : Int32) : M Int32 := bnd (f_X7_bound a1 (0 : Int32) (99 : Int32)) fun t1 => if t1 = (0 : Int32) then bnd (cv 6 a0 (f_X7_findWeeks a0 (61 : Int32))) fun _ => loopK NF (fun (s5 : Int32) k6 => if (60 : Int32) < s5 then rt (-9 : Int32) else bnd (cv 6 a0 (f_X7_isCalm a0 s5 a1)) fun t7 => if t7 = (0 : Int32) then k6 (s5 + (1 : Int32)) else bnd (cv 6 a0 (f_X7_fooledAt a0 s5 a1)) fun t9 => if t9 = (0 : Int32) then k6 (s5 + (1 : Int32)) else rt s5) (0 : Int32) else bnd (cv 6 a0 (f_X7_no a0 t1)) fun t11 => rt t11
set_option maxRecDepth 20000 in
theorem s_X7_calm (a0 : Nat) (a1 : Int32) : Sm eX7_calm [.ref a0, .int a1] eI (f_X7_calm a0 a1) := by
  intro hp vr hr H
  unfold f_X7_calm at H
  show Rn none 0 0 eX7_calm 0 [some (.ref a0), some (.int a1), none, none] [] hp (eI vr, hr)
  refine r_iln rfl rfl rfl ?_
  refine r_ic (v := 0) rfl ci_0 ?_
  refine r_bi (v := 99) rfl cb_99 ?_
  refine r_stI (rest := []) H rfl rfl (s_X7_bound a1 (0 : Int32) (99 : Int32)) rfl rfl ⟨rfl, rfl⟩ rfl (fun t1 h2 H => ?_)
  refine r_isn (L' := [some (.ref a0), some (.int a1), some (.int t1), none]) rfl rfl (Nat.le_of_ble_eq_true rfl) rfl ?_
  refine r_iln rfl rfl rfl ?_
  refine r_if H rfl rfl (fun H => ?_) (fun H => ?_)
  · refine r_aln rfl rfl rfl ?_
    refine r_bi (v := 61) rfl cb_61 ?_
    refine r_vtU (rest := []) H rfl rfl rfl (s_X7_findWeeks a0 (61 : Int32)) rfl rfl ⟨rfl, rfl⟩ rfl (fun t3 h4 H => ?_)
    refine r_ic (v := 0) rfl ci_0 ?_
    refine r_isn (L' := [some (.ref a0), some (.int a1), some (.int t1), some (.int (0 : Int32))]) rfl rfl (Nat.le_of_ble_eq_true rfl) rfl ?_
    refine (r_loop (P := (fun (s5 : Int32) hq => Rn none 0 0 eX7_calm 16 [some (.ref a0), some (.int a1), some (.int t1), some (.int s5)] [] hq (eI vr, hr))) ?_ NF _ _ H)
    intro k6 K6 s5 hs5 H 
    refine r_iln rfl rfl rfl ?_
    refine r_bi (v := 60) rfl cb_60 ?_
    refine r_cmp H rfl rfl (fun H => ?_) (fun H => ?_)
    · refine r_bi (v := -9) rfl cb_m9 ?_
      exact r_reti H rfl rfl ⟨Nat.zero_le _, Nat.zero_le _⟩
    · refine r_aln rfl rfl rfl ?_
      refine r_iln rfl rfl rfl ?_
      refine r_iln rfl rfl rfl ?_
      refine r_vtI (rest := []) H rfl rfl rfl (s_X7_isCalm a0 s5 a1) rfl rfl ⟨rfl, rfl⟩ rfl (fun t7 h8 H => ?_)
      refine r_if H rfl rfl (fun H => ?_) (fun H => ?_)
      · refine r_inc (v := 1) (L' := [some (.ref a0), some (.int a1), some (.int t1), some (.int (s5 + (1 : Int32)))]) rfl rfl ci_1 rfl ?_
        refine r_go rfl ?_
        have q := K6 _ _ H
        exact q
      · refine r_aln rfl rfl rfl ?_
        refine r_iln rfl rfl rfl ?_
        refine r_iln rfl rfl rfl ?_
        refine r_vtI (rest := []) H rfl rfl rfl (s_X7_fooledAt a0 s5 a1) rfl rfl ⟨rfl, rfl⟩ rfl (fun t9 h10 H => ?_)
        refine r_if H rfl rfl (fun H => ?_) (fun H => ?_)
        · refine r_inc (v := 1) (L' := [some (.ref a0), some (.int a1), some (.int t1), some (.int (s5 + (1 : Int32)))]) rfl rfl ci_1 rfl ?_
          refine r_go rfl ?_
          have q := K6 _ _ H
          exact q
        · refine r_iln rfl rfl rfl ?_
          exact r_reti H rfl rfl ⟨Nat.zero_le _, Nat.zero_le _⟩
  · refine r_aln rfl rfl rfl ?_
    refine r_iln rfl rfl rfl ?_
    refine r_vtI (rest := []) H rfl rfl rfl (s_X7_no a0 t1) rfl rfl ⟨rfl, rfl⟩ rfl (fun t11 h12 H => ?_)
    exact r_reti H rfl rfl ⟨Nat.zero_le _, Nat.zero_le _⟩
def f_X7_untrue (a0 : Nat) (a1 : Int32) : M Int32 := loopK NF (fun (s1 : Int32 × Int32) k2 => bnd (gI 6 8 a0) fun t3 => if t3 ≤ s1.2 then rt s1.1 else if ¬ s1.2 = a1 then bnd (gR 6 3 a0) fun r4 => bnd (aI r4 s1.2) fun t5 => bnd (cv 6 a0 (f_X7_saidOf a0 a1 t5)) fun t6 => bnd (gR 6 3 a0) fun r8 => bnd (aI r8 s1.2) fun t9 => bnd (f_X7_far t6 t9) fun t10 => k2 ((s1.1 + t10), (s1.2 + (1 : Int32))) else k2 ((s1.1 + (0 : Int32)), (s1.2 + (1 : Int32)))) ((0 : Int32), (0 : Int32))
set_option maxRecDepth 20000 in
theorem s_X7_untrue (a0 : Nat) (a1 : Int32) : Sm eX7_untrue [.ref a0, .int a1] eI (f_X7_untrue a0 a1) := by
  intro hp vr hr H
  unfold f_X7_untrue at H
  show Rn none 0 0 eX7_untrue 0 [some (.ref a0), some (.int a1), none, none] [] hp (eI vr, hr)
  refine r_ic (v := 0) rfl ci_0 ?_
  refine r_isn (L' := [some (.ref a0), some (.int a1), some (.int (0 : Int32)), none]) rfl rfl (Nat.le_of_ble_eq_true rfl) rfl ?_
  refine r_ic (v := 0) rfl ci_0 ?_
  refine r_isn (L' := [some (.ref a0), some (.int a1), some (.int (0 : Int32)), some (.int (0 : Int32))]) rfl rfl (Nat.le_of_ble_eq_true rfl) rfl ?_
  refine (r_loop (P := (fun (s1 : Int32 × Int32) hq => ∀ ys1_0 : Int32, ∀ ys1_1 : Int32, s1 = (ys1_0, ys1_1) → Rn none 0 0 eX7_untrue 4 [some (.ref a0), some (.int a1), some (.int ys1_0), some (.int ys1_1)] [] hq (eI vr, hr))) ?_ NF _ _ H) _ _ rfl
  intro k2 K2 s1 hs1 H ys1_0 ys1_1 es1 
  subst es1
  refine r_iln rfl rfl rfl ?_
  refine r_aln rfl rfl rfl ?_
  refine r_gI' H rfl kl_6_8 (fun t3 H => ?_)
  refine r_cmp H rfl rfl (fun H => ?_) (fun H => ?_)
  · refine r_iln rfl rfl rfl ?_
    exact r_reti H rfl rfl ⟨Nat.zero_le _, Nat.zero_le _⟩
  · refine r_iln rfl rfl rfl ?_
    refine r_iln rfl rfl rfl ?_
    refine r_iln rfl rfl rfl ?_
    refine r_cmp H rfl rfl (fun H => ?_) (fun H => ?_)
    · refine r_aln rfl rfl rfl ?_
      refine r_iln rfl rfl rfl ?_
      refine r_aln rfl rfl rfl ?_
      refine r_gR H rfl kd_6_3 (fun r4 H => ?_)
      refine r_iln rfl rfl rfl ?_
      refine r_aI' H rfl (fun t5 H => ?_)
      refine r_vtI (rest := [.int ys1_0]) H rfl rfl rfl (s_X7_saidOf a0 a1 t5) rfl rfl ⟨rfl, rfl⟩ rfl (fun t6 h7 H => ?_)
      refine r_aln rfl rfl rfl ?_
      refine r_gR H rfl kd_6_3 (fun r8 H => ?_)
      refine r_iln rfl rfl rfl ?_
      refine r_aI' H rfl (fun t9 H => ?_)
      refine r_stI (rest := [.int ys1_0]) H rfl rfl (s_X7_far t6 t9) rfl rfl ⟨rfl, rfl⟩ rfl (fun t10 h11 H => ?_)
      refine r_add rfl ?_
      refine r_isn (L' := [some (.ref a0), some (.int a1), some (.int (ys1_0 + t10)), some (.int ys1_1)]) rfl rfl (Nat.le_of_ble_eq_true rfl) rfl ?_
      refine r_inc (v := 1) (L' := [some (.ref a0), some (.int a1), some (.int (ys1_0 + t10)), some (.int (ys1_1 + (1 : Int32)))]) rfl rfl ci_1 rfl ?_
      refine r_go rfl ?_
      have q := K2 _ _ H _ _ rfl
      exact q
    · refine r_ic (v := 0) rfl ci_0 ?_
      refine r_go rfl ?_
      refine r_add rfl ?_
      refine r_isn (L' := [some (.ref a0), some (.int a1), some (.int (ys1_0 + (0 : Int32))), some (.int ys1_1)]) rfl rfl (Nat.le_of_ble_eq_true rfl) rfl ?_
      refine r_inc (v := 1) (L' := [some (.ref a0), some (.int a1), some (.int (ys1_0 + (0 : Int32))), some (.int (ys1_1 + (1 : Int32)))]) rfl rfl ci_1 rfl ?_
      refine r_go rfl ?_
      have q := K2 _ _ H _ _ rfl
      exact q
def f_X7_honest (a0 : Nat) (a1 : Int32) : M Int32 := bnd (f_X7_isIn a1 (0 : Int32) (1 : Int32)) fun t1 => if ¬ t1 = (0 : Int32) then bnd (gI 6 8 a0) fun t3 => if (2 : Int32) ≤ t3 then loopK NF (fun (s4 : Int32 × Int32) k5 => bnd (gI 6 8 a0) fun t6 => if t6 ≤ s4.2 then if ¬ a1 = (0 : Int32) then bnd (cv 6 a0 (f_X7_untrue a0 s4.1)) fun t7 => rt t7 else rt s4.1 else bnd (cv 6 a0 (f_X7_untrue a0 s4.2)) fun t9 => bnd (cv 6 a0 (f_X7_untrue a0 s4.1)) fun t11 => if t11 ≤ t9 then k5 (s4.1, (s4.2 + (1 : Int32))) else k5 (s4.2, (s4.2 + (1 : Int32)))) ((0 : Int32), (1 : Int32)) else rt (-9 : Int32) else bnd (cv 6 a0 (f_X7_no a0 (-2 : Int32))) fun t13 => rt t13
set_option maxRecDepth 20000 in
theorem s_X7_honest (a0 : Nat) (a1 : Int32) : Sm eX7_honest [.ref a0, .int a1] eI (f_X7_honest a0 a1) := by
  intro hp vr hr H
  unfold f_X7_honest at H
  show Rn none 0 0 eX7_honest 0 [some (.ref a0), some (.int a1), none, none] [] hp (eI vr, hr)
  refine r_iln rfl rfl rfl ?_
  refine r_ic (v := 0) rfl ci_0 ?_
  refine r_ic (v := 1) rfl ci_1 ?_
  refine r_stI (rest := []) H rfl rfl (s_X7_isIn a1 (0 : Int32) (1 : Int32)) rfl rfl ⟨rfl, rfl⟩ rfl (fun t1 h2 H => ?_)
  refine r_if H rfl rfl (fun H => ?_) (fun H => ?_)
  · refine r_aln rfl rfl rfl ?_
    refine r_gI' H rfl kl_6_8 (fun t3 H => ?_)
    refine r_ic (v := 2) rfl ci_2 ?_
    refine r_cmp H rfl rfl (fun H => ?_) (fun H => ?_)
    · refine r_ic (v := 0) rfl ci_0 ?_
      refine r_isn (L' := [some (.ref a0), some (.int a1), some (.int (0 : Int32)), none]) rfl rfl (Nat.le_of_ble_eq_true rfl) rfl ?_
      refine r_ic (v := 1) rfl ci_1 ?_
      refine r_isn (L' := [some (.ref a0), some (.int a1), some (.int (0 : Int32)), some (.int (1 : Int32))]) rfl rfl (Nat.le_of_ble_eq_true rfl) rfl ?_
      refine (r_loop (P := (fun (s4 : Int32 × Int32) hq => ∀ ys4_0 : Int32, ∀ ys4_1 : Int32, s4 = (ys4_0, ys4_1) → Rn none 0 0 eX7_honest 19 [some (.ref a0), some (.int a1), some (.int ys4_0), some (.int ys4_1)] [] hq (eI vr, hr))) ?_ NF _ _ H) _ _ rfl
      intro k5 K5 s4 hs4 H ys4_0 ys4_1 es4 
      subst es4
      refine r_iln rfl rfl rfl ?_
      refine r_aln rfl rfl rfl ?_
      refine r_gI' H rfl kl_6_8 (fun t6 H => ?_)
      refine r_cmp H rfl rfl (fun H => ?_) (fun H => ?_)
      · refine r_iln rfl rfl rfl ?_
        refine r_if H rfl rfl (fun H => ?_) (fun H => ?_)
        · refine r_aln rfl rfl rfl ?_
          refine r_iln rfl rfl rfl ?_
          refine r_vtI (rest := []) H rfl rfl rfl (s_X7_untrue a0 ys4_0) rfl rfl ⟨rfl, rfl⟩ rfl (fun t7 h8 H => ?_)
          exact r_reti H rfl rfl ⟨Nat.zero_le _, Nat.zero_le _⟩
        · refine r_iln rfl rfl rfl ?_
          refine r_go rfl ?_
          exact r_reti H rfl rfl ⟨Nat.zero_le _, Nat.zero_le _⟩
      · refine r_aln rfl rfl rfl ?_
        refine r_iln rfl rfl rfl ?_
        refine r_vtI (rest := []) H rfl rfl rfl (s_X7_untrue a0 ys4_1) rfl rfl ⟨rfl, rfl⟩ rfl (fun t9 h10 H => ?_)
        refine r_aln rfl rfl rfl ?_
        refine r_iln rfl rfl rfl ?_
        refine r_vtI (rest := [.int t9]) H rfl rfl rfl (s_X7_untrue a0 ys4_0) rfl rfl ⟨rfl, rfl⟩ rfl (fun t11 h12 H => ?_)
        refine r_cmp H rfl rfl (fun H => ?_) (fun H => ?_)
        · refine r_iln rfl rfl rfl ?_
          refine r_isn (L' := [some (.ref a0), some (.int a1), some (.int ys4_0), some (.int ys4_1)]) rfl rfl (Nat.le_of_ble_eq_true rfl) rfl ?_
          refine r_inc (v := 1) (L' := [some (.ref a0), some (.int a1), some (.int ys4_0), some (.int (ys4_1 + (1 : Int32)))]) rfl rfl ci_1 rfl ?_
          refine r_go rfl ?_
          have q := K5 _ _ H _ _ rfl
          exact q
        · refine r_iln rfl rfl rfl ?_
          refine r_go rfl ?_
          refine r_isn (L' := [some (.ref a0), some (.int a1), some (.int ys4_1), some (.int ys4_1)]) rfl rfl (Nat.le_of_ble_eq_true rfl) rfl ?_
          refine r_inc (v := 1) (L' := [some (.ref a0), some (.int a1), some (.int ys4_1), some (.int (ys4_1 + (1 : Int32)))]) rfl rfl ci_1 rfl ?_
          refine r_go rfl ?_
          have q := K5 _ _ H _ _ rfl
          exact q
    · refine r_bi (v := -9) rfl cb_m9 ?_
      exact r_reti H rfl rfl ⟨Nat.zero_le _, Nat.zero_le _⟩
  · refine r_aln rfl rfl rfl ?_
    refine r_bi (v := -2) rfl cb_m2 ?_
    refine r_vtI (rest := []) H rfl rfl rfl (s_X7_no a0 (-2 : Int32)) rfl rfl ⟨rfl, rfl⟩ rfl (fun t13 h14 H => ?_)
    exact r_reti H rfl rfl ⟨Nat.zero_le _, Nat.zero_le _⟩
def f_X7_chainOf (a0 : Nat) (a1 : Int32) (a2 : Int32) (a3 : Int32) : M Int32 := loopK NF (fun (s1 : Int32 × Int32) k2 => if (7 : Int32) < s1.2 then rt (-9 : Int32) else loopK NF (fun (s5 : Int32 × Int32) k6 => bnd (gI 6 8 a0) fun t7 => if t7 ≤ s5.2 then bnd (f_X7_has (s1.1 ||| (s5.1 &&& (a3 ^^^ (-1 : Int32)))) a2) fun t8 => if t8 = (0 : Int32) then k2 ((s1.1 ||| (s5.1 &&& (a3 ^^^ (-1 : Int32)))), (s1.2 + (1 : Int32))) else rt s1.2 else bnd (f_X7_has s1.1 s5.2) fun t10 => if t10 = (0 : Int32) then k6 ((s5.1 ||| (0 : Int32)), (s5.2 + (1 : Int32))) else bnd (gR 6 5 a0) fun r12 => bnd (aI r12 s5.2) fun t13 => k6 ((s5.1 ||| t13), (s5.2 + (1 : Int32)))) ((0 : Int32), (0 : Int32))) (((1 : Int32) <<< (a1 &&& (31 : Int32))), (1 : Int32))
set_option maxRecDepth 20000 in
theorem s_X7_chainOf (a0 : Nat) (a1 : Int32) (a2 : Int32) (a3 : Int32) : Sm eX7_chainOf [.ref a0, .int a1, .int a2, .int a3] eI (f_X7_chainOf a0 a1 a2 a3) := by
  intro hp vr hr H
  unfold f_X7_chainOf at H
  show Rn none 0 0 eX7_chainOf 0 [some (.ref a0), some (.int a1), some (.int a2), some (.int a3), none, none, none, none] [] hp (eI vr, hr)
  refine r_ic (v := 1) rfl ci_1 ?_
  refine r_iln rfl rfl rfl ?_
  refine r_shl rfl ?_
  refine r_is (L' := [some (.ref a0), some (.int a1), some (.int a2), some (.int a3), some (.int ((1 : Int32) <<< (a1 &&& (31 : Int32)))), none, none, none]) rfl (Nat.le_of_ble_eq_true rfl) rfl ?_
  refine r_ic (v := 1) rfl ci_1 ?_
  refine r_is (L' := [some (.ref a0), some (.int a1), some (.int a2), some (.int a3), some (.int ((1 : Int32) <<< (a1 &&& (31 : Int32)))), some (.int (1 : Int32)), none, none]) rfl (Nat.le_of_ble_eq_true rfl) rfl ?_
  refine (r_loop (P := (fun (s1 : Int32 × Int32) hq => ∀ ys1_0 : Int32, ∀ ys1_1 : Int32, s1 = (ys1_0, ys1_1) → ∀ x3 : Option Value, ∀ x4 : Option Value, Rn none 0 0 eX7_chainOf 6 [some (.ref a0), some (.int a1), some (.int a2), some (.int a3), some (.int ys1_0), some (.int ys1_1), x3, x4] [] hq (eI vr, hr))) ?_ NF _ _ H) _ _ rfl _ _
  intro k2 K2 s1 hs1 H ys1_0 ys1_1 es1 x3 x4
  subst es1
  refine r_il rfl rfl ?_
  refine r_bi (v := 7) rfl cb_7 ?_
  refine r_cmp H rfl rfl (fun H => ?_) (fun H => ?_)
  · refine r_bi (v := -9) rfl cb_m9 ?_
    exact r_reti H rfl rfl ⟨Nat.zero_le _, Nat.zero_le _⟩
  · refine r_ic (v := 0) rfl ci_0 ?_
    refine r_is (L' := [some (.ref a0), some (.int a1), some (.int a2), some (.int a3), some (.int ys1_0), some (.int ys1_1), some (.int (0 : Int32)), x4]) rfl (Nat.le_of_ble_eq_true rfl) rfl ?_
    refine r_ic (v := 0) rfl ci_0 ?_
    refine r_is (L' := [some (.ref a0), some (.int a1), some (.int a2), some (.int a3), some (.int ys1_0), some (.int ys1_1), some (.int (0 : Int32)), some (.int (0 : Int32))]) rfl (Nat.le_of_ble_eq_true rfl) rfl ?_
    refine (r_loop (P := (fun (s5 : Int32 × Int32) hq => ∀ ys5_0 : Int32, ∀ ys5_1 : Int32, s5 = (ys5_0, ys5_1) → Rn none 0 0 eX7_chainOf 13 [some (.ref a0), some (.int a1), some (.int a2), some (.int a3), some (.int ys1_0), some (.int ys1_1), some (.int ys5_0), some (.int ys5_1)] [] hq (eI vr, hr))) ?_ NF _ _ H) _ _ rfl
    intro k6 K6 s5 hs5 H ys5_0 ys5_1 es5 
    subst es5
    refine r_il rfl rfl ?_
    refine r_aln rfl rfl rfl ?_
    refine r_gI' H rfl kl_6_8 (fun t7 H => ?_)
    refine r_cmp H rfl rfl (fun H => ?_) (fun H => ?_)
    · refine r_il rfl rfl ?_
      refine r_il rfl rfl ?_
      refine r_iln rfl rfl rfl ?_
      refine r_ic (v := -1) rfl ci_m1 ?_
      refine r_xor rfl ?_
      refine r_and rfl ?_
      refine r_or rfl ?_
      refine r_is (L' := [some (.ref a0), some (.int a1), some (.int a2), some (.int a3), some (.int (ys1_0 ||| (ys5_0 &&& (a3 ^^^ (-1 : Int32))))), some (.int ys1_1), some (.int ys5_0), some (.int ys5_1)]) rfl (Nat.le_of_ble_eq_true rfl) rfl ?_
      refine r_il rfl rfl ?_
      refine r_iln rfl rfl rfl ?_
      refine r_stI (rest := []) H rfl rfl (s_X7_has (ys1_0 ||| (ys5_0 &&& (a3 ^^^ (-1 : Int32)))) a2) rfl rfl ⟨rfl, rfl⟩ rfl (fun t8 h9 H => ?_)
      refine r_if H rfl rfl (fun H => ?_) (fun H => ?_)
      · refine r_inc (v := 1) (L' := [some (.ref a0), some (.int a1), some (.int a2), some (.int a3), some (.int (ys1_0 ||| (ys5_0 &&& (a3 ^^^ (-1 : Int32))))), some (.int (ys1_1 + (1 : Int32))), some (.int ys5_0), some (.int ys5_1)]) rfl rfl ci_1 rfl ?_
        refine r_go rfl ?_
        have q := K2 _ _ H _ _ rfl
        exact q _ _
      · refine r_il rfl rfl ?_
        exact r_reti H rfl rfl ⟨Nat.zero_le _, Nat.zero_le _⟩
    · refine r_il rfl rfl ?_
      refine r_il rfl rfl ?_
      refine r_il rfl rfl ?_
      refine r_stI (rest := [.int ys5_0]) H rfl rfl (s_X7_has ys1_0 ys5_1) rfl rfl ⟨rfl, rfl⟩ rfl (fun t10 h11 H => ?_)
      refine r_if H rfl rfl (fun H => ?_) (fun H => ?_)
      · refine r_ic (v := 0) rfl ci_0 ?_
        refine r_or rfl ?_
        refine r_is (L' := [some (.ref a0), some (.int a1), some (.int a2), some (.int a3), some (.int ys1_0), some (.int ys1_1), some (.int (ys5_0 ||| (0 : Int32))), some (.int ys5_1)]) rfl (Nat.le_of_ble_eq_true rfl) rfl ?_
        refine r_inc (v := 1) (L' := [some (.ref a0), some (.int a1), some (.int a2), some (.int a3), some (.int ys1_0), some (.int ys1_1), some (.int (ys5_0 ||| (0 : Int32))), some (.int (ys5_1 + (1 : Int32)))]) rfl rfl ci_1 rfl ?_
        refine r_go rfl ?_
        have q := K6 _ _ H _ _ rfl
        exact q
      · refine r_aln rfl rfl rfl ?_
        refine r_gR H rfl kd_6_5 (fun r12 H => ?_)
        refine r_il rfl rfl ?_
        refine r_aI' H rfl (fun t13 H => ?_)
        refine r_go rfl ?_
        refine r_or rfl ?_
        refine r_is (L' := [some (.ref a0), some (.int a1), some (.int a2), some (.int a3), some (.int ys1_0), some (.int ys1_1), some (.int (ys5_0 ||| t13)), some (.int ys5_1)]) rfl (Nat.le_of_ble_eq_true rfl) rfl ?_
        refine r_inc (v := 1) (L' := [some (.ref a0), some (.int a1), some (.int a2), some (.int a3), some (.int ys1_0), some (.int ys1_1), some (.int (ys5_0 ||| t13)), some (.int (ys5_1 + (1 : Int32)))]) rfl rfl ci_1 rfl ?_
        refine r_go rfl ?_
        have q := K6 _ _ H _ _ rfl
        exact q
def f_X7_chain (a0 : Nat) (a1 : Int32) (a2 : Int32) : M Int32 := bnd (cv 6 a0 (f_X7_areTwo a0 a1 a2)) fun t1 => if t1 = (0 : Int32) then bnd (cv 6 a0 (f_X7_no a0 (-1 : Int32))) fun t3 => rt t3 else bnd (cv 6 a0 (f_X7_chainOf a0 a1 a2 (0 : Int32))) fun t5 => rt t5
set_option maxRecDepth 20000 in
theorem s_X7_chain (a0 : Nat) (a1 : Int32) (a2 : Int32) : Sm eX7_chain [.ref a0, .int a1, .int a2] eI (f_X7_chain a0 a1 a2) := by
  intro hp vr hr H
  unfold f_X7_chain at H
  show Rn none 0 0 eX7_chain 0 [some (.ref a0), some (.int a1), some (.int a2)] [] hp (eI vr, hr)
  refine r_aln rfl rfl rfl ?_
  refine r_iln rfl rfl rfl ?_
  refine r_iln rfl rfl rfl ?_
  refine r_vtI (rest := []) H rfl rfl rfl (s_X7_areTwo a0 a1 a2) rfl rfl ⟨rfl, rfl⟩ rfl (fun t1 h2 H => ?_)
  refine r_if H rfl rfl (fun H => ?_) (fun H => ?_)
  · refine r_aln rfl rfl rfl ?_
    refine r_ic (v := -1) rfl ci_m1 ?_
    refine r_vtI (rest := []) H rfl rfl rfl (s_X7_no a0 (-1 : Int32)) rfl rfl ⟨rfl, rfl⟩ rfl (fun t3 h4 H => ?_)
    exact r_reti H rfl rfl ⟨Nat.zero_le _, Nat.zero_le _⟩
  · refine r_aln rfl rfl rfl ?_
    refine r_iln rfl rfl rfl ?_
    refine r_iln rfl rfl rfl ?_
    refine r_ic (v := 0) rfl ci_0 ?_
    refine r_vtI (rest := []) H rfl rfl rfl (s_X7_chainOf a0 a1 a2 (0 : Int32)) rfl rfl ⟨rfl, rfl⟩ rfl (fun t5 h6 H => ?_)
    refine r_go rfl ?_
    exact r_reti H rfl rfl ⟨Nat.zero_le _, Nat.zero_le _⟩
def f_X7_isClique (a0 : Nat) (a1 : Int32) : M Int32 := loopK NF (fun (s1 : Int32) k2 => bnd (gI 6 8 a0) fun t3 => if t3 ≤ s1 then retZ (1 : Int32) else bnd (f_X7_has a1 s1) fun t4 => if t4 = (0 : Int32) then k2 (s1 + (1 : Int32)) else bnd (gR 6 5 a0) fun r6 => bnd (aI r6 s1) fun t7 => if ((a1 &&& (((1 : Int32) <<< (s1 &&& (31 : Int32))) ^^^ (-1 : Int32))) &&& (t7 ^^^ (-1 : Int32))) = (0 : Int32) then k2 (s1 + (1 : Int32)) else retZ (0 : Int32)) (0 : Int32)
set_option maxRecDepth 20000 in
theorem s_X7_isClique (a0 : Nat) (a1 : Int32) : Sm eX7_isClique [.ref a0, .int a1] eI (f_X7_isClique a0 a1) := by
  intro hp vr hr H
  unfold f_X7_isClique at H
  show Rn none 0 0 eX7_isClique 0 [some (.ref a0), some (.int a1), none] [] hp (eI vr, hr)
  refine r_ic (v := 0) rfl ci_0 ?_
  refine r_isn (L' := [some (.ref a0), some (.int a1), some (.int (0 : Int32))]) rfl rfl (Nat.le_of_ble_eq_true rfl) rfl ?_
  refine (r_loop (P := (fun (s1 : Int32) hq => Rn none 0 0 eX7_isClique 2 [some (.ref a0), some (.int a1), some (.int s1)] [] hq (eI vr, hr))) ?_ NF _ _ H)
  intro k2 K2 s1 hs1 H 
  refine r_iln rfl rfl rfl ?_
  refine r_aln rfl rfl rfl ?_
  refine r_gI' H rfl kl_6_8 (fun t3 H => ?_)
  refine r_cmp H rfl rfl (fun H => ?_) (fun H => ?_)
  · refine r_ic (v := 1) rfl ci_1 ?_
    exact r_retz H rfl rfl ⟨Nat.zero_le _, Nat.zero_le _⟩
  · refine r_iln rfl rfl rfl ?_
    refine r_iln rfl rfl rfl ?_
    refine r_stI (rest := []) H rfl rfl (s_X7_has a1 s1) rfl rfl ⟨rfl, rfl⟩ rfl (fun t4 h5 H => ?_)
    refine r_if H rfl rfl (fun H => ?_) (fun H => ?_)
    · refine r_inc (v := 1) (L' := [some (.ref a0), some (.int a1), some (.int (s1 + (1 : Int32)))]) rfl rfl ci_1 rfl ?_
      refine r_go rfl ?_
      have q := K2 _ _ H
      exact q
    · refine r_iln rfl rfl rfl ?_
      refine r_ic (v := 1) rfl ci_1 ?_
      refine r_iln rfl rfl rfl ?_
      refine r_shl rfl ?_
      refine r_ic (v := -1) rfl ci_m1 ?_
      refine r_xor rfl ?_
      refine r_and rfl ?_
      refine r_aln rfl rfl rfl ?_
      refine r_gR H rfl kd_6_5 (fun r6 H => ?_)
      refine r_iln rfl rfl rfl ?_
      refine r_aI' H rfl (fun t7 H => ?_)
      refine r_ic (v := -1) rfl ci_m1 ?_
      refine r_xor rfl ?_
      refine r_and rfl ?_
      refine r_if H rfl rfl (fun H => ?_) (fun H => ?_)
      · refine r_inc (v := 1) (L' := [some (.ref a0), some (.int a1), some (.int (s1 + (1 : Int32)))]) rfl rfl ci_1 rfl ?_
        refine r_go rfl ?_
        have q := K2 _ _ H
        exact q
      · refine r_ic (v := 0) rfl ci_0 ?_
        exact r_retz H rfl rfl ⟨Nat.zero_le _, Nat.zero_le _⟩
def f_X7_clique (a0 : Nat) : M Int32 := loopK NF (fun (s1 : Int32 × Int32) k2 => bnd (cv 6 a0 (f_X7_all a0)) fun t3 => if t3 < s1.2 then rt s1.1 else bnd (cv 6 a0 (f_X7_isClique a0 s1.2)) fun t5 => if t5 = (0 : Int32) then k2 (s1.1, (s1.2 + (1 : Int32))) else bnd (f_X7_bits s1.2) fun t7 => bnd (f_X7_bits s1.1) fun t9 => if t7 ≤ t9 then k2 (s1.1, (s1.2 + (1 : Int32))) else k2 (s1.2, (s1.2 + (1 : Int32)))) ((0 : Int32), (1 : Int32))
set_option maxRecDepth 20000 in
theorem s_X7_clique (a0 : Nat) : Sm eX7_clique [.ref a0] eI (f_X7_clique a0) := by
  intro hp vr hr H
  unfold f_X7_clique at H
  show Rn none 0 0 eX7_clique 0 [some (.ref a0), none, none] [] hp (eI vr, hr)
  refine r_ic (v := 0) rfl ci_0 ?_
  refine r_isn (L' := [some (.ref a0), some (.int (0 : Int32)), none]) rfl rfl (Nat.le_of_ble_eq_true rfl) rfl ?_
  refine r_ic (v := 1) rfl ci_1 ?_
  refine r_isn (L' := [some (.ref a0), some (.int (0 : Int32)), some (.int (1 : Int32))]) rfl rfl (Nat.le_of_ble_eq_true rfl) rfl ?_
  refine (r_loop (P := (fun (s1 : Int32 × Int32) hq => ∀ ys1_0 : Int32, ∀ ys1_1 : Int32, s1 = (ys1_0, ys1_1) → Rn none 0 0 eX7_clique 4 [some (.ref a0), some (.int ys1_0), some (.int ys1_1)] [] hq (eI vr, hr))) ?_ NF _ _ H) _ _ rfl
  intro k2 K2 s1 hs1 H ys1_0 ys1_1 es1 
  subst es1
  refine r_iln rfl rfl rfl ?_
  refine r_aln rfl rfl rfl ?_
  refine r_vtI (rest := [.int ys1_1]) H rfl rfl rfl (s_X7_all a0) rfl rfl ⟨rfl, rfl⟩ rfl (fun t3 h4 H => ?_)
  refine r_cmp H rfl rfl (fun H => ?_) (fun H => ?_)
  · refine r_iln rfl rfl rfl ?_
    exact r_reti H rfl rfl ⟨Nat.zero_le _, Nat.zero_le _⟩
  · refine r_aln rfl rfl rfl ?_
    refine r_iln rfl rfl rfl ?_
    refine r_vtI (rest := []) H rfl rfl rfl (s_X7_isClique a0 ys1_1) rfl rfl ⟨rfl, rfl⟩ rfl (fun t5 h6 H => ?_)
    refine r_if H rfl rfl (fun H => ?_) (fun H => ?_)
    · refine r_iln rfl rfl rfl ?_
      refine r_isn (L' := [some (.ref a0), some (.int ys1_0), some (.int ys1_1)]) rfl rfl (Nat.le_of_ble_eq_true rfl) rfl ?_
      refine r_inc (v := 1) (L' := [some (.ref a0), some (.int ys1_0), some (.int (ys1_1 + (1 : Int32)))]) rfl rfl ci_1 rfl ?_
      refine r_go rfl ?_
      have q := K2 _ _ H _ _ rfl
      exact q
    · refine r_iln rfl rfl rfl ?_
      refine r_stI (rest := []) H rfl rfl (s_X7_bits ys1_1) rfl rfl ⟨rfl, rfl⟩ rfl (fun t7 h8 H => ?_)
      refine r_iln rfl rfl rfl ?_
      refine r_stI (rest := [.int t7]) H rfl rfl (s_X7_bits ys1_0) rfl rfl ⟨rfl, rfl⟩ rfl (fun t9 h10 H => ?_)
      refine r_cmp H rfl rfl (fun H => ?_) (fun H => ?_)
      · refine r_iln rfl rfl rfl ?_
        refine r_isn (L' := [some (.ref a0), some (.int ys1_0), some (.int ys1_1)]) rfl rfl (Nat.le_of_ble_eq_true rfl) rfl ?_
        refine r_inc (v := 1) (L' := [some (.ref a0), some (.int ys1_0), some (.int (ys1_1 + (1 : Int32)))]) rfl rfl ci_1 rfl ?_
        refine r_go rfl ?_
        have q := K2 _ _ H _ _ rfl
        exact q
      · refine r_iln rfl rfl rfl ?_
        refine r_go rfl ?_
        refine r_isn (L' := [some (.ref a0), some (.int ys1_1), some (.int ys1_1)]) rfl rfl (Nat.le_of_ble_eq_true rfl) rfl ?_
        refine r_inc (v := 1) (L' := [some (.ref a0), some (.int ys1_1), some (.int (ys1_1 + (1 : Int32)))]) rfl rfl ci_1 rfl ?_
        refine r_go rfl ?_
        have q := K2 _ _ H _ _ rfl
        exact q
