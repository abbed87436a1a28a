/-! THE TABLES' FACTS -/
set_option maxRecDepth 100000 in
theorem gl_ok : GlOK := ⟨List.mem_filter.mpr ⟨by decide +kernel, rfl⟩, trivial, List.mem_filter.mpr ⟨by decide +kernel, rfl⟩, List.mem_filter.mpr ⟨by decide +kernel, rfl⟩, List.mem_filter.mpr ⟨by decide +kernel, rfl⟩, List.mem_filter.mpr ⟨by decide +kernel, rfl⟩, List.mem_filter.mpr ⟨by decide +kernel, rfl⟩, List.mem_filter.mpr ⟨by decide +kernel, rfl⟩,
  ⟨List.mem_filter.mpr ⟨by decide +kernel, rfl⟩, List.mem_filter.mpr ⟨by decide +kernel, rfl⟩⟩, ⟨List.mem_filter.mpr ⟨by decide +kernel, rfl⟩, List.mem_filter.mpr ⟨by decide +kernel, rfl⟩⟩, ⟨List.mem_filter.mpr ⟨by decide +kernel, rfl⟩, List.mem_filter.mpr ⟨by decide +kernel, rfl⟩⟩⟩
theorem u_all {C : String} {T : u_T} {N : Nat} (h1 : (u_ws C T N).all (fun w => lw_tbl.any fun v => decide (v = w)) = true) (h2 : (u_ws C T N).all goodWord = true) : ∀ w ∈ u_ws C T N, w ∈ tbG := by
  intro w hw
  obtain ⟨v, hv, he⟩ := List.any_eq_true.mp (List.all_eq_true.mp h1 w hw)
  have he := of_decide_eq_true he
  subst he
  exact List.mem_filter.mpr ⟨hv, List.all_eq_true.mp h2 _ hw⟩
theorem kinds_of {ci N : Nat} {ty : Nat → FieldType} (h : ((List.range N).all fun k => decide (kd ci k = 0 ∧ ty k = .int) || decide (kd ci k = 1 ∧ ty k = .boolean) || (decide (kd ci k = 2) && (match ty k with
    | .object _ => true
    | .array _ => true
    | _ => false))) = true) : ∀ k, k < N → (kd ci k = 0 ∧ ty k = .int) ∨ (kd ci k = 1 ∧ ty k = .boolean) ∨ (kd ci k = 2 ∧ ((∃ n, ty k = .object n) ∨ ∃ t, ty k = .array t)) := by
  intro k hk
  have := List.all_eq_true.mp h k (List.mem_range.mpr hk)
  simp only [Bool.or_eq_true, Bool.and_eq_true, decide_eq_true_eq] at this
  rcases this with (h | h) | ⟨h1, h2⟩
  · exact Or.inl h
  · exact Or.inr (Or.inl h)
  · refine Or.inr (Or.inr ⟨h1, ?_⟩)
    split at h2
    · rename_i n hn
      exact Or.inl ⟨n, hn⟩
    · rename_i t ht
      exact Or.inr ⟨t, ht⟩
    · cases h2
set_option maxRecDepth 100000 in
theorem cl_0 : (∀ w ∈ u_ws RX0 TX0 9, w ∈ tbG) ∧ (∀ a, a < 9 → ∀ b, b < 9 → a ≠ b → (TX0 a).2.1 ≠ (TX0 b).2.1) ∧ (clk.getD 0 []).length = 9 ∧ ∃ ty : Nat → FieldType, (∀ k, k < 9 → parseFieldDescriptor (TX0 k).2.2.1 = some (ty k)) ∧ ∀ k, k < 9 → (kd 0 k = 0 ∧ ty k = .int) ∨ (kd 0 k = 1 ∧ ty k = .boolean) ∨ (kd 0 k = 2 ∧ ((∃ n, ty k = .object n) ∨ ∃ t, ty k = .array t)) := ⟨u_all (by decide +kernel) (by decide +kernel), nmX0, rfl, tyX0, tyX0_ok, kinds_of (by decide +kernel)⟩
set_option maxRecDepth 100000 in
theorem cl_1 : (∀ w ∈ u_ws RX1 TX1 2, w ∈ tbG) ∧ (∀ a, a < 2 → ∀ b, b < 2 → a ≠ b → (TX1 a).2.1 ≠ (TX1 b).2.1) ∧ (clk.getD 1 []).length = 2 ∧ ∃ ty : Nat → FieldType, (∀ k, k < 2 → parseFieldDescriptor (TX1 k).2.2.1 = some (ty k)) ∧ ∀ k, k < 2 → (kd 1 k = 0 ∧ ty k = .int) ∨ (kd 1 k = 1 ∧ ty k = .boolean) ∨ (kd 1 k = 2 ∧ ((∃ n, ty k = .object n) ∨ ∃ t, ty k = .array t)) := ⟨u_all (by decide +kernel) (by decide +kernel), nmX1, rfl, tyX1, tyX1_ok, kinds_of (by decide +kernel)⟩
set_option maxRecDepth 100000 in
theorem cl_2 : (∀ w ∈ u_ws RX3 TX3 2, w ∈ tbG) ∧ (∀ a, a < 2 → ∀ b, b < 2 → a ≠ b → (TX3 a).2.1 ≠ (TX3 b).2.1) ∧ (clk.getD 2 []).length = 2 ∧ ∃ ty : Nat → FieldType, (∀ k, k < 2 → parseFieldDescriptor (TX3 k).2.2.1 = some (ty k)) ∧ ∀ k, k < 2 → (kd 2 k = 0 ∧ ty k = .int) ∨ (kd 2 k = 1 ∧ ty k = .boolean) ∨ (kd 2 k = 2 ∧ ((∃ n, ty k = .object n) ∨ ∃ t, ty k = .array t)) := ⟨u_all (by decide +kernel) (by decide +kernel), nmX3, rfl, tyX3, tyX3_ok, kinds_of (by decide +kernel)⟩
set_option maxRecDepth 100000 in
theorem cl_3 : (∀ w ∈ u_ws RX4 TX4 3, w ∈ tbG) ∧ (∀ a, a < 3 → ∀ b, b < 3 → a ≠ b → (TX4 a).2.1 ≠ (TX4 b).2.1) ∧ (clk.getD 3 []).length = 3 ∧ ∃ ty : Nat → FieldType, (∀ k, k < 3 → parseFieldDescriptor (TX4 k).2.2.1 = some (ty k)) ∧ ∀ k, k < 3 → (kd 3 k = 0 ∧ ty k = .int) ∨ (kd 3 k = 1 ∧ ty k = .boolean) ∨ (kd 3 k = 2 ∧ ((∃ n, ty k = .object n) ∨ ∃ t, ty k = .array t)) := ⟨u_all (by decide +kernel) (by decide +kernel), nmX4, rfl, tyX4, tyX4_ok, kinds_of (by decide +kernel)⟩
set_option maxRecDepth 100000 in
theorem cl_4 : (∀ w ∈ u_ws RX5 TX5 2, w ∈ tbG) ∧ (∀ a, a < 2 → ∀ b, b < 2 → a ≠ b → (TX5 a).2.1 ≠ (TX5 b).2.1) ∧ (clk.getD 4 []).length = 2 ∧ ∃ ty : Nat → FieldType, (∀ k, k < 2 → parseFieldDescriptor (TX5 k).2.2.1 = some (ty k)) ∧ ∀ k, k < 2 → (kd 4 k = 0 ∧ ty k = .int) ∨ (kd 4 k = 1 ∧ ty k = .boolean) ∨ (kd 4 k = 2 ∧ ((∃ n, ty k = .object n) ∨ ∃ t, ty k = .array t)) := ⟨u_all (by decide +kernel) (by decide +kernel), nmX5, rfl, tyX5, tyX5_ok, kinds_of (by decide +kernel)⟩
set_option maxRecDepth 100000 in
theorem cl_5 : (∀ w ∈ u_ws RX6 TX6 14, w ∈ tbG) ∧ (∀ a, a < 14 → ∀ b, b < 14 → a ≠ b → (TX6 a).2.1 ≠ (TX6 b).2.1) ∧ (clk.getD 5 []).length = 14 ∧ ∃ ty : Nat → FieldType, (∀ k, k < 14 → parseFieldDescriptor (TX6 k).2.2.1 = some (ty k)) ∧ ∀ k, k < 14 → (kd 5 k = 0 ∧ ty k = .int) ∨ (kd 5 k = 1 ∧ ty k = .boolean) ∨ (kd 5 k = 2 ∧ ((∃ n, ty k = .object n) ∨ ∃ t, ty k = .array t)) := ⟨u_all (by decide +kernel) (by decide +kernel), nmX6, rfl, tyX6, tyX6_ok, kinds_of (by decide +kernel)⟩
set_option maxRecDepth 100000 in
theorem cl_6 : (∀ w ∈ u_ws RX7 TX7 30, w ∈ tbG) ∧ (∀ a, a < 30 → ∀ b, b < 30 → a ≠ b → (TX7 a).2.1 ≠ (TX7 b).2.1) ∧ (clk.getD 6 []).length = 30 ∧ ∃ ty : Nat → FieldType, (∀ k, k < 30 → parseFieldDescriptor (TX7 k).2.2.1 = some (ty k)) ∧ ∀ k, k < 30 → (kd 6 k = 0 ∧ ty k = .int) ∨ (kd 6 k = 1 ∧ ty k = .boolean) ∨ (kd 6 k = 2 ∧ ((∃ n, ty k = .object n) ∨ ∃ t, ty k = .array t)) := ⟨u_all (by decide +kernel) (by decide +kernel), nmX7, rfl, tyX7, tyX7_ok, kinds_of (by decide +kernel)⟩
theorem cl_ok : ClOK := by
  intro ci C T N h
  match ci, h with
  | 0, h => cases h; exact cl_0
  | 1, h => cases h; exact cl_1
  | 2, h => cases h; exact cl_2
  | 3, h => cases h; exact cl_3
  | 4, h => cases h; exact cl_4
  | 5, h => cases h; exact cl_5
  | 6, h => cases h; exact cl_6
  | k + 7, h => simp [vwCl] at h
