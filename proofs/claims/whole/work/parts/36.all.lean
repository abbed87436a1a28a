/-! ALL OF IT KEPT, OR PUT BACK -/
/-- from c on the row r holds the reference's people, ways and what hangs -/
def KeptAt (r : Nat → Int32) (c : Nat) (h : HP) : Prop := (∀ k, k < 7 → r (c + k) = h.1 112 k) ∧ (∀ k, k < 7 → r (c + 7 + k) = h.1 113 k) ∧ (∀ k, k < 7 → r (c + 14 + k) = h.1 114 k) ∧ (∀ k, k < 7 → r (c + 21 + k) = h.1 115 k) ∧ (∀ k, k < 7 → r (c + 28 + k) = h.1 116 k) ∧ (∀ k, k < 8 → r (c + 35 + k) = h.1 117 k) ∧ (∀ k, k < 8 → r (c + 43 + k) = h.1 118 k) ∧ r (c + 51) = h.1 110 8 ∧ r (c + 52) = h.1 110 9
theorem X7_passOneK {h : HP} {c : Nat} {v : Int32} (R : RefOk h.2) (h19 : h.1 110 19 = 1) (h20 : h.1 110 20 = nI c) (hc : c < 660) : f_X7_passOne 110 v h = some (v, (setR (setR h.1 123 (upd (h.1 123) c v)) 110 (upd (h.1 110) 20 (nI (c + 1))), h.2)) := by
  unfold f_X7_passOne
  rw [g110_19, h19]
  simp only [jn]
  rw [if_neg (show ¬ (1 : Int32) = 0 by decide), g110_19, h19, if_neg (show ¬ (1 : Int32) = 0 by decide), g110_17 R, g110_20, h20, s123 hc]
  simp only [g110_20, p110_20]
  rw [set_ne _ _ (by decide), h20, nI_1]
  rfl
theorem X7_passOneR {h : HP} {c : Nat} {v : Int32} (R : RefOk h.2) (h19 : h.1 110 19 = 0) (h20 : h.1 110 20 = nI c) (hc : c < 660) : f_X7_passOne 110 v h = some (h.1 123 c, (setR h.1 110 (upd (h.1 110) 20 (nI (c + 1))), h.2)) := by
  unfold f_X7_passOne
  rw [g110_19, h19]
  simp only [jn, if_true]
  rw [g110_17 R, g110_20, h20, a123 hc, g110_19, h19]
  simp only [if_true]
  rw [g110_20, p110_20, h20, nI_1]
  rfl
set_option maxHeartbeats 2000000 in
theorem X7_passesAllK {h : HP} {w : Nat} (R : RefOk h.2) (hw : w ≤ 11) : wp (f_X7_passesAll 110 (nI w) (1 : Int32)) h fun _ h' => KeptAt (h'.1 123) (55 * w) h ∧ (∀ j, j < 55 * w ∨ 55 * w + 53 ≤ j → h'.1 123 j = h.1 123 j) ∧ Same (fun a => a = 110 ∨ a = 123) h h' ∧ ∀ k, ¬ k = 19 → ¬ k = 20 → h'.1 110 k = h.1 110 k := by
  generalize hcw : 55 * w = c
  have hc : c + 55 ≤ 660 := by omega
  unfold f_X7_passesAll wp
  rw [p110_20, p110_19 (Or.inr rfl)]
  have e55 : (55 : Int32) * nI w = nI c := by
    rw [← hcw]
    exact pk_mul 55 w
  rw [e55]
  generalize hg0 : (setR (setR h.1 110 (upd (h.1 110) 20 (nI c))) 110 (upd (setR h.1 110 (upd (h.1 110) 20 (nI c)) 110) 19 (1 : Int32)), h.2) = h0
  have R0 : RefOk h0.2 := by rw [← hg0]; exact R
  have r0 : ∀ a, ¬ a = 110 → h0.1 a = h.1 a := fun a ha => by rw [← hg0]; dsimp only; rw [set_ne _ _ ha, set_ne _ _ ha]
  have z0 : h0.1 110 = upd (upd (h.1 110) 20 (nI c)) 19 1 := by rw [← hg0]; dsimp only; rw [set_eq, set_eq]
  have y0 : h0.1 110 19 = 1 := by rw [z0, upd_eq]
  have c0 : h0.1 110 20 = nI c := by rw [z0, upd_ne _ _ (by decide), upd_eq]
  have q0 : ∀ k, ¬ k = 19 → ¬ k = 20 → h0.1 110 k = h.1 110 k := fun k k1 k2 => by rw [z0, upd_ne _ _ k1, upd_ne _ _ k2]
  have t0 : h0.1 123 = h.1 123 := r0 123 (by decide)
  rw [g110_1 R0, c110, e_bnd (X7_passesK (a := 112) (c := c) (n := 7) R0 rfl (by decide) y0 c0 (by omega))]
  generalize hg1 : Kp h0 112 c 7 = h1
  have R1 : RefOk h1.2 := by rw [← hg1]; exact R0
  have r1 : ∀ a, ¬ a = 110 → ¬ a = 123 → h1.1 a = h.1 a := fun a ha hb => by rw [← hg1, Kp_ne ha hb, r0 a ha]
  have z1 : h1.1 110 = upd (h0.1 110) 20 (nI (c + 7)) := by rw [← hg1]; rfl
  have y1 : h1.1 110 19 = 1 := by rw [z1, upd_ne _ _ (by decide)]; exact y0
  have c1 : h1.1 110 20 = nI (c + 7) := by rw [z1, upd_eq]
  have q1 : ∀ k, ¬ k = 19 → ¬ k = 20 → h1.1 110 k = h.1 110 k := fun k k1 k2 => by rw [z1, upd_ne _ _ k2]; exact q0 k k1 k2
  have i1 : ∀ k, k < 7 → h1.1 123 (c + 0 + k) = h.1 112 k := fun k hk => by rw [← hg1, Kp_123]; dsimp only; rw [if_pos (by omega), r0 112 (by decide), show c + 0 + k - c = k by omega]
  have o1 : ∀ k, k < c + 0 ∨ c + 7 ≤ k → h1.1 123 k = h0.1 123 k := fun k hk => by rw [← hg1, Kp_123]; dsimp only; rw [if_neg (by omega)]
  rw [g110_2 R1, c110, e_bnd (X7_passesK (a := 113) (c := (c + 7)) (n := 7) R1 rfl (by decide) y1 c1 (by omega))]
  generalize hg2 : Kp h1 113 (c + 7) 7 = h2
  have R2 : RefOk h2.2 := by rw [← hg2]; exact R1
  have r2 : ∀ a, ¬ a = 110 → ¬ a = 123 → h2.1 a = h.1 a := fun a ha hb => by rw [← hg2, Kp_ne ha hb, r1 a ha hb]
  have z2 : h2.1 110 = upd (h1.1 110) 20 (nI ((c + 7) + 7)) := by rw [← hg2]; rfl
  have y2 : h2.1 110 19 = 1 := by rw [z2, upd_ne _ _ (by decide)]; exact y1
  have c2 : h2.1 110 20 = nI (c + 14) := by rw [z2, upd_eq]
  have q2 : ∀ k, ¬ k = 19 → ¬ k = 20 → h2.1 110 k = h.1 110 k := fun k k1 k2 => by rw [z2, upd_ne _ _ k2]; exact q1 k k1 k2
  have i2 : ∀ k, k < 7 → h2.1 123 (c + 7 + k) = h.1 113 k := fun k hk => by rw [← hg2, Kp_123]; dsimp only; rw [if_pos (by omega), r1 113 (by decide) (by decide), show c + 7 + k - (c + 7) = k by omega]
  have o2 : ∀ k, k < c + 7 ∨ c + 14 ≤ k → h2.1 123 k = h1.1 123 k := fun k hk => by rw [← hg2, Kp_123]; dsimp only; rw [if_neg (by omega)]
  rw [g110_3 R2, c110, e_bnd (X7_passesK (a := 114) (c := (c + 14)) (n := 7) R2 rfl (by decide) y2 c2 (by omega))]
  generalize hg3 : Kp h2 114 (c + 14) 7 = h3
  have R3 : RefOk h3.2 := by rw [← hg3]; exact R2
  have r3 : ∀ a, ¬ a = 110 → ¬ a = 123 → h3.1 a = h.1 a := fun a ha hb => by rw [← hg3, Kp_ne ha hb, r2 a ha hb]
  have z3 : h3.1 110 = upd (h2.1 110) 20 (nI ((c + 14) + 7)) := by rw [← hg3]; rfl
  have y3 : h3.1 110 19 = 1 := by rw [z3, upd_ne _ _ (by decide)]; exact y2
  have c3 : h3.1 110 20 = nI (c + 21) := by rw [z3, upd_eq]
  have q3 : ∀ k, ¬ k = 19 → ¬ k = 20 → h3.1 110 k = h.1 110 k := fun k k1 k2 => by rw [z3, upd_ne _ _ k2]; exact q2 k k1 k2
  have i3 : ∀ k, k < 7 → h3.1 123 (c + 14 + k) = h.1 114 k := fun k hk => by rw [← hg3, Kp_123]; dsimp only; rw [if_pos (by omega), r2 114 (by decide) (by decide), show c + 14 + k - (c + 14) = k by omega]
  have o3 : ∀ k, k < c + 14 ∨ c + 21 ≤ k → h3.1 123 k = h2.1 123 k := fun k hk => by rw [← hg3, Kp_123]; dsimp only; rw [if_neg (by omega)]
  rw [g110_4 R3, c110, e_bnd (X7_passesK (a := 115) (c := (c + 21)) (n := 7) R3 rfl (by decide) y3 c3 (by omega))]
  generalize hg4 : Kp h3 115 (c + 21) 7 = h4
  have R4 : RefOk h4.2 := by rw [← hg4]; exact R3
  have r4 : ∀ a, ¬ a = 110 → ¬ a = 123 → h4.1 a = h.1 a := fun a ha hb => by rw [← hg4, Kp_ne ha hb, r3 a ha hb]
  have z4 : h4.1 110 = upd (h3.1 110) 20 (nI ((c + 21) + 7)) := by rw [← hg4]; rfl
  have y4 : h4.1 110 19 = 1 := by rw [z4, upd_ne _ _ (by decide)]; exact y3
  have c4 : h4.1 110 20 = nI (c + 28) := by rw [z4, upd_eq]
  have q4 : ∀ k, ¬ k = 19 → ¬ k = 20 → h4.1 110 k = h.1 110 k := fun k k1 k2 => by rw [z4, upd_ne _ _ k2]; exact q3 k k1 k2
  have i4 : ∀ k, k < 7 → h4.1 123 (c + 21 + k) = h.1 115 k := fun k hk => by rw [← hg4, Kp_123]; dsimp only; rw [if_pos (by omega), r3 115 (by decide) (by decide), show c + 21 + k - (c + 21) = k by omega]
  have o4 : ∀ k, k < c + 21 ∨ c + 28 ≤ k → h4.1 123 k = h3.1 123 k := fun k hk => by rw [← hg4, Kp_123]; dsimp only; rw [if_neg (by omega)]
  rw [g110_5 R4, c110, e_bnd (X7_passesK (a := 116) (c := (c + 28)) (n := 7) R4 rfl (by decide) y4 c4 (by omega))]
  generalize hg5 : Kp h4 116 (c + 28) 7 = h5
  have R5 : RefOk h5.2 := by rw [← hg5]; exact R4
  have r5 : ∀ a, ¬ a = 110 → ¬ a = 123 → h5.1 a = h.1 a := fun a ha hb => by rw [← hg5, Kp_ne ha hb, r4 a ha hb]
  have z5 : h5.1 110 = upd (h4.1 110) 20 (nI ((c + 28) + 7)) := by rw [← hg5]; rfl
  have y5 : h5.1 110 19 = 1 := by rw [z5, upd_ne _ _ (by decide)]; exact y4
  have c5 : h5.1 110 20 = nI (c + 35) := by rw [z5, upd_eq]
  have q5 : ∀ k, ¬ k = 19 → ¬ k = 20 → h5.1 110 k = h.1 110 k := fun k k1 k2 => by rw [z5, upd_ne _ _ k2]; exact q4 k k1 k2
  have i5 : ∀ k, k < 7 → h5.1 123 (c + 28 + k) = h.1 116 k := fun k hk => by rw [← hg5, Kp_123]; dsimp only; rw [if_pos (by omega), r4 116 (by decide) (by decide), show c + 28 + k - (c + 28) = k by omega]
  have o5 : ∀ k, k < c + 28 ∨ c + 35 ≤ k → h5.1 123 k = h4.1 123 k := fun k hk => by rw [← hg5, Kp_123]; dsimp only; rw [if_neg (by omega)]
  rw [g110_6 R5, c110, e_bnd (X7_passesK (a := 117) (c := (c + 35)) (n := 8) R5 rfl (by decide) y5 c5 (by omega))]
  generalize hg6 : Kp h5 117 (c + 35) 8 = h6
  have R6 : RefOk h6.2 := by rw [← hg6]; exact R5
  have r6 : ∀ a, ¬ a = 110 → ¬ a = 123 → h6.1 a = h.1 a := fun a ha hb => by rw [← hg6, Kp_ne ha hb, r5 a ha hb]
  have z6 : h6.1 110 = upd (h5.1 110) 20 (nI ((c + 35) + 8)) := by rw [← hg6]; rfl
  have y6 : h6.1 110 19 = 1 := by rw [z6, upd_ne _ _ (by decide)]; exact y5
  have c6 : h6.1 110 20 = nI (c + 43) := by rw [z6, upd_eq]
  have q6 : ∀ k, ¬ k = 19 → ¬ k = 20 → h6.1 110 k = h.1 110 k := fun k k1 k2 => by rw [z6, upd_ne _ _ k2]; exact q5 k k1 k2
  have i6 : ∀ k, k < 8 → h6.1 123 (c + 35 + k) = h.1 117 k := fun k hk => by rw [← hg6, Kp_123]; dsimp only; rw [if_pos (by omega), r5 117 (by decide) (by decide), show c + 35 + k - (c + 35) = k by omega]
  have o6 : ∀ k, k < c + 35 ∨ c + 43 ≤ k → h6.1 123 k = h5.1 123 k := fun k hk => by rw [← hg6, Kp_123]; dsimp only; rw [if_neg (by omega)]
  rw [g110_7 R6, c110, e_bnd (X7_passesK (a := 118) (c := (c + 43)) (n := 8) R6 rfl (by decide) y6 c6 (by omega))]
  generalize hg7 : Kp h6 118 (c + 43) 8 = h7
  have R7 : RefOk h7.2 := by rw [← hg7]; exact R6
  have r7 : ∀ a, ¬ a = 110 → ¬ a = 123 → h7.1 a = h.1 a := fun a ha hb => by rw [← hg7, Kp_ne ha hb, r6 a ha hb]
  have z7 : h7.1 110 = upd (h6.1 110) 20 (nI ((c + 43) + 8)) := by rw [← hg7]; rfl
  have y7 : h7.1 110 19 = 1 := by rw [z7, upd_ne _ _ (by decide)]; exact y6
  have c7 : h7.1 110 20 = nI (c + 51) := by rw [z7, upd_eq]
  have q7 : ∀ k, ¬ k = 19 → ¬ k = 20 → h7.1 110 k = h.1 110 k := fun k k1 k2 => by rw [z7, upd_ne _ _ k2]; exact q6 k k1 k2
  have i7 : ∀ k, k < 8 → h7.1 123 (c + 43 + k) = h.1 118 k := fun k hk => by rw [← hg7, Kp_123]; dsimp only; rw [if_pos (by omega), r6 118 (by decide) (by decide), show c + 43 + k - (c + 43) = k by omega]
  have o7 : ∀ k, k < c + 43 ∨ c + 51 ≤ k → h7.1 123 k = h6.1 123 k := fun k hk => by rw [← hg7, Kp_123]; dsimp only; rw [if_neg (by omega)]
  rw [g110_8, c110, e_bnd (X7_passOneK (c := c + 51) R7 y7 c7 (by omega))]
  simp only [p110_8]
  rw [set_eq]
  generalize hg8 : setR (setR (setR h7.1 123 (upd (h7.1 123) (c + 51) (h7.1 110 8))) 110 (upd (h7.1 110) 20 (nI (c + 51 + 1)))) 110 (upd (upd (h7.1 110) 20 (nI (c + 51 + 1))) 8 (h7.1 110 8)) = g8
  have z8 : g8 110 = upd (upd (h7.1 110) 20 (nI (c + 52))) 8 (h7.1 110 8) := by rw [← hg8, set_eq]
  have t8 : g8 123 = upd (h7.1 123) (c + 51) (h7.1 110 8) := by rw [← hg8, set_ne _ _ (by decide), set_ne _ _ (by decide), set_eq]
  have r8 : ∀ a, ¬ a = 110 → ¬ a = 123 → g8 a = h.1 a := fun a ha hb => by rw [← hg8, set_ne _ _ ha, set_ne _ _ ha, set_ne _ _ hb]; exact r7 a ha hb
  rw [g110_9, c110, e_bnd (X7_passOneK (h := (g8, h7.2)) (c := c + 52) R7 (by dsimp only; rw [z8, upd_ne _ _ (by decide), upd_ne _ _ (by decide)]; exact y7) (by dsimp only; rw [z8, upd_ne _ _ (by decide), upd_eq]) (by omega))]
  simp only [p110_9]
  rw [set_eq]
  generalize hg9 : setR (setR (setR g8 123 (upd (g8 123) (c + 52) (g8 110 9))) 110 (upd (g8 110) 20 (nI (c + 52 + 1)))) 110 (upd (upd (g8 110) 20 (nI (c + 52 + 1))) 9 (g8 110 9)) = g9
  have z9 : g9 110 = upd (upd (g8 110) 20 (nI (c + 53))) 9 (g8 110 9) := by rw [← hg9, set_eq]
  have t9 : g9 123 = upd (g8 123) (c + 52) (g8 110 9) := by rw [← hg9, set_ne _ _ (by decide), set_ne _ _ (by decide), set_eq]
  have r9 : ∀ a, ¬ a = 110 → ¬ a = 123 → g9 a = h.1 a := fun a ha hb => by rw [← hg9, set_ne _ _ ha, set_ne _ _ ha, set_ne _ _ hb]; exact r8 a ha hb
  have v8 : h7.1 110 8 = h.1 110 8 := q7 8 (by decide) (by decide)
  have v9 : g8 110 9 = h.1 110 9 := by rw [z8, upd_ne _ _ (by decide), upd_ne _ _ (by decide)]; exact q7 9 (by decide) (by decide)
  have t : ∀ k, ¬ k = c + 51 → ¬ k = c + 52 → g9 123 k = h7.1 123 k := fun k k1 k2 => by rw [t9, upd_ne _ _ k2, t8, upd_ne _ _ k1]
  refine ⟨_, _, rfl, ⟨fun k hk => ?_, fun k hk => ?_, fun k hk => ?_, fun k hk => ?_, fun k hk => ?_, fun k hk => ?_, fun k hk => ?_, ?_, ?_⟩, fun j hj => ?_, ⟨?_, fun a ha => ?_⟩, fun k k1 k2 => ?_⟩
  · show g9 123 (c + k) = _
    rw [t _ (by omega) (by omega), o7 _ (by omega), o6 _ (by omega), o5 _ (by omega), o4 _ (by omega), o3 _ (by omega), o2 _ (by omega)]
    exact i1 k hk
  · show g9 123 (c + 7 + k) = _
    rw [t _ (by omega) (by omega), o7 _ (by omega), o6 _ (by omega), o5 _ (by omega), o4 _ (by omega), o3 _ (by omega)]
    exact i2 k hk
  · show g9 123 (c + 14 + k) = _
    rw [t _ (by omega) (by omega), o7 _ (by omega), o6 _ (by omega), o5 _ (by omega), o4 _ (by omega)]
    exact i3 k hk
  · show g9 123 (c + 21 + k) = _
    rw [t _ (by omega) (by omega), o7 _ (by omega), o6 _ (by omega), o5 _ (by omega)]
    exact i4 k hk
  · show g9 123 (c + 28 + k) = _
    rw [t _ (by omega) (by omega), o7 _ (by omega), o6 _ (by omega)]
    exact i5 k hk
  · show g9 123 (c + 35 + k) = _
    rw [t _ (by omega) (by omega), o7 _ (by omega)]
    exact i6 k hk
  · show g9 123 (c + 43 + k) = _
    rw [t _ (by omega) (by omega)]
    exact i7 k hk
  · show g9 123 (c + 51) = _
    rw [t9, upd_ne _ _ (by omega), t8, upd_eq, v8]
  · show g9 123 (c + 52) = _
    rw [t9, upd_eq, v9]
  · show g9 123 j = _
    rw [t _ (by omega) (by omega), o7 _ (by omega), o6 _ (by omega), o5 _ (by omega), o4 _ (by omega), o3 _ (by omega), o2 _ (by omega), o1 _ (by omega), t0]
  · rw [show h7.2 = h.2 from ?_]
    rw [← hg7, ← hg6, ← hg5, ← hg4, ← hg3, ← hg2, ← hg1, ← hg0]
    rfl
  · exact r9 a (fun q => ha (Or.inl q)) (fun q => ha (Or.inr q))
  · show g9 110 k = _
    rw [z9]
    by_cases k9 : k = 9
    · rw [k9, upd_eq, v9]
    · rw [upd_ne _ _ k9, upd_ne _ _ k2, z8]
      by_cases k8 : k = 8
      · rw [k8, upd_eq, v8]
      · rw [upd_ne _ _ k8, upd_ne _ _ k2]
        exact q7 k k1 k2
set_option maxHeartbeats 2000000 in
theorem X7_passesAllR {h : HP} {w : Nat} (R : RefOk h.2) (hw : w ≤ 11) : wp (f_X7_passesAll 110 (nI w) (0 : Int32)) h fun _ h' => KeptAt (h.1 123) (55 * w) h' ∧ h'.1 123 = h.1 123 ∧ Same (fun a => a = 110 ∨ (112 ≤ a ∧ a ≤ 118)) h h' ∧ ∀ k, ¬ k = 8 → ¬ k = 9 → ¬ k = 19 → ¬ k = 20 → h'.1 110 k = h.1 110 k := by
  generalize hcw : 55 * w = c
  have hc : c + 55 ≤ 660 := by omega
  unfold f_X7_passesAll wp
  rw [p110_20, p110_19 (Or.inl rfl)]
  have e55 : (55 : Int32) * nI w = nI c := by
    rw [← hcw]
    exact pk_mul 55 w
  rw [e55]
  generalize hg0 : (setR (setR h.1 110 (upd (h.1 110) 20 (nI c))) 110 (upd (setR h.1 110 (upd (h.1 110) 20 (nI c)) 110) 19 (0 : Int32)), h.2) = h0
  have R0 : RefOk h0.2 := by rw [← hg0]; exact R
  have r0 : ∀ a, ¬ a = 110 → h0.1 a = h.1 a := fun a ha => by rw [← hg0]; dsimp only; rw [set_ne _ _ ha, set_ne _ _ ha]
  have z0 : h0.1 110 = upd (upd (h.1 110) 20 (nI c)) 19 0 := by rw [← hg0]; dsimp only; rw [set_eq, set_eq]
  have y0 : h0.1 110 19 = 0 := by rw [z0, upd_eq]
  have c0 : h0.1 110 20 = nI c := by rw [z0, upd_ne _ _ (by decide), upd_eq]
  have q0 : ∀ k, ¬ k = 19 → ¬ k = 20 → h0.1 110 k = h.1 110 k := fun k k1 k2 => by rw [z0, upd_ne _ _ k1, upd_ne _ _ k2]
  have t0 : h0.1 123 = h.1 123 := r0 123 (by decide)
  rw [g110_1 R0, c110, e_bnd (X7_passesR (a := 112) (c := c) (n := 7) R0 rfl (by decide) y0 c0 (by omega))]
  generalize hg1 : Rs h0 112 c 7 = h1
  have R1 : RefOk h1.2 := by rw [← hg1]; exact R0
  have r1 : ∀ a, ¬ a = 110 → ¬ (112 ≤ a ∧ a ≤ 118) → h1.1 a = h.1 a := fun a ha hb => by rw [← hg1, Rs_ne ha (by omega), r0 a ha]
  have z1 : h1.1 110 = upd (h0.1 110) 20 (nI (c + 7)) := by rw [← hg1]; rfl
  have y1 : h1.1 110 19 = 0 := by rw [z1, upd_ne _ _ (by decide)]; exact y0
  have c1 : h1.1 110 20 = nI (c + 7) := by rw [z1, upd_eq]
  have q1 : ∀ k, ¬ k = 19 → ¬ k = 20 → h1.1 110 k = h.1 110 k := fun k k1 k2 => by rw [z1, upd_ne _ _ k2]; exact q0 k k1 k2
  have t1 : h1.1 123 = h.1 123 := by rw [← hg1, Rs_ne (by decide) (by decide)]; exact t0
  have i1 : ∀ k, k < 7 → h1.1 112 k = h.1 123 (c + 0 + k) := fun k hk => by rw [← hg1, Rs_a (by decide)]; dsimp only; rw [if_pos hk, t0]; rfl
  have o1 : ∀ b, ¬ b = 110 → ¬ b = 112 → h1.1 b = h0.1 b := fun b h1 h2 => by rw [← hg1, Rs_ne h1 h2]
  rw [g110_2 R1, c110, e_bnd (X7_passesR (a := 113) (c := (c + 7)) (n := 7) R1 rfl (by decide) y1 c1 (by omega))]
  generalize hg2 : Rs h1 113 (c + 7) 7 = h2
  have R2 : RefOk h2.2 := by rw [← hg2]; exact R1
  have r2 : ∀ a, ¬ a = 110 → ¬ (112 ≤ a ∧ a ≤ 118) → h2.1 a = h.1 a := fun a ha hb => by rw [← hg2, Rs_ne ha (by omega), r1 a ha hb]
  have z2 : h2.1 110 = upd (h1.1 110) 20 (nI ((c + 7) + 7)) := by rw [← hg2]; rfl
  have y2 : h2.1 110 19 = 0 := by rw [z2, upd_ne _ _ (by decide)]; exact y1
  have c2 : h2.1 110 20 = nI (c + 14) := by rw [z2, upd_eq]
  have q2 : ∀ k, ¬ k = 19 → ¬ k = 20 → h2.1 110 k = h.1 110 k := fun k k1 k2 => by rw [z2, upd_ne _ _ k2]; exact q1 k k1 k2
  have t2 : h2.1 123 = h.1 123 := by rw [← hg2, Rs_ne (by decide) (by decide)]; exact t1
  have i2 : ∀ k, k < 7 → h2.1 113 k = h.1 123 (c + 7 + k) := fun k hk => by rw [← hg2, Rs_a (by decide)]; dsimp only; rw [if_pos hk, t1]
  have o2 : ∀ b, ¬ b = 110 → ¬ b = 113 → h2.1 b = h1.1 b := fun b h1 h2 => by rw [← hg2, Rs_ne h1 h2]
  rw [g110_3 R2, c110, e_bnd (X7_passesR (a := 114) (c := (c + 14)) (n := 7) R2 rfl (by decide) y2 c2 (by omega))]
  generalize hg3 : Rs h2 114 (c + 14) 7 = h3
  have R3 : RefOk h3.2 := by rw [← hg3]; exact R2
  have r3 : ∀ a, ¬ a = 110 → ¬ (112 ≤ a ∧ a ≤ 118) → h3.1 a = h.1 a := fun a ha hb => by rw [← hg3, Rs_ne ha (by omega), r2 a ha hb]
  have z3 : h3.1 110 = upd (h2.1 110) 20 (nI ((c + 14) + 7)) := by rw [← hg3]; rfl
  have y3 : h3.1 110 19 = 0 := by rw [z3, upd_ne _ _ (by decide)]; exact y2
  have c3 : h3.1 110 20 = nI (c + 21) := by rw [z3, upd_eq]
  have q3 : ∀ k, ¬ k = 19 → ¬ k = 20 → h3.1 110 k = h.1 110 k := fun k k1 k2 => by rw [z3, upd_ne _ _ k2]; exact q2 k k1 k2
  have t3 : h3.1 123 = h.1 123 := by rw [← hg3, Rs_ne (by decide) (by decide)]; exact t2
  have i3 : ∀ k, k < 7 → h3.1 114 k = h.1 123 (c + 14 + k) := fun k hk => by rw [← hg3, Rs_a (by decide)]; dsimp only; rw [if_pos hk, t2]
  have o3 : ∀ b, ¬ b = 110 → ¬ b = 114 → h3.1 b = h2.1 b := fun b h1 h2 => by rw [← hg3, Rs_ne h1 h2]
  rw [g110_4 R3, c110, e_bnd (X7_passesR (a := 115) (c := (c + 21)) (n := 7) R3 rfl (by decide) y3 c3 (by omega))]
  generalize hg4 : Rs h3 115 (c + 21) 7 = h4
  have R4 : RefOk h4.2 := by rw [← hg4]; exact R3
  have r4 : ∀ a, ¬ a = 110 → ¬ (112 ≤ a ∧ a ≤ 118) → h4.1 a = h.1 a := fun a ha hb => by rw [← hg4, Rs_ne ha (by omega), r3 a ha hb]
  have z4 : h4.1 110 = upd (h3.1 110) 20 (nI ((c + 21) + 7)) := by rw [← hg4]; rfl
  have y4 : h4.1 110 19 = 0 := by rw [z4, upd_ne _ _ (by decide)]; exact y3
  have c4 : h4.1 110 20 = nI (c + 28) := by rw [z4, upd_eq]
  have q4 : ∀ k, ¬ k = 19 → ¬ k = 20 → h4.1 110 k = h.1 110 k := fun k k1 k2 => by rw [z4, upd_ne _ _ k2]; exact q3 k k1 k2
  have t4 : h4.1 123 = h.1 123 := by rw [← hg4, Rs_ne (by decide) (by decide)]; exact t3
  have i4 : ∀ k, k < 7 → h4.1 115 k = h.1 123 (c + 21 + k) := fun k hk => by rw [← hg4, Rs_a (by decide)]; dsimp only; rw [if_pos hk, t3]
  have o4 : ∀ b, ¬ b = 110 → ¬ b = 115 → h4.1 b = h3.1 b := fun b h1 h2 => by rw [← hg4, Rs_ne h1 h2]
  rw [g110_5 R4, c110, e_bnd (X7_passesR (a := 116) (c := (c + 28)) (n := 7) R4 rfl (by decide) y4 c4 (by omega))]
  generalize hg5 : Rs h4 116 (c + 28) 7 = h5
  have R5 : RefOk h5.2 := by rw [← hg5]; exact R4
  have r5 : ∀ a, ¬ a = 110 → ¬ (112 ≤ a ∧ a ≤ 118) → h5.1 a = h.1 a := fun a ha hb => by rw [← hg5, Rs_ne ha (by omega), r4 a ha hb]
  have z5 : h5.1 110 = upd (h4.1 110) 20 (nI ((c + 28) + 7)) := by rw [← hg5]; rfl
  have y5 : h5.1 110 19 = 0 := by rw [z5, upd_ne _ _ (by decide)]; exact y4
  have c5 : h5.1 110 20 = nI (c + 35) := by rw [z5, upd_eq]
  have q5 : ∀ k, ¬ k = 19 → ¬ k = 20 → h5.1 110 k = h.1 110 k := fun k k1 k2 => by rw [z5, upd_ne _ _ k2]; exact q4 k k1 k2
  have t5 : h5.1 123 = h.1 123 := by rw [← hg5, Rs_ne (by decide) (by decide)]; exact t4
  have i5 : ∀ k, k < 7 → h5.1 116 k = h.1 123 (c + 28 + k) := fun k hk => by rw [← hg5, Rs_a (by decide)]; dsimp only; rw [if_pos hk, t4]
  have o5 : ∀ b, ¬ b = 110 → ¬ b = 116 → h5.1 b = h4.1 b := fun b h1 h2 => by rw [← hg5, Rs_ne h1 h2]
  rw [g110_6 R5, c110, e_bnd (X7_passesR (a := 117) (c := (c + 35)) (n := 8) R5 rfl (by decide) y5 c5 (by omega))]
  generalize hg6 : Rs h5 117 (c + 35) 8 = h6
  have R6 : RefOk h6.2 := by rw [← hg6]; exact R5
  have r6 : ∀ a, ¬ a = 110 → ¬ (112 ≤ a ∧ a ≤ 118) → h6.1 a = h.1 a := fun a ha hb => by rw [← hg6, Rs_ne ha (by omega), r5 a ha hb]
  have z6 : h6.1 110 = upd (h5.1 110) 20 (nI ((c + 35) + 8)) := by rw [← hg6]; rfl
  have y6 : h6.1 110 19 = 0 := by rw [z6, upd_ne _ _ (by decide)]; exact y5
  have c6 : h6.1 110 20 = nI (c + 43) := by rw [z6, upd_eq]
  have q6 : ∀ k, ¬ k = 19 → ¬ k = 20 → h6.1 110 k = h.1 110 k := fun k k1 k2 => by rw [z6, upd_ne _ _ k2]; exact q5 k k1 k2
  have t6 : h6.1 123 = h.1 123 := by rw [← hg6, Rs_ne (by decide) (by decide)]; exact t5
  have i6 : ∀ k, k < 8 → h6.1 117 k = h.1 123 (c + 35 + k) := fun k hk => by rw [← hg6, Rs_a (by decide)]; dsimp only; rw [if_pos hk, t5]
  have o6 : ∀ b, ¬ b = 110 → ¬ b = 117 → h6.1 b = h5.1 b := fun b h1 h2 => by rw [← hg6, Rs_ne h1 h2]
  rw [g110_7 R6, c110, e_bnd (X7_passesR (a := 118) (c := (c + 43)) (n := 8) R6 rfl (by decide) y6 c6 (by omega))]
  generalize hg7 : Rs h6 118 (c + 43) 8 = h7
  have R7 : RefOk h7.2 := by rw [← hg7]; exact R6
  have r7 : ∀ a, ¬ a = 110 → ¬ (112 ≤ a ∧ a ≤ 118) → h7.1 a = h.1 a := fun a ha hb => by rw [← hg7, Rs_ne ha (by omega), r6 a ha hb]
  have z7 : h7.1 110 = upd (h6.1 110) 20 (nI ((c + 43) + 8)) := by rw [← hg7]; rfl
  have y7 : h7.1 110 19 = 0 := by rw [z7, upd_ne _ _ (by decide)]; exact y6
  have c7 : h7.1 110 20 = nI (c + 51) := by rw [z7, upd_eq]
  have q7 : ∀ k, ¬ k = 19 → ¬ k = 20 → h7.1 110 k = h.1 110 k := fun k k1 k2 => by rw [z7, upd_ne _ _ k2]; exact q6 k k1 k2
  have t7 : h7.1 123 = h.1 123 := by rw [← hg7, Rs_ne (by decide) (by decide)]; exact t6
  have i7 : ∀ k, k < 8 → h7.1 118 k = h.1 123 (c + 43 + k) := fun k hk => by rw [← hg7, Rs_a (by decide)]; dsimp only; rw [if_pos hk, t6]
  have o7 : ∀ b, ¬ b = 110 → ¬ b = 118 → h7.1 b = h6.1 b := fun b h1 h2 => by rw [← hg7, Rs_ne h1 h2]
  rw [g110_8, c110, e_bnd (X7_passOneR (c := c + 51) R7 y7 c7 (by omega))]
  simp only [p110_8]
  rw [set_eq]
  generalize hg8 : setR (setR h7.1 110 (upd (h7.1 110) 20 (nI (c + 51 + 1)))) 110 (upd (upd (h7.1 110) 20 (nI (c + 51 + 1))) 8 (h7.1 123 (c + 51))) = g8
  have z8 : g8 110 = upd (upd (h7.1 110) 20 (nI (c + 52))) 8 (h7.1 123 (c + 51)) := by rw [← hg8, set_eq]
  have r8 : ∀ a, ¬ a = 110 → g8 a = h7.1 a := fun a ha => by rw [← hg8, set_ne _ _ ha, set_ne _ _ ha]
  rw [g110_9, c110, e_bnd (X7_passOneR (h := (g8, h7.2)) (c := c + 52) R7 (by dsimp only; rw [z8, upd_ne _ _ (by decide), upd_ne _ _ (by decide)]; exact y7) (by dsimp only; rw [z8, upd_ne _ _ (by decide), upd_eq]) (by omega))]
  simp only [p110_9]
  rw [set_eq]
  generalize hg9 : setR (setR g8 110 (upd (g8 110) 20 (nI (c + 52 + 1)))) 110 (upd (upd (g8 110) 20 (nI (c + 52 + 1))) 9 (g8 123 (c + 52))) = g9
  have z9 : g9 110 = upd (upd (g8 110) 20 (nI (c + 53))) 9 (g8 123 (c + 52)) := by rw [← hg9, set_eq]
  have r9 : ∀ a, ¬ a = 110 → g9 a = h7.1 a := fun a ha => by rw [← hg9, set_ne _ _ ha, set_ne _ _ ha]; exact r8 a ha
  refine ⟨_, _, rfl, ⟨fun k hk => ?_, fun k hk => ?_, fun k hk => ?_, fun k hk => ?_, fun k hk => ?_, fun k hk => ?_, fun k hk => ?_, ?_, ?_⟩, ?_, ⟨?_, fun a ha => ?_⟩, fun k k8 k9 k1 k2 => ?_⟩
  · show _ = g9 112 k
    rw [r9 112 (by decide), o7 112 (by decide) (by decide), o6 112 (by decide) (by decide), o5 112 (by decide) (by decide), o4 112 (by decide) (by decide), o3 112 (by decide) (by decide), o2 112 (by decide) (by decide), i1 k hk]
    rfl
  · show _ = g9 113 k
    rw [r9 113 (by decide), o7 113 (by decide) (by decide), o6 113 (by decide) (by decide), o5 113 (by decide) (by decide), o4 113 (by decide) (by decide), o3 113 (by decide) (by decide), i2 k hk]
  · show _ = g9 114 k
    rw [r9 114 (by decide), o7 114 (by decide) (by decide), o6 114 (by decide) (by decide), o5 114 (by decide) (by decide), o4 114 (by decide) (by decide), i3 k hk]
  · show _ = g9 115 k
    rw [r9 115 (by decide), o7 115 (by decide) (by decide), o6 115 (by decide) (by decide), o5 115 (by decide) (by decide), i4 k hk]
  · show _ = g9 116 k
    rw [r9 116 (by decide), o7 116 (by decide) (by decide), o6 116 (by decide) (by decide), i5 k hk]
  · show _ = g9 117 k
    rw [r9 117 (by decide), o7 117 (by decide) (by decide), i6 k hk]
  · show _ = g9 118 k
    rw [r9 118 (by decide), i7 k hk]
  · show _ = g9 110 8
    rw [z9, upd_ne _ _ (by decide), upd_ne _ _ (by decide), z8, upd_eq, t7]
  · show _ = g9 110 9
    rw [z9, upd_eq, r8 123 (by decide), t7]
  · show g9 123 = _
    rw [r9 123 (by decide), t7]
  · rw [show h7.2 = h.2 from ?_]
    rw [← hg7, ← hg6, ← hg5, ← hg4, ← hg3, ← hg2, ← hg1, ← hg0]
    rfl
  · show g9 a = _
    rw [r9 a (by omega)]
    exact r7 a (by omega) (by omega)
  · show g9 110 k = _
    rw [z9, upd_ne _ _ k9, upd_ne _ _ k2, z8, upd_ne _ _ k8, upd_ne _ _ k2]
    exact q7 k k1 k2
