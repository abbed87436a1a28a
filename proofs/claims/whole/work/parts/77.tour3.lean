/-! TOUR: THE REFERENCE -/
theorem QY_tour {h : HP} {P : (Nat → Nat) × (Nat → Nat)} {x w : Int32} (R : RefOk h.2) (T : PlY h P) (GP : GoodP P) (sy : SymP P) : wp (f_X7_tour 110 x w) h (OutY h (fs (pl x) (ob w 0 255)) (trS P.1 (ix x) (ix w))) := by
  have hV : ∀ k, k < 8 → P.1 k < 2 ^ 8 := fun k hk => (GP k hk).1
  have bg : Big = 1000000000 := rfl
  unfold f_X7_tour
  refine gu_plb (gY R pl_ob_no fun e => ?_)
  obtain ⟨a, ha, rfl⟩ := pl_ix (fs_z e).1
  obtain ⟨t, -, ht, rfl⟩ := ob_ix (lo := 0) (hi := 255) (fs_z e).2 (by omega) (by omega)
  rw [ix_nI (by omega), ix_nI (by omega), nI_shl1 (by omega)]
  have lp := pow_lt31 ha
  have L130 : ∀ {h1 h2 : HP}, Same (fun a => a = 130) h1 h2 → LvY h1 h2 := fun S => LvY.of (S.wide fun x q => by omega)
  refine wp_loop (fun i s h' => s = nI i ∧ (∀ x, x < i → h'.1 130 x = nI Big) ∧ Same (fun a => a = 130) h h') 2048 (nf_lt (by omega)) (fun i hi s h' q k K => ?_) (fun s h0 k q => ?_) ⟨rfl, fun x hx => by omega, Same.rfl'⟩
  · obtain ⟨rfl, M0, S⟩ := q
    rw [if_neg (show ¬ (2048 : Int32) ≤ nI i from nI_ge (b := 2048) hi (by omega)), nI_1]
    refine wp_eq (g110_29 (RefOk.same S R)) (wp_eq (s130 hi) (K _ _ ⟨rfl, fun x hx => ?_, S.1, fun a ha => ?_⟩))
    · dsimp only
      rw [set_eq]
      by_cases c : x = i
      · rw [c, upd_eq]
        rfl
      · rw [upd_ne _ _ c]
        exact M0 x (by omega)
    · dsimp only
      rw [set_ne _ _ ha]
      exact S.2 a ha
  · obtain ⟨rfl, M0, S0⟩ := q
    have st : 8 * 2 ^ a + a < 2048 := by omega
    rw [if_pos (show (2048 : Int32) ≤ nI 2048 by decide), show (8 : Int32) = nI 8 from rfl, pk_mul, nI_add]
    refine wp_eq (g110_29 (RefOk.same S0 R)) (wp_eq (s130 st) ?_)
    have KEY : wp (loopK NF (fun (s8 : Int32 × Int32) k9 => if s8.2 = (0 : Int32) then rt (-9 : Int32) else loopK NF (fun (s11 : Int32 × Int32) k12 => if (2048 : Int32) ≤ s11.2 then k9 ((s8.1 + (1 : Int32)), s11.1) else bnd (gR 6 29 110) fun r13 => bnd (aI r13 s11.2) fun t14 => if t14 = s8.1 then bnd (divM s11.2 (8 : Int32)) fun t15 => if ¬ (nI t &&& (t15 ^^^ (-1 : Int32))) = (0 : Int32) then bnd (cv 6 110 (f_X7_stepsOn 110 s11.2 (s8.1 + (1 : Int32)))) fun t16 => k12 ((s11.1 ||| t16), (s11.2 + (1 : Int32))) else rt s8.1 else k12 (s11.1, (s11.2 + (1 : Int32)))) ((0 : Int32), (0 : Int32))) ((0 : Int32), (1 : Int32))) (setR h0.1 130 (upd (h0.1 130) (8 * 2 ^ a + a) 0), h0.2) fun v h' => v = trS P.1 a t ∧ LvY h h' := by
      have LOW : ∀ (k : Nat) (D : Nat → Nat) (f : Nat), k < 1000 → Lev P.1 a t k 0 D → (∀ x, x < 2048 → D x < Big → D x ≤ k) → (f = 0 → ∀ x, x < 2048 → ¬ D x = k) → f = 0 → trS P.1 a t = -9 := fun k D f kb L hb hf f0 => L.none hb hV ha kb (hf f0)
      refine wp_loop (fun k s h' => ∃ D f, s = (nI k, nI f) ∧ f ≤ 1 ∧ RowT h' D ∧ Same (fun a => a = 130) h h' ∧ Lev P.1 a t k 0 D ∧ (∀ x, x < 2048 → D x < Big → D x ≤ k) ∧ (f = 0 → ∀ x, x < 2048 → ¬ D x = k) ∧ (f = 1 → ∃ x, x < 2048 ∧ D x = k)) 29 (nf_lt (by omega)) (fun k hk s h' q k9 K => ?_) (fun s h' k9 q => ?_) ⟨fun x => if x = 8 * 2 ^ a + a then 0 else Big, 1, rfl, by omega, ⟨fun x hx => ?_, fun x => ?_⟩, ⟨S0.1, fun q hq => ?_⟩, ⟨if_pos rfl, fun x hx hd => ?_, fun x v hx hv hd => ?_, fun x hx hd => ?_⟩, fun x hx hd => ?_, fun q => by omega, fun _ => ⟨8 * 2 ^ a + a, st, if_pos rfl⟩⟩
      · obtain ⟨D, f, rfl, f1, E, S, L, hb, hf0, hf1⟩ := q
        dsimp only
        by_cases f0 : f = 0
        · rw [if_pos (show nI f = 0 by rw [f0]; rfl)]
          exact wp_rt ⟨(LOW k D f (by omega) L hb hf0 f0).symm, L130 S⟩
        · rw [if_neg (nI_ne0 (by omega) (by omega))]
          refine wp_loop (fun X s h2 => ∃ D f, s = (nI f, nI X) ∧ f ≤ 1 ∧ RowT h2 D ∧ Same (fun a => a = 130) h h2 ∧ Lev P.1 a t k X D ∧ (f = 0 → ∀ x, x < 2048 → ¬ D x = k + 1) ∧ (f = 1 → ∃ x, x < 2048 ∧ D x = k + 1)) 2048 (nf_lt (by omega)) (fun X hX s h2 q k12 K2 => ?_) (fun s h2 k12 q => ?_) ⟨D, 0, rfl, by omega, E, S, L, fun _ x hx q => ?_, fun q => by omega⟩
          · obtain ⟨D, f, rfl, f1, E, S, L, hf0, hf1⟩ := q
            have R2 := RefOk.same S R
            have T2 := T.lv (L130 S)
            have cap := E.2 X
            dsimp only
            rw [if_neg (show ¬ (2048 : Int32) ≤ nI X from nI_ge (b := 2048) hX (by omega)), nI_1, nI_1]
            refine wp_eq (g110_29 R2) (wp_eq (a130 hX) ?_)
            rw [E.1 X hX]
            by_cases c : D X = k
            · rw [if_pos (by rw [c])]
              refine wp_eq (b_div8 (by omega)) ?_
              have lw : wo t (X / 8) < 2 ^ 8 := wo_lt (by omega)
              rw [nI_wo (by omega) (by omega)]
              by_cases d : wo t (X / 8) = 0
              · rw [d, if_neg (show ¬ ¬ nI 0 = 0 from fun q => q rfl)]
                exact wp_rt ⟨(L.hit hV sy ha hX c (by omega) d).symm, L130 S⟩
              · rw [if_pos (nI_ne0 (by omega) (by omega))]
                refine wp_bnd (wp_mono (X7_stepsOn R2 T2 GP E hX (show k + 1 ≤ 1000 by omega)) fun y h3 q => ?_)
                obtain ⟨D', g, rfl, g1, E', S', q1, q2, q3, q4⟩ := q
                have tw := L.2.1 X hX (by omega)
                rw [c] at tw
                have lo : ∀ x, x < 2048 → D' x ≤ k → D' x = D x := fun x hx hd => by
                  rcases q1 x with h | h
                  · exact h
                  · omega
                have le : ∀ x, D' x ≤ D x := fun x => by
                  rcases q1 x with h | h
                  · omega
                  · omega
                rw [nI_or (by omega) (by omega)]
                refine K2 _ _ ⟨D', f ||| g, rfl, ?_, E', S.trans S' (fun _ q => q) (fun _ q => q), ⟨?_, fun x hx hd => ?_, fun x v hx hv hd tv => ?_, fun x hx hd => ?_⟩, fun q x hx e => ?_, fun q => ?_⟩
                · rcases (show f = 0 ∨ f = 1 by omega) with rfl | rfl <;> rcases (show g = 0 ∨ g = 1 by omega) with rfl | rfl <;> decide
                · have := le (8 * 2 ^ a + a)
                  rw [L.1] at this
                  omega
                · rcases q1 x with h | ⟨h1, h2, v, v1, v2, v3⟩
                  · rw [h] at hd ⊢
                    exact L.2.1 x hx hd
                  · rw [h1]
                    refine ⟨Nat.le_refl _, ?_⟩
                    rw [v3]
                    exact Tw_suc v1 tw.2 v2
                · have lo2 := lo x hx (by omega)
                  by_cases ex : x = X
                  · subst ex
                    rw [lo2, c]
                    exact q2 v hv tv
                  · have := L.2.2.1 x v hx hv (by omega) tv
                    have := le (suc x v)
                    omega
                · have lo2 := lo x hx (by omega)
                  by_cases ex : x = X
                  · subst ex
                    exact d
                  · exact L.2.2.2 x hx (by omega)
                · have fg : f = 0 ∧ g = 0 := by
                    rcases (show f = 0 ∨ f = 1 by omega) with rfl | rfl <;> rcases (show g = 0 ∨ g = 1 by omega) with rfl | rfl <;> simp_all
                  rw [q3 fg.2 x] at e
                  exact hf0 fg.1 x hx e
                · by_cases g0 : g = 1
                  · exact q4 g0
                  · have fg : f = 1 := by
                      rcases (show f = 0 ∨ f = 1 by omega) with rfl | rfl
                      · have : g = 0 := by omega
                        subst this
                        cases q
                      · rfl
                    obtain ⟨x, x1, x2⟩ := hf1 fg
                    exact ⟨x, x1, by rw [q3 (by omega) x]; exact x2⟩
            · rw [if_neg (fun q => c ((nI_eq (by omega) (by omega)).mp q))]
              refine K2 _ _ ⟨D, f, rfl, f1, E, S, ⟨L.1, L.2.1, fun x v hx hv hd tv => ?_, fun x hx hd => ?_⟩, hf0, hf1⟩
              · refine L.2.2.1 x v hx hv ?_ tv
                by_cases ex : x = X
                · subst ex
                  omega
                · omega
              · refine L.2.2.2 x hx ?_
                by_cases ex : x = X
                · subst ex
                  omega
                · omega
          · obtain ⟨D, f, rfl, f1, E, S, L, hf0, hf1⟩ := q
            dsimp only
            rw [if_pos (show (2048 : Int32) ≤ nI 2048 by decide), nI_1]
            refine K _ _ ⟨D, f, rfl, f1, E, S, ⟨L.1, fun x hx hd => ?_, fun x v hx hv hd tv => ?_, fun x hx hd => ?_⟩, fun x hx hd => (L.2.1 x hx hd).1, hf0, hf1⟩
            · have := L.2.1 x hx hd
              exact ⟨by omega, this.2⟩
            · exact L.2.2.1 x v hx hv (by omega) tv
            · exact L.2.2.2 x hx (by omega)
          · have := hb x hx (by omega)
            omega
      · obtain ⟨D, f, rfl, f1, E, S, L, hb, hf0, hf1⟩ := q
        have f0 : f = 0 := by
          refine Classical.byContradiction fun q => ?_
          obtain ⟨x, x1, x2⟩ := hf1 (by omega)
          have tw := (L.2.1 x x1 (by omega)).2
          rw [x2] at tw
          obtain ⟨j, j1, j2⟩ := Tw_28 hV sy ha tw
          have := L.soon hV ha j (by omega) _ _ j2
          rw [show 8 * (x / 8) + x % 8 = x by omega] at this
          omega
        dsimp only
        rw [if_pos (show nI f = 0 by rw [f0]; rfl)]
        exact wp_rt ⟨(LOW 29 D f (by omega) L hb hf0 f0).symm, L130 S⟩
      · dsimp only
        rw [set_eq]
        by_cases c : x = 8 * 2 ^ a + a
        · rw [if_pos c, c, upd_eq]
          rfl
        · rw [if_neg c, upd_ne _ _ c]
          exact M0 x hx
      · dsimp only
        split
        · omega
        · exact Nat.le_refl _
      · dsimp only
        rw [set_ne _ _ hq]
        exact S0.2 q hq
      · dsimp only at hd ⊢
        by_cases c : x = 8 * 2 ^ a + a
        · rw [if_pos c]
          refine ⟨by omega, ?_, ?_⟩
          · subst c
            omega
          · subst c
            omega
        · rw [if_neg c] at hd
          omega
      · dsimp only at hd
        split at hd <;> omega
      · dsimp only at hd
        split at hd <;> omega
      · dsimp only at hd ⊢
        split at hd
        · rename_i q
          rw [if_pos q]
          exact Nat.le_refl 0
        · omega
    exact KEY
