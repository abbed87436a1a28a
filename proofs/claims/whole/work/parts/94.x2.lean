/-! THE LAW ANSWERS 1 -/
set_option maxHeartbeats 8000000 in
set_option maxRecDepth 20000 in
theorem law_ok (L : Nat) (xs : Nat → Int32) (hL : L ≤ 2560) : ∃ hr, f_law (some (L, xs)) HP0 = some (1, hr) := by
  have MAIN : wp (f_law (some (L, xs))) HP0 fun v _ => v = 1 := by
    unfold f_law
    refine wp_loop (fun i s h' => s = nI (5 * i) ∧ ∃ S, Rel h' S) (L / 5) (nf_lt (by omega)) (fun i hi s1 h' q k2 K2 => ?_) (fun s h' k2 q => ?_) ⟨rfl, S00, rel0⟩
    · obtain ⟨e, S, Rl⟩ := q
      have hi5 : 5 * i + 5 ≤ L := by omega
      refine wp_eq scr_n ?_
      rw [show (nI L - (5 : Int32)) = nI (L - 5) from by rw [show (5 : Int32) = nI 5 from rfl, pk_sub (by omega)]]
      rw [if_neg (show ¬ nI (L - 5) < s1 by rw [e]; exact fun q => absurd ((nI_ltI (by omega) (by omega)).mp q) (by omega))]
      have SM : ∀ {f : Int32 → M Int32}, bnd (scrM (some (L, xs)) s1) f h' = f (xs (5 * i)) h' := fun {f} => by
        rw [e]
        exact scr_at (by omega) hL
      refine wp_eq SM ?_
      have K : ∀ h2 S', Rel h2 S' → wp (k2 (s1 + 5)) h2 fun v _ => v = 1 := fun h2 S' R2 => K2 _ _ ⟨by rw [e, show (5 : Int32) = nI 5 from rfl, nI_add, show 5 * i + 5 = 5 * (i + 1) by omega], S', R2⟩
      have hi := hi5
      refine wp_if (fun _ => st1 (X := f_X6_feed 0) (Y := f_X7_feed 110) ok_feed Rl e hi hL K) (fun _ => ?_)
      refine wp_if (fun _ => st0 ok_town Rl K) (fun _ => ?_)
      refine wp_if (fun _ => st2 (X := f_X6_person 0) (Y := f_X7_person 110) ok_person Rl e hi hL K) (fun _ => ?_)
      refine wp_if (fun _ => st3 (X := f_X6_comes 0) (Y := f_X7_comes_ 110) ok_comes Rl e hi hL K) (fun _ => ?_)
      refine wp_if (fun _ => st2 (X := f_X6_asks 0) (Y := f_X7_asks 110) ok_asks Rl e hi hL K) (fun _ => ?_)
      refine wp_if (fun _ => st2 (X := f_X6_believes 0) (Y := f_X7_believes 110) ok_believes Rl e hi hL K) (fun _ => ?_)
      refine wp_if (fun _ => st3 (X := f_X6_kind 0) (Y := f_X7_kind 110) ok_kind Rl e hi hL K) (fun _ => ?_)
      refine wp_if (fun _ => st2 (X := f_X6_way 0) (Y := f_X7_way 110) ok_way Rl e hi hL K) (fun _ => ?_)
      refine wp_if (fun _ => st2 (X := f_X6_hangs 0) (Y := f_X7_hangs 110) ok_hangs Rl e hi hL K) (fun _ => ?_)
      refine wp_if (fun _ => st0 ok_week Rl K) (fun _ => ?_)
      refine wp_if (fun _ => st0 ok_back Rl K) (fun _ => ?_)
      refine wp_if (fun _ => st2 (X := f_X6_says 0) (Y := f_X7_says 110) ok_says Rl e hi hL K) (fun _ => ?_)
      refine wp_if (fun _ => st2 (X := f_X6_saysOf 0) (Y := f_X7_saysOf 110) ok_saysOf Rl e hi hL K) (fun _ => ?_)
      refine wp_if (fun _ => st2 (X := f_X6_belief 0) (Y := f_X7_belief 110) ok_belief Rl e hi hL K) (fun _ => ?_)
      refine wp_if (fun _ => st2 (X := f_X6_fooled 0) (Y := f_X7_fooled 110) ok_fooled Rl e hi hL K) (fun _ => ?_)
      refine wp_if (fun _ => st1 (X := f_X6_error 0) (Y := f_X7_error 110) ok_error Rl e hi hL K) (fun _ => ?_)
      refine wp_if (fun _ => st2 (X := f_X6_clash 0) (Y := f_X7_clash 110) ok_clash Rl e hi hL K) (fun _ => ?_)
      refine wp_if (fun _ => st0 ok_settles Rl K) (fun _ => ?_)
      refine wp_if (fun _ => st0 ok_round Rl K) (fun _ => ?_)
      refine wp_if (fun _ => st1 (X := f_X6_knows 0) (Y := f_X7_knows 110) ok_knows Rl e hi hL K) (fun _ => ?_)
      refine wp_if (fun _ => st2 (X := f_X6_nearest 0) (Y := f_X7_nearest 110) ok_nearest Rl e hi hL K) (fun _ => ?_)
      refine wp_if (fun _ => st3 (X := f_X6_fair 0) (Y := f_X7_fair 110) ok_fair Rl e hi hL K) (fun _ => ?_)
      refine wp_if (fun _ => st2 (X := f_X6_worth 0) (Y := f_X7_worth 110) ok_worth Rl e hi hL K) (fun _ => ?_)
      refine wp_if (fun _ => st1 (X := f_X6_newEar 0) (Y := f_X7_newEar 110) ok_newEar Rl e hi hL K) (fun _ => ?_)
      refine wp_if (fun _ => st4 (X := f_X6_sisters 0) (Y := f_X7_sisters 110) ok_sisters Rl e hi hL K) (fun _ => ?_)
      refine wp_if (fun _ => st3 (X := f_X6_cheat 0) (Y := f_X7_cheat 110) ok_cheat Rl e hi hL K) (fun _ => ?_)
      refine wp_if (fun _ => st1 (X := f_X6_thief 0) (Y := f_X7_thief 110) ok_thief Rl e hi hL K) (fun _ => ?_)
      refine wp_if (fun _ => st1 (X := f_X6_tellsMost 0) (Y := f_X7_tellsMost 110) ok_tellsMost Rl e hi hL K) (fun _ => ?_)
      refine wp_if (fun _ => st1 (X := f_X6_photos 0) (Y := f_X7_photos 110) ok_photos Rl e hi hL K) (fun _ => ?_)
      refine wp_if (fun _ => st2 (X := f_X6_barber 0) (Y := f_X7_barber 110) ok_barber Rl e hi hL K) (fun _ => ?_)
      refine wp_if (fun _ => st2 (X := f_X6_steps 0) (Y := f_X7_steps 110) ok_steps Rl e hi hL K) (fun _ => ?_)
      refine wp_if (fun _ => st3 (X := f_X6_glances 0) (Y := f_X7_glances 110) ok_glances Rl e hi hL K) (fun _ => ?_)
      refine wp_if (fun _ => st1 (X := f_X6_unseen 0) (Y := f_X7_unseen 110) ok_unseen Rl e hi hL K) (fun _ => ?_)
      refine wp_if (fun _ => st2 (X := f_X6_cover 0) (Y := f_X7_cover 110) ok_cover Rl e hi hL K) (fun _ => ?_)
      refine wp_if (fun _ => st2 (X := f_X6_bargain 0) (Y := f_X7_bargain 110) ok_bargain Rl e hi hL K) (fun _ => ?_)
      refine wp_if (fun _ => st1 (X := f_X6_strike 0) (Y := f_X7_strike 110) ok_strike Rl e hi hL K) (fun _ => ?_)
      refine wp_if (fun _ => st1 (X := f_X6_echo 0) (Y := f_X7_echo 110) ok_echo Rl e hi hL K) (fun _ => ?_)
      refine wp_if (fun _ => st1 (X := f_X6_loops 0) (Y := f_X7_loops 110) ok_loops Rl e hi hL K) (fun _ => ?_)
      refine wp_if (fun _ => st1 (X := f_X6_humble 0) (Y := f_X7_humble 110) ok_humble Rl e hi hL K) (fun _ => ?_)
      refine wp_if (fun _ => st2 (X := f_X6_highest 0) (Y := f_X7_highest 110) ok_highest Rl e hi hL K) (fun _ => ?_)
      refine wp_if (fun _ => st1 (X := f_X6_spread 0) (Y := f_X7_spread 110) ok_spread Rl e hi hL K) (fun _ => ?_)
      refine wp_if (fun _ => st0 ok_pairs Rl K) (fun _ => ?_)
      refine wp_if (fun _ => st1 (X := f_X6_calm 0) (Y := f_X7_calm 110) ok_calm Rl e hi hL K) (fun _ => ?_)
      refine wp_if (fun _ => st1 (X := f_X6_honest 0) (Y := f_X7_honest 110) ok_honest Rl e hi hL K) (fun _ => ?_)
      refine wp_if (fun _ => st2 (X := f_X6_chain 0) (Y := f_X7_chain 110) ok_chain Rl e hi hL K) (fun _ => ?_)
      refine wp_if (fun _ => st0 ok_clique Rl K) (fun _ => ?_)
      refine wp_if (fun _ => st2 (X := f_X6_cut 0) (Y := f_X7_cut 110) ok_cut Rl e hi hL K) (fun _ => ?_)
      refine wp_if (fun _ => st2 (X := f_X6_wanted 0) (Y := f_X7_wanted 110) ok_wanted Rl e hi hL K) (fun _ => ?_)
      refine wp_if (fun _ => st2 (X := f_X6_panel 0) (Y := f_X7_panel 110) ok_panel Rl e hi hL K) (fun _ => ?_)
      refine wp_if (fun _ => st2 (X := f_X6_tour 0) (Y := f_X7_tour 110) ok_tour Rl e hi hL K) (fun _ => ?_)
      refine wp_if (fun _ => st2 (X := f_X6_narrows 0) (Y := f_X7_narrows 110) ok_narrows Rl e hi hL K) (fun _ => ?_)
      refine wp_if (fun _ => st2 (X := f_X6_middle 0) (Y := f_X7_middle 110) ok_middle Rl e hi hL K) (fun _ => ?_)
      refine wp_if (fun _ => st3 (X := f_X6_changed 0) (Y := f_X7_changed 110) ok_changed Rl e hi hL K) (fun _ => ?_)
      refine wp_if (fun _ => st1 (X := f_X6_row 0) (Y := f_X7_row 110) ok_row Rl e hi hL K) (fun _ => ?_)
      refine wp_if (fun _ => st0 ok_judge Rl K) (fun _ => ?_)
      refine wp_if (fun _ => st0 ok_clear Rl K) (fun _ => ?_)
      refine wp_if (fun _ => st3 (X := f_X6_lots 0) (Y := f_X7_lots 110) ok_lots Rl e hi hL K) (fun _ => ?_)
      refine wp_if (fun _ => st0 ok_image Rl K) (fun _ => ?_)
      refine wp_if (fun _ => st0 ok_restore Rl K) (fun _ => ?_)
      refine wp_if (fun _ => st1 (X := f_X6_count 0) (Y := f_X7_count 110) ok_count Rl e hi hL K) (fun _ => ?_)
      exact K h' S Rl
    · obtain ⟨e, S, Rl⟩ := q
      refine wp_eq scr_n ?_
      rw [if_pos ?_]
      · exact wp_retZ (Or.inr rfl) rfl
      · rw [e, show (5 : Int32) = nI 5 from rfl, Int32.lt_iff_toInt_lt, pk_sub_toInt (by omega) (by omega), nI_toInt (by omega)]
        omega
  obtain ⟨v, hr, e, q⟩ := MAIN
  subst q
  exact ⟨hr, e⟩
