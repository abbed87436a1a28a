/-! THE LAW: call after call -/
theorem scr_at {β : Type} {L k : Nat} {xs : Nat → Int32} {f : Int32 → M β} {h : HP} (hk : k < L) (hL : L ≤ 2560) : bnd (scrM (some (L, xs)) (nI k)) f h = f (xs k) h := by
  refine e_bnd ?_
  unfold scrM
  dsimp only
  rw [nI_clamp (by omega), if_pos]
  intro q
  rcases q with q | q
  · exact nI_pos (by omega) q
  · omega
theorem scr_n {β : Type} {L : Nat} {xs : Nat → Int32} {f : Int32 → M β} {h : HP} : bnd (scrN (some (L, xs))) f h = f (nI L) h := e_bnd rfl
section LAWS
variable {L : Nat} {xs : Nat → Int32} {h : HP} {S : St} {i : Nat} {k2 : Int32 → M Int32} {Q : Int32 → HP → Prop} {s1 : Int32}
theorem st0 {X Y : M Int32} (ok : Ok X Y) (Rl : Rel h S) (K : ∀ h' S', Rel h' S' → wp (k2 (s1 + 5)) h' Q) : wp (bnd (cv 5 0 X) fun t7 => bnd (cv 6 110 Y) fun t10 => if t7 = t10 then k2 (s1 + (5 : Int32)) else retZ (0 : Int32)) h Q := by
  refine wp_bnd (show wp X h _ from wp_mono (ok h S Rl) fun v h1 q => ?_)
  refine wp_bnd (show wp Y h1 _ from wp_mono q fun v' h2 q => ?_)
  obtain ⟨rfl, S', R'⟩ := q
  rw [if_pos rfl]
  exact K h2 S' R'
theorem st1 {X Y : Int32 → M Int32} (ok : ∀ x, Ok (X x) (Y x)) (Rl : Rel h S) (e : s1 = nI i) (hi : i + 5 ≤ L) (hL : L ≤ 2560) (K : ∀ h' S', Rel h' S' → wp (k2 (s1 + 5)) h' Q) : wp (bnd (scrM (some (L, xs)) (s1 + (1 : Int32))) fun a => bnd (cv 5 0 (X a)) fun t7 => bnd (scrM (some (L, xs)) (s1 + (1 : Int32))) fun a' => bnd (cv 6 110 (Y a')) fun t10 => if t7 = t10 then k2 (s1 + (5 : Int32)) else retZ (0 : Int32)) h Q := by
  have A1 : ∀ {f : Int32 → M Int32} {h : HP}, bnd (scrM (some (L, xs)) (s1 + (1 : Int32))) f h = f (xs (i + 1)) h := fun {f h} => by
    rw [e, nI_1]
    exact scr_at (by omega) hL
  refine wp_eq A1 (wp_bnd (show wp (X _) h _ from wp_mono (ok _ h S Rl) fun v h1 q => wp_eq A1 ?_))
  refine wp_bnd (show wp (Y _) h1 _ from wp_mono q fun v' h2 q => ?_)
  obtain ⟨rfl, S', R'⟩ := q
  rw [if_pos rfl]
  exact K h2 S' R'

theorem st2 {X Y : Int32 → Int32 → M Int32} (ok : ∀ x1 x2, Ok (X x1 x2) (Y x1 x2)) (Rl : Rel h S) (e : s1 = nI i) (hi : i + 5 ≤ L) (hL : L ≤ 2560) (K : ∀ h' S', Rel h' S' → wp (k2 (s1 + 5)) h' Q) : wp (bnd (scrM (some (L, xs)) (s1 + (1 : Int32))) fun a1 => bnd (scrM (some (L, xs)) (s1 + (2 : Int32))) fun a2 => bnd (cv 5 0 (X a1 a2)) fun t7 => bnd (scrM (some (L, xs)) (s1 + (1 : Int32))) fun b1 => bnd (scrM (some (L, xs)) (s1 + (2 : Int32))) fun b2 => bnd (cv 6 110 (Y b1 b2)) fun t10 => if t7 = t10 then k2 (s1 + (5 : Int32)) else retZ (0 : Int32)) h Q := by
  have A : ∀ k, k < 5 → ∀ {f : Int32 → M Int32} {h : HP}, bnd (scrM (some (L, xs)) (s1 + nI k)) f h = f (xs (i + k)) h := fun k hk {f h} => by
    rw [e, nI_add]
    exact scr_at (by omega) hL
  refine wp_eq (A 1 (by omega)) (wp_eq (A 2 (by omega)) (wp_bnd (show wp (X _ _) h _ from wp_mono (ok _ _ h S Rl) fun v h1 q => wp_eq (A 1 (by omega)) (wp_eq (A 2 (by omega)) (?_)))))
  refine wp_bnd (show wp (Y _ _) h1 _ from wp_mono q fun v' h2 q => ?_)
  obtain ⟨rfl, S', R'⟩ := q
  rw [if_pos rfl]
  exact K h2 S' R'
theorem st3 {X Y : Int32 → Int32 → Int32 → M Int32} (ok : ∀ x1 x2 x3, Ok (X x1 x2 x3) (Y x1 x2 x3)) (Rl : Rel h S) (e : s1 = nI i) (hi : i + 5 ≤ L) (hL : L ≤ 2560) (K : ∀ h' S', Rel h' S' → wp (k2 (s1 + 5)) h' Q) : wp (bnd (scrM (some (L, xs)) (s1 + (1 : Int32))) fun a1 => bnd (scrM (some (L, xs)) (s1 + (2 : Int32))) fun a2 => bnd (scrM (some (L, xs)) (s1 + (3 : Int32))) fun a3 => bnd (cv 5 0 (X a1 a2 a3)) fun t7 => bnd (scrM (some (L, xs)) (s1 + (1 : Int32))) fun b1 => bnd (scrM (some (L, xs)) (s1 + (2 : Int32))) fun b2 => bnd (scrM (some (L, xs)) (s1 + (3 : Int32))) fun b3 => bnd (cv 6 110 (Y b1 b2 b3)) fun t10 => if t7 = t10 then k2 (s1 + (5 : Int32)) else retZ (0 : Int32)) h Q := by
  have A : ∀ k, k < 5 → ∀ {f : Int32 → M Int32} {h : HP}, bnd (scrM (some (L, xs)) (s1 + nI k)) f h = f (xs (i + k)) h := fun k hk {f h} => by
    rw [e, nI_add]
    exact scr_at (by omega) hL
  refine wp_eq (A 1 (by omega)) (wp_eq (A 2 (by omega)) (wp_eq (A 3 (by omega)) (wp_bnd (show wp (X _ _ _) h _ from wp_mono (ok _ _ _ h S Rl) fun v h1 q => wp_eq (A 1 (by omega)) (wp_eq (A 2 (by omega)) (wp_eq (A 3 (by omega)) (?_)))))))
  refine wp_bnd (show wp (Y _ _ _) h1 _ from wp_mono q fun v' h2 q => ?_)
  obtain ⟨rfl, S', R'⟩ := q
  rw [if_pos rfl]
  exact K h2 S' R'
theorem st4 {X Y : Int32 → Int32 → Int32 → Int32 → M Int32} (ok : ∀ x1 x2 x3 x4, Ok (X x1 x2 x3 x4) (Y x1 x2 x3 x4)) (Rl : Rel h S) (e : s1 = nI i) (hi : i + 5 ≤ L) (hL : L ≤ 2560) (K : ∀ h' S', Rel h' S' → wp (k2 (s1 + 5)) h' Q) : wp (bnd (scrM (some (L, xs)) (s1 + (1 : Int32))) fun a1 => bnd (scrM (some (L, xs)) (s1 + (2 : Int32))) fun a2 => bnd (scrM (some (L, xs)) (s1 + (3 : Int32))) fun a3 => bnd (scrM (some (L, xs)) (s1 + (4 : Int32))) fun a4 => bnd (cv 5 0 (X a1 a2 a3 a4)) fun t7 => bnd (scrM (some (L, xs)) (s1 + (1 : Int32))) fun b1 => bnd (scrM (some (L, xs)) (s1 + (2 : Int32))) fun b2 => bnd (scrM (some (L, xs)) (s1 + (3 : Int32))) fun b3 => bnd (scrM (some (L, xs)) (s1 + (4 : Int32))) fun b4 => bnd (cv 6 110 (Y b1 b2 b3 b4)) fun t10 => if t7 = t10 then k2 (s1 + (5 : Int32)) else retZ (0 : Int32)) h Q := by
  have A : ∀ k, k < 5 → ∀ {f : Int32 → M Int32} {h : HP}, bnd (scrM (some (L, xs)) (s1 + nI k)) f h = f (xs (i + k)) h := fun k hk {f h} => by
    rw [e, nI_add]
    exact scr_at (by omega) hL
  refine wp_eq (A 1 (by omega)) (wp_eq (A 2 (by omega)) (wp_eq (A 3 (by omega)) (wp_eq (A 4 (by omega)) (wp_bnd (show wp (X _ _ _ _) h _ from wp_mono (ok _ _ _ _ h S Rl) fun v h1 q => wp_eq (A 1 (by omega)) (wp_eq (A 2 (by omega)) (wp_eq (A 3 (by omega)) (wp_eq (A 4 (by omega)) (?_)))))))))
  refine wp_bnd (show wp (Y _ _ _ _) h1 _ from wp_mono q fun v' h2 q => ?_)
  obtain ⟨rfl, S', R'⟩ := q
  rw [if_pos rfl]
  exact K h2 S' R'
end LAWS
theorem hp0_i {i k : Nat} (hi : i < 131) (hk : k < 16) : HP0.1 i k = 0 := by
  have := List.all_eq_true.mp (List.all_eq_true.mp hp0_int i (List.mem_range.mpr hi)) k (List.mem_range.mpr hk)
  exact of_decide_eq_true this
theorem refs_len : ∀ i, i < 131 → (refsOf i).length ≤ 30 := by decide +kernel
theorem getD_out {l : List Nat} {k : Nat} (h : l.length ≤ k) : l.getD k 0 = 0 := by
  induction l generalizing k with
  | nil => rfl
  | cons a l ih =>
    cases k with
    | zero => exact absurd h (Nat.not_succ_le_zero _)
    | succ k => exact ih (Nat.le_of_succ_le_succ h)
theorem hp0_R : RefOk HP0.2 := by
  intro i k h1 h2 h3
  by_cases hk : k < 30
  · have := of_decide_eq_true (List.all_eq_true.mp (List.all_eq_true.mp hp0_ref i (List.mem_range.mpr h1)) k (List.mem_range.mpr hk))
    rcases this with q | q
    · exact absurd q h3
    · exact q
  · exact absurd (getD_out (Nat.le_trans (refs_len i h1) (Nat.not_lt.mp hk))) h3
theorem hp0_45 : ∀ i, i < 8 → HP0.2 45 i = some (46 + 7 * i) := by decide +kernel
theorem hp0_18 : HP0.1 110 18 = 0 := by decide +kernel
theorem hp0_21 : HP0.1 110 21 = 0 := by decide +kernel
theorem hp0_25 : HP0.1 110 25 = 0 := by decide +kernel
def A0 : AV := (fun _ _ => 0, 0, 0)
def S00 : St := (A0, (fun _ => 0, fun _ => 0), (0, fun _ => 0), (0, fun _ => 0), (false, A0, (fun _ => 0, fun _ => 0)), (0, fun _ => A0), fun _ => 0)
theorem folk0 {b : Nat} (hb : b + 5 < 131) : FolkIs HP0 b A0 := ⟨⟨hp0_i (by omega) (by omega), hp0_i (by omega) (by omega)⟩, fun k hk => hp0_i (by omega) (by omega), fun k hk => hp0_i (by omega) (by omega), fun k hk => hp0_i (by omega) (by omega), fun k hk => hp0_i (by omega) (by omega), fun k hk => hp0_i (by omega) (by omega)⟩
theorem rel0 : Rel HP0 S00 := by
  refine ⟨⟨hp0_R, folk0 (by omega), ⟨fun k hk => hp0_i (by omega) (by omega), fun k hk => hp0_i (by omega) (by omega)⟩, ⟨hp0_i (by omega) (by omega), fun k hk => hp0_i (by omega) (by omega)⟩, ⟨hp0_i (by omega) (by omega), fun k hk => absurd hk (Nat.not_lt_zero k)⟩, ⟨hp0_i (by omega) (by omega), fun q => by cases q⟩, ⟨⟨hp0_i (by omega) (by omega), Nat.zero_le 8⟩, fun i => i, ⟨fun i hi => hi, fun i j _ _ e => e⟩, hp0_45, fun i hi => absurd hi (Nat.not_lt_zero i)⟩, fun k hk => hp0_i (by omega) (by omega)⟩, ⟨⟨⟨hp0_i (by omega) (by omega), hp0_i (by omega) (by omega)⟩, fun k hk => hp0_i (by omega) (by omega), fun k hk => hp0_i (by omega) (by omega), fun k hk => hp0_i (by omega) (by omega), fun k hk => hp0_i (by omega) (by omega), fun k hk => hp0_i (by omega) (by omega)⟩, ⟨fun k hk => hp0_i (by omega) (by omega), fun k hk => hp0_i (by omega) (by omega)⟩, ⟨hp0_25, fun k hk => hp0_i (by omega) (by omega)⟩, ⟨hp0_i (by omega) (by omega), fun k hk => absurd hk (Nat.not_lt_zero k)⟩, ⟨hp0_18, fun q => by cases q⟩, ⟨hp0_21, fun i hi => absurd hi (Nat.not_lt_zero i)⟩, fun k hk => hp0_i (by omega) (by omega)⟩, ?_⟩
  refine ⟨⟨⟨⟨Nat.zero_le _, Nat.zero_le _⟩, fun k hk => ⟨Nat.zero_le _, Nat.zero_le _, Nat.zero_le _, Nat.zero_le _, Nat.two_pow_pos _⟩⟩, Nat.zero_le _⟩, ⟨fun k hk => ⟨Nat.two_pow_pos 8, Nat.zero_le _⟩, fun x y _ _ q => ?_⟩, ⟨Nat.zero_le _, fun k hk => Nat.zero_le _⟩, ⟨Nat.zero_le _, fun k hk => Nat.zero_le _⟩, fun q => (by cases q), Nat.zero_le _, fun i hi => absurd hi (Nat.not_lt_zero i)⟩
  have q : tb 0 y = true := q
  rw [tb_zero] at q
  cases q

