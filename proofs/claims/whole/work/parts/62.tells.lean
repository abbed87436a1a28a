/-! TELLSMOST -/
theorem J7_fill {h : HP} {a n : Nat} {v : Int32} (hs : SHF[a]? = some (1, n)) (hn : n < 1000000) : f_J7_fill_53178 a v h = some ((), (setR h.1 a (fun k => if k < n then v else h.1 a k), h.2)) := by
  unfold f_J7_fill_53178
  rw [e_bnd (e_len hs)]
  refine lp_seq (s := fun i => nI i) (hh := fun i => (setR h.1 a (fun k => if k < i then v else h.1 a k), h.2)) n (nf_lt hn) rfl ?_ (fun i hi k => ?_) (fun k => ?_)
  · refine hp_ext (fun q => ?_) rfl
    try dsimp only
    by_cases c : q = a
    · subst c
      rw [set_eq]
      funext k
      rw [if_neg (by omega)]
    · rw [set_ne _ _ c]
  · try dsimp only
    rw [ifa, if_neg (nI_ge hi (by omega)), e_bnd (e_sI hs hi (by omega)), nI_1]
    congr 1
    refine hp_ext (fun q => ?_) rfl
    try dsimp only
    by_cases c : q = a
    · subst c
      rw [set_eq, set_eq, set_eq]
      funext k
      by_cases d : k = i
      · subst d
        rw [upd_eq, if_pos (by omega)]
      · rw [upd_ne _ _ d]
        by_cases e : k < i
        · rw [if_pos e, if_pos (by omega)]
        · rw [if_neg e, if_neg (by omega)]
    · rw [set_ne _ _ c, set_ne _ _ c, set_ne _ _ c]
  · try dsimp only
    rw [ifa, if_pos (nI_le (Nat.le_refl _) (by omega))]
    rfl
theorem RowX.same {h h' : HP} {L : Nat × (Nat → Nat)} (T : RowX h L) (S : Same GX h h') : RowX h' L := by
  unfold RowX
  rw [S.2 0 (by unfold GX; omega), S.2 104 (by unfold GX; omega)]
  exact T
theorem RowY.lv {h h' : HP} {L : Nat × (Nat → Nat)} (T : RowY h L) (S : LvY h h') : RowY h' L := by
  unfold RowY
  rw [S.2.2.1.2.2]
  refine ⟨?_, T.2⟩
  have := S.2.2.2.2.2.1
  simp only [this]
  exact T.1
def kwG (A : AV) (L : Nat × (Nat → Nat)) (p v : Nat) (s : Nat × (Nat → Nat)) : Nat × (Nat → Nat) := if fi A L v = true then if s.2 (wd A p v) = 0 then (s.1 + 1, fun j => if j = wd A p v then 1 else s.2 j) else s else s
def kwF (A : AV) (L : Nat × (Nat → Nat)) (p i : Nat) : Nat × (Nat → Nat) := fold (kwG A L p) i (0, fun _ => 0)
theorem kwF_s (A : AV) (L : Nat × (Nat → Nat)) (p i : Nat) : kwF A L p (i + 1) = kwG A L p i (kwF A L p i) := rfl
theorem kwF_ok (A : AV) (L : Nat × (Nat → Nat)) (p i : Nat) : (kwF A L p i).1 ≤ i ∧ ∀ j, (kwF A L p i).2 j ≤ 1 := by
  induction i with
  | zero => exact ⟨Nat.le_refl 0, fun j => by show 0 ≤ 1; omega⟩
  | succ i ih =>
    rw [kwF_s]
    generalize kwF A L p i = s at ih ⊢
    unfold kwG
    by_cases c : fi A L i = true
    · rw [if_pos c]
      by_cases d : s.2 (wd A p i) = 0
      · rw [if_pos d]
        refine ⟨by have := ih.1; show s.1 + 1 ≤ _; omega, fun j => ?_⟩
        try dsimp only
        split
        · omega
        · exact ih.2 j
      · rw [if_neg d]
        exact ⟨by have := ih.1; omega, ih.2⟩
    · rw [if_neg c]
      exact ⟨by have := ih.1; omega, ih.2⟩
def kw (A : AV) (L : Nat × (Nat → Nat)) (p : Nat) : Nat := (kwF A L p 100).1
theorem kw_le (A : AV) (L : Nat × (Nat → Nat)) (p : Nat) : kw A L p ≤ 100 := (kwF_ok A L p 100).1
theorem X6_kinds {h : HP} {A : AV} {L : Nat × (Nat → Nat)} {p : Nat} (R : RefOk h.2) (F : FolkIs h 2 A) (G : GoodA A) (T : RowX h L) (GL : GoodL L) (hL : L.1 ≤ A.2.1) (hp : p < 7) : wp (cv 5 0 (f_X6_kindsOfWords 0 (nI p))) h fun v h' => v = nI (kw A L p) ∧ Same GX h h' := by
  show wp (f_X6_kindsOfWords 0 (nI p)) h _
  unfold f_X6_kindsOfWords
  refine wp_eq (g0_10 R) (wp_call (J7_fill (a := 106) (n := 100) rfl (by decide)) ?_)
  refine wp_loop (fun i s h' => s = (nI (kwF A L p i).1, nI i) ∧ (∀ j, j < 100 → h'.1 106 j = nI ((kwF A L p i).2 j)) ∧ Same (fun a => a = 106) h h') 100 (nf_lt (by omega)) (fun i hi s h' q k K => ?_) (fun s h' k q => ?_) ⟨rfl, fun j hj => ?_, rfl, fun a ha => ?_⟩
  · obtain ⟨rfl, N1, S⟩ := q
    have SG : Same GX h h' := S.wide fun x q => by unfold GX; omega
    have R' := RefOk.same S R
    have F' := (x_stay SG R F).2
    have T' := T.same SG
    have B := FB.of R' (b := 2) (by decide)
    have ok := kwF_ok A L p i
    rw [kwF_s] at K
    generalize kwF A L p i = s at N1 ok K
    have wl := wd_le G (p := p) (v := i) hp (by omega)
    have m1 := ok.2 (wd A p i)
    try dsimp only
    rw [if_neg (show ¬ (100 : Int32) ≤ nI i from nI_ge (b := 100) hi (by omega))]
    refine wp_eq (x_gr0 R') (wp_eq (bC B) (wp_call (X0_word B F' G hp (by omega)) ?_))
    unfold jn
    try dsimp only
    rw [if_neg (nI_pos (by omega)), if_neg (show ¬ (100 : Int32) ≤ nI (wd A p i) from nI_ge (b := 100) (by omega) (by omega)), nI_1]
    refine wp_eq (g0_10 R') (wp_eq (a106 (by omega)) ?_)
    rw [N1 _ (by omega)]
    have xf : ∀ {B2 : Int32 → M Int32} {Q : Int32 → HP → Prop}, wp (B2 (if fi A L i = true then 1 else 0)) h' Q → wp (bnd (cv 5 0 (f_X6_fitsRow 0 (nI i))) B2) h' Q := fun H => wp_call (show cv 5 0 (f_X6_fitsRow 0 (nI i)) h' = _ from X6_fitsRow R' F' G T' GL hL (by omega)) H
    unfold kwG at K
    by_cases d : s.2 (wd A p i) = 0
    · rw [d, if_neg (show ¬ ¬ nI 0 = 0 from fun q => q rfl), if_neg (show ¬ (1 : Int32) = 0 by decide)]
      refine xf ?_
      rw [one_if]
      by_cases c : fi A L i = true
      · rw [if_pos c]
        rw [if_pos c, if_pos d] at K
        refine wp_eq (g0_10 R') (wp_eq (s106 (by omega)) ?_)
        refine K _ _ ⟨by rw [nI_1], fun j hj => ?_, ?_⟩
        · dsimp only
          rw [set_eq]
          by_cases e : j = wd A p i
          · subst e
            rw [upd_eq, if_pos rfl]
            rfl
          · rw [upd_ne _ _ e, if_neg e]
            exact N1 j hj
        · refine ⟨S.1, fun a ha => ?_⟩
          try dsimp only
          rw [set_ne _ _ ha]
          exact S.2 a ha
      · rw [if_neg c]
        rw [if_neg c] at K
        exact K _ _ ⟨rfl, N1, S⟩
    · rw [if_pos (nI_ne0 (by omega) (by omega)), if_pos rfl]
      by_cases c : fi A L i = true
      · rw [if_pos c, if_neg d] at K
        exact K _ _ ⟨rfl, N1, S⟩
      · rw [if_neg c] at K
        exact K _ _ ⟨rfl, N1, S⟩
  · obtain ⟨rfl, N1, S⟩ := q
    try dsimp only
    rw [if_pos (show (100 : Int32) ≤ nI 100 by decide)]
    exact wp_rt ⟨rfl, S.wide fun x q => by unfold GX; omega⟩
  · dsimp only
    rw [set_eq, if_pos hj]
    rfl
  · dsimp only
    rw [set_ne _ _ ha]
def tmG (A : AV) (L : Nat × (Nat → Nat)) (i : Nat) (s : Int32 × Nat) : Int32 × Nat := if kw A L i ≤ s.2 then s else (nI i, kw A L i)
def tmF (A : AV) (L : Nat × (Nat → Nat)) (i : Nat) : Int32 × Nat := fold (tmG A L) i (-9, 0)
theorem tmF_le (A : AV) (L : Nat × (Nat → Nat)) (i : Nat) : (tmF A L i).2 ≤ 100 := by
  induction i with
  | zero => exact Nat.zero_le _
  | succ i ih =>
    show (tmG A L i (tmF A L i)).2 ≤ 100
    unfold tmG
    split
    · exact ih
    · exact kw_le A L i
def tmS (A : AV) (L : Nat × (Nat → Nat)) (w : Int32) : Int32 := if w = 0 then (tmF A L A.2.1).1 else if ¬ (tmF A L A.2.1).1 = -9 then nI (tmF A L A.2.1).2 else (tmF A L A.2.1).1
def nz (A : AV) : Int32 := if A.2.1 = 0 then -3 else 0
theorem nz_no {A : AV} : nz A = 0 ∨ IsNo (nz A) := by
  unfold nz
  split
  · exact Or.inr (Or.inr (Or.inr (Or.inl rfl)))
  · exact Or.inl rfl
theorem QX_tellsMost {h : HP} {A : AV} {L : Nat × (Nat → Nat)} {w : Int32} (R : RefOk h.2) (F : FolkIs h 2 A) (G : GoodA A) (T : RowX h L) (GL : GoodL L) : wp (f_X6_tellsMost 0 w) h (OutX h (fs (nc 2 w) (fs (rl A L) (nz A))) (tmS A L w)) := by
  have hn := G.1.1
  have B := FB.of R (b := 2) (by decide)
  unfold f_X6_tellsMost
  refine wp_call (X6_noChoice (m := 2)) (wp_call (X6_rowTooLong R F G T GL) (wp_eq (x_gr0 R) (wp_eq (bI B) ?_)))
  rw [F.1.1]
  have H2 : ∀ K : Int32 → M Int32, wp (K (nz A)) h (OutX h (fs (nc 2 w) (fs (rl A L) (nz A))) (tmS A L w)) → wp (jn (fun k9 => if ¬ nI A.2.1 = (0 : Int32) then k9 (0 : Int32) else k9 (-3 : Int32)) K) h (OutX h (fs (nc 2 w) (fs (rl A L) (nz A))) (tmS A L w)) := fun K H => by
    unfold jn
    try dsimp only
    unfold nz at H ⊢
    by_cases c : A.2.1 = 0
    · rw [if_pos c] at H ⊢
      rw [c, if_neg (show ¬ ¬ nI 0 = 0 from fun q => q rfl)]
      exact H
    · rw [if_neg c] at H ⊢
      rw [if_pos (nI_ne0 (by omega) (by omega))]
      exact H
  refine H2 _ (wp_call X6_first (wp_call X6_first (gX R (fs_no nc_no (fs_no rl_no nz_no)) fun e => ?_)))
  have hL := rl_z (fs_z (fs_z e).2).1
  refine wp_loop (fun i s h' => s = ((tmF A L i).1, nI (tmF A L i).2, nI i) ∧ Same GX h h') A.2.1 (nf_lt (by omega)) (fun i hi s h' q k K => ?_) (fun s h' k q => ?_) ⟨rfl, Same.rfl'⟩
  · obtain ⟨rfl, S⟩ := q
    have R' := RefOk.same S R
    have F' := (x_stay S R F).2
    have T' := T.same S
    have B := FB.of R' (b := 2) (by decide)
    have lt := tmF_le A L i
    rw [show tmF A L (i + 1) = tmG A L i (tmF A L i) from rfl] at K
    generalize tmF A L i = s at lt K
    try dsimp only
    refine wp_eq (x_gr0 R') (wp_eq (bI B) ?_)
    rw [F'.1.1, if_neg (nI_ge hi (by omega))]
    refine wp_bnd (wp_mono (X6_kinds R' F' G T' GL hL (by omega)) fun v h2 q => ?_)
    obtain ⟨rfl, S2⟩ := q
    have lk := kw_le A L i
    have S3 : Same GX h h2 := S.trans S2 (fun _ q => q) (fun _ q => q)
    unfold tmG at K
    rw [nI_1]
    by_cases c : kw A L i ≤ s.2
    · rw [if_pos ((nI_leI (by omega) (by omega)).mpr c)]
      rw [if_pos c] at K
      exact K _ _ ⟨rfl, S3⟩
    · rw [if_neg (fun q => c ((nI_leI (by omega) (by omega)).mp q))]
      rw [if_neg c] at K
      exact K _ _ ⟨rfl, S3⟩
  · obtain ⟨rfl, S⟩ := q
    have R' := RefOk.same S R
    have F' := (x_stay S R F).2
    have B := FB.of R' (b := 2) (by decide)
    try dsimp only
    refine wp_eq (x_gr0 R') (wp_eq (bI B) ?_)
    rw [F'.1.1, if_pos (nI_le (Nat.le_refl _) (by omega))]
    unfold tmS
    by_cases c : w = 0
    · rw [if_pos c, if_pos c]
      exact wp_rt ⟨rfl, S⟩
    · rw [if_neg c, if_neg c]
      by_cases d : (tmF A L A.2.1).1 = -9
      · rw [if_neg (fun q => q d), if_neg (fun q => q d)]
        exact wp_rt ⟨rfl, S⟩
      · rw [if_pos d, if_pos d]
        exact wp_rt ⟨rfl, S⟩
theorem X7_kindsBy {h : HP} {A : AV} {L : Nat × (Nat → Nat)} {p : Nat} (R : RefOk h.2) (F : ModIs h A) (G : GoodA A) (T : RowY h L) (GL : GoodL L) (hL : L.1 ≤ A.2.1) (hp : p < 7) : wp (cv 6 110 (f_X7_kindsBy 110 (nI p))) h fun v h' => v = nI (kw A L p) ∧ LvY h h' := by
  show wp (f_X7_kindsBy 110 (nI p)) h _
  unfold f_X7_kindsBy
  refine wp_loop (fun i s h' => s = nI i ∧ (∀ j, j < i → h'.1 127 j = 0) ∧ Same (fun a => a = 127) h h') 100 (nf_lt (by omega)) (fun i hi s h' q k K => ?_) (fun s h1 k q => ?_) ⟨rfl, fun j hj => by omega, Same.rfl'⟩
  · obtain ⟨rfl, N1, S⟩ := q
    have R' := RefOk.same S R
    rw [if_neg (show ¬ (99 : Int32) < nI i from fun q => absurd ((nI_ltI (a := 99) (by omega) (by omega)).mp q) (by omega))]
    refine wp_eq (g110_26 R') (wp_eq (s127 hi) ?_)
    refine K _ _ ⟨by rw [nI_1], fun j hj => ?_, S.1, fun a ha => ?_⟩
    · dsimp only
      rw [set_eq]
      by_cases c : j = i
      · subst c
        rw [upd_eq]
      · rw [upd_ne _ _ c]
        exact N1 j (by omega)
    · dsimp only
      rw [set_ne _ _ ha]
      exact S.2 a ha
  · obtain ⟨rfl, M0, S0⟩ := q
    rw [if_pos (show (99 : Int32) < nI 100 by decide)]
    refine wp_loop (fun i s h' => s = (nI (kwF A L p i).1, nI i) ∧ (∀ j, j < 100 → h'.1 127 j = nI ((kwF A L p i).2 j)) ∧ Same (fun a => a = 127) h h') 100 (nf_lt (by omega)) (fun i hi s h' q k K => ?_) (fun s h' k q => ?_) ⟨rfl, fun j hj => M0 j hj, S0⟩
    · obtain ⟨rfl, N1, S⟩ := q
      have SG : LvY h h' := LvY.of (S.wide fun x q => by omega)
      have R' := RefOk.same S R
      have F' := SG.mod F
      have T' := T.lv SG
      have ok := kwF_ok A L p i
      rw [kwF_s] at K
      generalize kwF A L p i = s at N1 ok K
      have wl := wd_le G (p := p) (v := i) hp (by omega)
      have m1 := ok.2 (wd A p i)
      try dsimp only
      rw [if_neg (show ¬ (99 : Int32) < nI i from fun q => absurd ((nI_ltI (a := 99) (by omega) (by omega)).mp q) (by omega))]
      refine wp_call (show cv 6 110 (f_X7_fits 110 (nI i)) h' = _ from X7_fits R' F' G T' GL hL (by omega)) ?_
      unfold kwG at K
      rw [tb_ifn, nI_1]
      by_cases c : fi A L i = true
      · rw [if_pos c]
        rw [if_pos c] at K
        have sd : ∀ {B2 : Int32 → M Int32} {Q : Int32 → HP → Prop}, wp (B2 (nI (wd A p i))) h' Q → wp (bnd (cv 6 110 (f_X7_saidOf 110 (nI p) (nI i))) B2) h' Q := fun H => wp_call (show cv 6 110 (f_X7_saidOf 110 (nI p) (nI i)) h' = _ from X7_said R' F' G hp (by omega)) H
        refine wp_eq (g110_26 R') (sd (wp_eq (a127 (by omega)) (wp_eq (g110_26 R') (sd (wp_eq (s127 (by omega)) ?_)))))
        rw [N1 _ (by omega)]
        by_cases d : s.2 (wd A p i) = 0
        · rw [if_pos d] at K
          refine K _ _ ⟨by rw [d, show (1 : Int32) - nI 0 = 1 from rfl, nI_1], fun j hj => ?_, S.1, fun a ha => ?_⟩
          · dsimp only
            rw [set_eq]
            by_cases e : j = wd A p i
            · subst e
              rw [upd_eq, if_pos rfl]
              rfl
            · rw [upd_ne _ _ e, if_neg e]
              exact N1 j hj
          · dsimp only
            rw [set_ne _ _ ha]
            exact S.2 a ha
        · rw [if_neg d] at K
          have d1 : s.2 (wd A p i) = 1 := by omega
          refine K _ _ ⟨by rw [d1, show (1 : Int32) - nI 1 = 0 from rfl, Int32.add_zero], fun j hj => ?_, S.1, fun a ha => ?_⟩
          · dsimp only
            rw [set_eq]
            by_cases e : j = wd A p i
            · subst e
              rw [upd_eq, d1]
              rfl
            · rw [upd_ne _ _ e]
              exact N1 j hj
          · dsimp only
            rw [set_ne _ _ ha]
            exact S.2 a ha
      · rw [if_neg c]
        rw [if_neg c] at K
        exact K _ _ ⟨rfl, N1, S⟩
    · obtain ⟨rfl, N1, S⟩ := q
      try dsimp only
      rw [if_pos (show (99 : Int32) < nI 100 by decide)]
      exact wp_rt ⟨rfl, LvY.of (S.wide fun x q => by omega)⟩
def tmB (A : AV) (L : Nat × (Nat → Nat)) : Nat → Nat
  | 0 => 0
  | i + 1 => if kw A L (i + 1) ≤ kw A L (tmB A L i) then tmB A L i else i + 1
theorem tmB_s (A : AV) (L : Nat × (Nat → Nat)) (i : Nat) : tmB A L (i + 1) = if kw A L (i + 1) ≤ kw A L (tmB A L i) then tmB A L i else i + 1 := rfl
theorem tmB_le (A : AV) (L : Nat × (Nat → Nat)) (i : Nat) : tmB A L i ≤ i := by
  induction i with
  | zero => exact Nat.le_refl 0
  | succ i ih =>
    rw [tmB_s]
    split <;> omega
theorem tm_eq (A : AV) (L : Nat × (Nat → Nat)) (i : Nat) : tmF A L (i + 1) = if kw A L (tmB A L i) = 0 then (-9, 0) else (nI (tmB A L i), kw A L (tmB A L i)) := by
  induction i with
  | zero =>
    show tmG A L 0 (-9, 0) = _
    unfold tmG
    rw [show tmB A L 0 = 0 from rfl]
    by_cases c : kw A L 0 = 0
    · rw [if_pos c, if_pos (by rw [c]; exact Nat.le_refl 0)]
    · rw [if_neg c, if_neg (fun q => c (Nat.le_zero.mp q))]
  | succ i ih =>
    rw [show tmF A L (i + 1 + 1) = tmG A L (i + 1) (tmF A L (i + 1)) from rfl, ih, tmB_s]
    unfold tmG
    by_cases c : kw A L (tmB A L i) = 0
    · rw [if_pos c, c]
      try dsimp only
      by_cases d : kw A L (i + 1) ≤ 0
      · rw [if_pos d, if_pos d, if_pos c]
      · rw [if_neg d, if_neg d, if_neg (fun q => d (by omega))]
    · rw [if_neg c]
      try dsimp only
      by_cases d : kw A L (i + 1) ≤ kw A L (tmB A L i)
      · rw [if_pos d, if_pos d, if_neg c]
      · rw [if_neg d, if_neg d, if_neg (fun q => d (by omega))]
theorem QY_tellsMost {h : HP} {A : AV} {L : Nat × (Nat → Nat)} {w : Int32} (R : RefOk h.2) (F : ModIs h A) (G : GoodA A) (T : RowY h L) (GL : GoodL L) : wp (f_X7_tellsMost 110 w) h (OutY h (fs (nc 2 w) (fs (rl A L) (nz A))) (tmS A L w)) := by
  have hn := G.1.1
  have hl := GL.1
  unfold f_X7_tellsMost
  refine wp_call (X7_isIn (m := 1) (by decide)) ?_
  have H2 : ∀ K : Int32 → M Int32, wp (K (fs (nc 2 w) (fs (rl A L) (nz A)))) h (OutY h (fs (nc 2 w) (fs (rl A L) (nz A))) (tmS A L w)) → wp (jn (fun k4 => if ¬ (if pn (1 + 1) w = true then (1 : Int32) else 0) = (0 : Int32) then bnd (gI 6 25 110) fun t16 => bnd (gI 6 8 110) fun t17 => if t17 < t16 then k4 (-3 : Int32) else bnd (gI 6 8 110) fun t18 => if ¬ t18 = (0 : Int32) then k4 (0 : Int32) else k4 (-3 : Int32) else k4 (-2 : Int32)) K) h (OutY h (fs (nc 2 w) (fs (rl A L) (nz A))) (tmS A L w)) := fun K H => by
    unfold jn
    try dsimp only
    rw [tb_ifn]
    unfold fs nc rl nz at H ⊢
    cases z : pn 2 w
    · simp only [z, Bool.false_eq_true, if_false] at H ⊢
      exact H
    · simp only [z, if_true] at H ⊢
      refine wp_eq g110_25 (wp_eq g110_8 ?_)
      rw [T.1, F.1.1]
      by_cases c : L.1 ≤ A.2.1
      · rw [if_neg (fun q => absurd ((nI_ltI (by omega) (by omega)).mp q) (by omega))]
        simp only [c, if_true] at H ⊢
        refine wp_eq g110_8 ?_
        rw [F.1.1]
        by_cases d : A.2.1 = 0
        · rw [d, if_neg (show ¬ ¬ nI 0 = 0 from fun q => q rfl)]
          simp only [d, if_true] at H ⊢
          exact H
        · rw [if_pos (nI_ne0 (by omega) (by omega))]
          simp only [d, if_false] at H ⊢
          exact H
      · rw [if_pos ((nI_ltI (by omega) (by omega)).mpr (by omega))]
        simp only [c, if_false] at H ⊢
        exact H
  refine H2 _ (gY R (fs_no nc_no (fs_no rl_no nz_no)) fun e => ?_)
  have hL := rl_z (fs_z (fs_z e).2).1
  have h0 : ¬ A.2.1 = 0 := fun q => by
    have := (fs_z (fs_z e).2).2
    unfold nz at this
    rw [if_pos q] at this
    exact absurd this (by decide)
  refine wp_loop (fun i s h' => s = (nI (tmB A L i), nI (i + 1)) ∧ LvY h h') (A.2.1 - 1) (nf_lt (by omega)) (fun i hi s h' q k K => ?_) (fun s h' k q => ?_) ⟨rfl, LvY.rf⟩
  · obtain ⟨rfl, S⟩ := q
    have R' := S.ref R
    have F' := S.mod F
    have T' := T.lv S
    have lt := tmB_le A L i
    try dsimp only
    refine wp_eq g110_8 ?_
    rw [F'.1.1, if_neg (nI_ge (show i + 1 < A.2.1 by omega) (by omega))]
    refine wp_bnd (wp_mono (X7_kindsBy R' F' G T' GL hL (show i + 1 < 7 by omega)) fun v h2 q => ?_)
    obtain ⟨rfl, S2⟩ := q
    refine wp_bnd (wp_mono (X7_kindsBy (S2.ref R') (S2.mod F') G (T'.lv S2) GL hL (show tmB A L i < 7 by omega)) fun v h3 q => ?_)
    obtain ⟨rfl, S3⟩ := q
    have lk := kw_le A L (i + 1)
    have lk2 := kw_le A L (tmB A L i)
    have S4 := (S.tr S2).tr S3
    rw [tmB_s] at K
    rw [nI_1]
    by_cases c : kw A L (i + 1) ≤ kw A L (tmB A L i)
    · rw [if_pos ((nI_leI (by omega) (by omega)).mpr c)]
      rw [if_pos c] at K
      exact K _ _ ⟨rfl, S4⟩
    · rw [if_neg (fun q => c ((nI_leI (by omega) (by omega)).mp q))]
      rw [if_neg c] at K
      exact K _ _ ⟨rfl, S4⟩
  · obtain ⟨rfl, S⟩ := q
    have R' := S.ref R
    have F' := S.mod F
    have T' := T.lv S
    have lt := tmB_le A L (A.2.1 - 1)
    have te := tm_eq A L (A.2.1 - 1)
    rw [show A.2.1 - 1 + 1 = A.2.1 by omega] at te
    try dsimp only
    refine wp_eq g110_8 ?_
    rw [F'.1.1, if_pos (nI_le (show A.2.1 ≤ A.2.1 - 1 + 1 by omega) (by omega))]
    generalize tmB A L (A.2.1 - 1) = b at lt te
    refine wp_bnd (wp_mono (X7_kindsBy R' F' G T' GL hL (show b < 7 by omega)) fun v h2 q => ?_)
    obtain ⟨rfl, S2⟩ := q
    have lk := kw_le A L b
    have S3 := S.tr S2
    unfold tmS
    rw [te]
    by_cases c : kw A L b = 0
    · rw [c, if_neg (show ¬ ¬ nI 0 = 0 from fun q => q rfl), if_pos rfl]
      refine wp_rt ⟨?_, S3⟩
      by_cases d : w = 0
      · rw [if_pos d]
      · rw [if_neg d]
        rfl
    · rw [if_neg c, if_pos (nI_ne0 (by omega) (by omega))]
      by_cases d : w = 0
      · rw [if_neg (fun q => q d), if_pos d]
        exact wp_rt ⟨rfl, S3⟩
      · rw [if_pos d, if_neg d]
        refine wp_rt ⟨?_, S3⟩
        rw [if_pos (m9_eq (by omega))]
