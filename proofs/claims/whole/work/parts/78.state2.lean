/-! THE WHOLE STATE: what both objects hold -/
abbrev PV := (Nat → Nat) × (Nat → Nat)
abbrev LV := Nat × (Nat → Nat)
abbrev St := AV × PV × LV × LV × (Bool × AV × PV) × (Nat × (Nat → AV)) × (Nat → Int32)
def LetX (h : HP) (T : LV) : Prop := h.1 102 0 = nI T.1 ∧ ∀ k, k < T.1 → h.1 103 k = nI (T.2 k)
def LetY (h : HP) (T : LV) : Prop := h.1 110 14 = nI T.1 ∧ ∀ k, k < T.1 → h.1 119 k = nI (T.2 k)
def GoodT (T : LV) : Prop := T.1 ≤ 96 ∧ ∀ k, k < T.1 → T.2 k ≤ 255
def KeptIs (r : Nat → Int32) (c : Nat) (A : AV) (P : PV) : Prop := (∀ k, k < 7 → r (c + k) = nI (A.1 0 k)) ∧ (∀ k, k < 7 → r (c + 7 + k) = nI (A.1 1 k)) ∧ (∀ k, k < 7 → r (c + 14 + k) = nI (A.1 2 k)) ∧ (∀ k, k < 7 → r (c + 21 + k) = nI (A.1 3 k)) ∧ (∀ k, k < 7 → r (c + 28 + k) = nI (A.1 4 k)) ∧ (∀ k, k < 8 → r (c + 35 + k) = nI (P.1 k)) ∧ (∀ k, k < 8 → r (c + 43 + k) = nI (P.2 k)) ∧ r (c + 51) = nI A.2.1 ∧ r (c + 52) = nI A.2.2
def PlB (h : HP) (b : Nat) (P : PV) : Prop := (∀ k, k < 8 → h.1 (b + 1) k = nI (P.1 k)) ∧ ∀ k, k < 8 → h.1 (b + 2) k = nI (P.2 k)
def ImX (h : HP) (I : Bool × AV × PV) : Prop := h.1 0 3 = (if I.1 then 1 else 0) ∧ (I.1 = true → FolkIs h 26 I.2.1 ∧ PlB h 33 I.2.2)
def ImY (h : HP) (I : Bool × AV × PV) : Prop := h.1 110 18 = (if I.1 then 1 else 0) ∧ (I.1 = true → KeptIs (h.1 123) 0 I.2.1 I.2.2)
def Perm8 (s : Nat → Nat) : Prop := (∀ i, i < 8 → s i < 8) ∧ ∀ i j, i < 8 → j < 8 → s i = s j → i = j
def PastX (h : HP) (Q : Nat × (Nat → AV)) : Prop := (h.1 44 0 = nI Q.1 ∧ Q.1 ≤ 8) ∧ ∃ s, Perm8 s ∧ (∀ i, i < 8 → h.2 45 i = some (46 + 7 * s i)) ∧ ∀ i, i < Q.1 → FolkIs h (46 + 7 * s i) (Q.2 i)
def PastY (h : HP) (Q : Nat × (Nat → AV)) (P : PV) : Prop := h.1 110 21 = nI Q.1 ∧ ∀ i, i < Q.1 → KeptIs (h.1 123) (55 * (3 + i)) (Q.2 i) P
def XS (h : HP) (S : St) : Prop := RefOk h.2 ∧ FolkIs h 2 S.1 ∧ PlX h S.2.1 ∧ RowX h S.2.2.1 ∧ LetX h S.2.2.2.1 ∧ ImX h S.2.2.2.2.1 ∧ PastX h S.2.2.2.2.2.1 ∧ ∀ k, k < 7 → h.1 105 k = S.2.2.2.2.2.2 k
def YS (h : HP) (S : St) : Prop := ModIs h S.1 ∧ PlY h S.2.1 ∧ RowY h S.2.2.1 ∧ LetY h S.2.2.2.1 ∧ ImY h S.2.2.2.2.1 ∧ PastY h S.2.2.2.2.2.1 S.2.1 ∧ ∀ k, k < 7 → h.1 111 k = S.2.2.2.2.2.2 k
def GA (A : AV) : Prop := GoodA A ∧ A.2.2 ≤ 999
def GP' (P : PV) : Prop := GoodP P ∧ SymP P
def GoodS (S : St) : Prop := GA S.1 ∧ GP' S.2.1 ∧ GoodL S.2.2.1 ∧ GoodT S.2.2.2.1 ∧ (S.2.2.2.2.1.1 = true → GA S.2.2.2.2.1.2.1 ∧ GP' S.2.2.2.2.1.2.2) ∧ S.2.2.2.2.2.1.1 ≤ 8 ∧ ∀ i, i < S.2.2.2.2.2.1.1 → GA (S.2.2.2.2.2.1.2 i)
/-! frames -/
theorem FolkIs.fr {h h' : HP} {b : Nat} {A : AV} (F : FolkIs h b A) (e : ∀ a, b ≤ a → a ≤ b + 5 → h'.1 a = h.1 a) : FolkIs h' b A := F.same (by rw [e b (by omega) (by omega)]) (by rw [e b (by omega) (by omega)]) fun j h1 h2 k _ => by rw [e (b + j) (by omega) (by omega)]
theorem PlX.fr {h h' : HP} {P : PV} (T : PlX h P) (e0 : h'.1 10 = h.1 10) (e1 : h'.1 11 = h.1 11) : PlX h' P := by
  unfold PlX
  rw [e0, e1]
  exact T
theorem PlB.fr {h h' : HP} {b : Nat} {P : PV} (T : PlB h b P) (e0 : h'.1 (b + 1) = h.1 (b + 1)) (e1 : h'.1 (b + 2) = h.1 (b + 2)) : PlB h' b P := by
  unfold PlB
  rw [e0, e1]
  exact T
theorem RowX.fr {h h' : HP} {L : LV} (T : RowX h L) (e0 : h'.1 0 8 = h.1 0 8) (e1 : h'.1 104 = h.1 104) : RowX h' L := by
  unfold RowX
  rw [e0, e1]
  exact T
theorem LetX.fr {h h' : HP} {T : LV} (H : LetX h T) (e0 : h'.1 102 = h.1 102) (e1 : h'.1 103 = h.1 103) : LetX h' T := by
  unfold LetX
  rw [e0, e1]
  exact H
theorem ImX.fr {h h' : HP} {I : Bool × AV × PV} (H : ImX h I) (e0 : h'.1 0 3 = h.1 0 3) (e1 : ∀ a, 26 ≤ a → a ≤ 35 → h'.1 a = h.1 a) : ImX h' I := by
  refine ⟨e0.trans H.1, fun q => ?_⟩
  obtain ⟨a, b⟩ := H.2 q
  exact ⟨a.fr fun a h1 h2 => e1 a (by omega) (by omega), b.fr (e1 34 (by omega) (by omega)) (e1 35 (by omega) (by omega))⟩
theorem PastX.fr {h h' : HP} {Q : Nat × (Nat → AV)} (H : PastX h Q) (e : h'.2 = h.2) (e1 : ∀ a, 44 ≤ a → a ≤ 101 → h'.1 a = h.1 a) : PastX h' Q := by
  obtain ⟨⟨h0, h8⟩, s, h1, h2, h3⟩ := H
  refine ⟨⟨by rw [e1 44 (by omega) (by omega)]; exact h0, h8⟩, s, h1, fun i hi => by rw [e]; exact h2 i hi, fun i hi => ?_⟩
  have := h1.1 i (by omega)
  exact (h3 i hi).fr fun a a1 a2 => e1 a (by omega) (by omega)
theorem XS.down {h h' : HP} {S : St} (X : XS h S) (e : h'.2 = h.2) (e1 : ∀ a, a < 110 → ¬ GX a → h'.1 a = h.1 a) : XS h' S := by
  obtain ⟨x0, x1, x2, x3, x4, x5, x6, x7⟩ := X
  unfold GX at e1
  exact ⟨by rw [e]; exact x0, x1.fr fun a h1 h2 => e1 a (by omega) (by omega), x2.fr (e1 10 (by omega) (by omega)) (e1 11 (by omega) (by omega)), x3.fr (by rw [e1 0 (by omega) (by omega)]) (e1 104 (by omega) (by omega)), x4.fr (e1 102 (by omega) (by omega)) (e1 103 (by omega) (by omega)), x5.fr (by rw [e1 0 (by omega) (by omega)]) (fun a h1 h2 => e1 a (by omega) (by omega)), x6.fr e (fun a h1 h2 => e1 a (by omega) (by omega)), fun k hk => by rw [e1 105 (by omega) (by omega)]; exact x7 k hk⟩
theorem KeptIs.fr {r r' : Nat → Int32} {c : Nat} {A : AV} {P : PV} (H : KeptIs r c A P) (e : ∀ j, c ≤ j → j < c + 53 → r' j = r j) : KeptIs r' c A P := by
  obtain ⟨a1, a2, a3, a4, a5, a6, a7, a8, a9⟩ := H
  exact ⟨fun k hk => by rw [e _ (by omega) (by omega)]; exact a1 k hk, fun k hk => by rw [e _ (by omega) (by omega)]; exact a2 k hk, fun k hk => by rw [e _ (by omega) (by omega)]; exact a3 k hk, fun k hk => by rw [e _ (by omega) (by omega)]; exact a4 k hk, fun k hk => by rw [e _ (by omega) (by omega)]; exact a5 k hk, fun k hk => by rw [e _ (by omega) (by omega)]; exact a6 k hk, fun k hk => by rw [e _ (by omega) (by omega)]; exact a7 k hk, by rw [e _ (by omega) (by omega)]; exact a8, by rw [e _ (by omega) (by omega)]; exact a9⟩
theorem ImY.fr {h h' : HP} {I : Bool × AV × PV} (H : ImY h I) (e0 : h'.1 110 18 = h.1 110 18) (e1 : ∀ j, j < 53 → h'.1 123 j = h.1 123 j) : ImY h' I := ⟨e0.trans H.1, fun q => (H.2 q).fr fun j h1 h2 => e1 j (by omega)⟩
theorem PastY.fr {h h' : HP} {Q : Nat × (Nat → AV)} {P : PV} (H : PastY h Q P) (e0 : h'.1 110 21 = h.1 110 21) (e1 : ∀ j, 165 ≤ j → h'.1 123 j = h.1 123 j) : PastY h' Q P := ⟨e0.trans H.1, fun i hi => (H.2 i hi).fr fun j h1 h2 => e1 j (by omega)⟩
theorem LetY.fr {h h' : HP} {T : LV} (H : LetY h T) (e0 : h'.1 110 14 = h.1 110 14) (e1 : h'.1 119 = h.1 119) : LetY h' T := by
  unfold LetY
  rw [e0, e1]
  exact H
theorem RowY.fr {h h' : HP} {T : LV} (H : RowY h T) (e0 : h'.1 110 25 = h.1 110 25) (e1 : h'.1 126 = h.1 126) : RowY h' T := by
  unfold RowY
  rw [e0, e1]
  exact H
theorem PlY.fr {h h' : HP} {P : PV} (T : PlY h P) (e0 : h'.1 117 = h.1 117) (e1 : h'.1 118 = h.1 118) : PlY h' P := by
  unfold PlY
  rw [e0, e1]
  exact T
theorem ModIs.fr {h h' : HP} {A : AV} (F : ModIs h A) (e0 : h'.1 110 8 = h.1 110 8) (e1 : h'.1 110 9 = h.1 110 9) (e : ∀ a, 112 ≤ a → a ≤ 116 → h'.1 a = h.1 a) : ModIs h' A := F.same e0 e1 fun j h1 h2 k _ => by rw [e j h1 h2]
theorem YS.up {h h' : HP} {S : St} (Y : YS h S) (e : ∀ a, 110 ≤ a → h'.1 a = h.1 a) : YS h' S := by
  obtain ⟨y1, y2, y3, y4, y5, y6, y7⟩ := Y
  have e0 : ∀ k, h'.1 110 k = h.1 110 k := fun k => by rw [e 110 (by omega)]
  exact ⟨y1.fr (e0 _) (e0 _) fun a h1 h2 => e a (by omega), y2.fr (e 117 (by omega)) (e 118 (by omega)), y3.fr (e0 _) (e 126 (by omega)), y4.fr (e0 _) (e 119 (by omega)), y5.fr (e0 _) (fun j _ => by rw [e 123 (by omega)]), y6.fr (e0 _) (fun j _ => by rw [e 123 (by omega)]), fun k hk => by rw [e 111 (by omega)]; exact y7 k hk⟩
theorem YS.lv {h h' : HP} {S : St} (Y : YS h S) (L : LvY h h') : YS h' S := by
  obtain ⟨y1, y2, y3, y4, y5, y6, y7⟩ := Y
  obtain ⟨l1, l2, ⟨l3, l4, l5⟩, l6, l7, ⟨l8, l9, l10, l11, l12, l13⟩, l14⟩ := id L
  exact ⟨L.mod y1, y2.lv L, y3.lv L, y4.fr l10 l4, y5.fr l11 (fun j hj => l14 j (by omega)), y6.fr l12 (fun j hj => l14 j (by omega)), fun k hk => by rw [l3]; exact y7 k hk⟩
/-! one call of each -/
def Rel (h : HP) (S : St) : Prop := XS h S ∧ YS h S ∧ GoodS S
def Ok (X Y : M Int32) : Prop := ∀ h S, Rel h S → wp X h fun v h1 => wp Y h1 fun v' h2 => v' = v ∧ ∃ S', Rel h2 S'
def Xw (X : M Int32) (an : St → Int32) (nw : St → St) : Prop := ∀ h S, XS h S → GoodS S → wp X h fun v h1 => v = an S ∧ XS h1 (nw S) ∧ ∀ a, 110 ≤ a → h1.1 a = h.1 a
def Yw (Y : M Int32) (an : St → Int32) (nw : St → St) : Prop := ∀ h S, RefOk h.2 → YS h S → GoodS S → wp Y h fun v h1 => v = an S ∧ YS h1 (nw S) ∧ (∀ a, a < 110 → h1.1 a = h.1 a) ∧ h1.2 = h.2
theorem Ok.of {X Y : M Int32} {an : St → Int32} {nw : St → St} (hx : Xw X an nw) (hy : Yw Y an nw) (hg : ∀ S, GoodS S → GoodS (nw S)) : Ok X Y := by
  intro h S R
  obtain ⟨xs, ys, gs⟩ := R
  refine wp_mono (hx h S xs gs) fun v h1 q => ?_
  obtain ⟨rfl, x1, x2⟩ := q
  refine wp_mono (hy h1 S x1.1 (ys.up x2) gs) fun v h2 q => ?_
  obtain ⟨rfl, y1, y2, y3⟩ := q
  exact ⟨rfl, nw S, x1.down y3 fun a ha _ => y2 a ha, y1, hg S gs⟩
def rfS (S : St) (c : Int32) : St := (S.1, S.2.1, S.2.2.1, S.2.2.2.1, S.2.2.2.2.1, S.2.2.2.2.2.1, fun k => if k = ix (-c) then S.2.2.2.2.2.2 k + 1 else S.2.2.2.2.2.2 k)
theorem rfS_good {S : St} {c : Int32} (G : GoodS S) : GoodS (rfS S c) := G
theorem Rf_row {h : HP} {b : Nat} {c : Int32} {S : Nat → Int32} (hc : IsNo c) (H : ∀ k, k < 7 → h.1 b k = S k) : ∀ k, k < 7 → (Rf b h c).1 b k = if k = ix (-c) then S k + 1 else S k := by
  obtain ⟨j, hj, e⟩ := hc.k
  have ej : ix (-c) = j := by rw [e, ix_nI (by omega)]
  intro k hk
  unfold Rf
  dsimp only
  rw [set_eq, ej]
  by_cases q : k = j
  · subst q
    rw [upd_eq, if_pos rfl, H k hk]
  · rw [upd_ne _ _ q, if_neg q, H k hk]
theorem Rf_ne {h : HP} {b a : Nat} {c : Int32} (h1 : ¬ a = b) : (Rf b h c).1 a = h.1 a := by
  unfold Rf
  dsimp only
  rw [set_ne _ _ h1]
theorem XS.rf {h : HP} {S : St} {c : Int32} (X : XS h S) (hc : IsNo c) : XS (Rf 105 h c) (rfS S c) := by
  obtain ⟨x0, x1, x2, x3, x4, x5, x6, x7⟩ := X
  have e : ∀ a, ¬ a = 105 → (Rf 105 h c).1 a = h.1 a := fun a ha => Rf_ne ha
  exact ⟨x0, x1.fr fun a h1 h2 => e a (by omega), x2.fr (e 10 (by omega)) (e 11 (by omega)), x3.fr (by rw [e 0 (by omega)]) (e 104 (by omega)), x4.fr (e 102 (by omega)) (e 103 (by omega)), x5.fr (by rw [e 0 (by omega)]) (fun a h1 h2 => e a (by omega)), x6.fr rfl (fun a h1 h2 => by
    by_cases q : a = 105
    · omega
    · exact e a q), Rf_row hc x7⟩
theorem YS.rf {h : HP} {S : St} {c : Int32} (Y : YS h S) (hc : IsNo c) : YS (Rf 111 h c) (rfS S c) := by
  obtain ⟨y1, y2, y3, y4, y5, y6, y7⟩ := Y
  have e : ∀ a, ¬ a = 111 → (Rf 111 h c).1 a = h.1 a := fun a ha => Rf_ne ha
  have e0 : ∀ k, (Rf 111 h c).1 110 k = h.1 110 k := fun k => by rw [e 110 (by omega)]
  exact ⟨y1.fr (e0 _) (e0 _) fun a h1 h2 => e a (by omega), y2.fr (e 117 (by omega)) (e 118 (by omega)), y3.fr (e0 _) (e 126 (by omega)), y4.fr (e0 _) (e 119 (by omega)), y5.fr (e0 _) (fun j _ => by rw [e 123 (by omega)]), y6.fr (e0 _) (fun j _ => by rw [e 123 (by omega)]), Rf_row hc y7⟩
def nwQ (nm : St → Int32) (S : St) : St := if nm S = 0 then S else rfS S (nm S)
def anQ (nm am : St → Int32) (S : St) : Int32 := if nm S = 0 then am S else nm S
theorem isno0 {c : Int32} (h : IsNo c) : ¬ c = 0 := by
  rcases h with rfl | rfl | rfl | rfl | rfl <;> decide
theorem Same.hi {h h1 : HP} (S : Same GX h h1) : ∀ a, 110 ≤ a → h1.1 a = h.1 a := fun a ha => S.2 a (by unfold GX; omega)
theorem Xw.q {X : M Int32} {nm am : St → Int32} (H : ∀ h S, XS h S → GoodS S → wp X h (OutX h (nm S) (am S))) : Xw X (anQ nm am) (nwQ nm) := by
  intro h S xs gs
  refine wp_mono (H h S xs gs) fun v h1 q => ?_
  unfold anQ nwQ
  rcases q with ⟨e, rfl, s⟩ | ⟨hc, rfl, rfl⟩
  · rw [if_pos e, if_pos e]
    exact ⟨rfl, xs.down s.1 (fun a _ hg => s.2 a hg), s.hi⟩
  · rw [if_neg (isno0 hc), if_neg (isno0 hc)]
    exact ⟨rfl, xs.rf hc, fun a ha => Rf_ne (by omega)⟩
theorem Yw.q {Y : M Int32} {nm am : St → Int32} (H : ∀ h S, RefOk h.2 → YS h S → GoodS S → wp Y h (OutY h (nm S) (am S))) : Yw Y (anQ nm am) (nwQ nm) := by
  intro h S R ys gs
  refine wp_mono (H h S R ys gs) fun v h1 q => ?_
  unfold anQ nwQ
  rcases q with ⟨e, rfl, s⟩ | ⟨hc, rfl, rfl⟩
  · rw [if_pos e, if_pos e]
    exact ⟨rfl, ys.lv s, s.2.1, s.1⟩
  · rw [if_neg (isno0 hc), if_neg (isno0 hc)]
    exact ⟨rfl, ys.rf hc, fun a ha => Rf_ne (by omega), rfl⟩
theorem nwQ_good {nm : St → Int32} : ∀ S, GoodS S → GoodS (nwQ nm S) := fun S G => by
  unfold nwQ
  split
  · exact G
  · exact rfS_good G
theorem Ok.q {X Y : M Int32} (nm am : St → Int32) (hx : ∀ h S, XS h S → GoodS S → wp X h (OutX h (nm S) (am S))) (hy : ∀ h S, RefOk h.2 → YS h S → GoodS S → wp Y h (OutY h (nm S) (am S))) : Ok X Y := Ok.of (Xw.q hx) (Yw.q hy) nwQ_good
theorem Ok.n {X Y : M Int32} (am : St → Int32) (hx : ∀ h S, XS h S → GoodS S → wp X h fun v h' => v = am S ∧ Same GX h h') (hy : ∀ h S, RefOk h.2 → YS h S → GoodS S → wp Y h fun v h' => v = am S ∧ LvY h h') : Ok X Y := by
  refine Ok.q (fun _ => 0) am (fun h S xs gs => wp_mono (hx h S xs gs) fun v h1 q => Or.inl ⟨rfl, q.1, q.2⟩) (fun h S R ys gs => wp_mono (hy h S R ys gs) fun v h1 q => Or.inl ⟨rfl, q.1, q.2⟩)
def anW (nm am : St → Int32) (S : St) : Int32 := if nm S = 0 then am S else 1000000000 - nm S
theorem Ok.w {X Y : M Int32} (nm am : St → Int32) (hx : ∀ h S, XS h S → GoodS S → wp X h (OutXw h (nm S) (am S))) (hy : ∀ h S, RefOk h.2 → YS h S → GoodS S → wp Y h (OutYw h (nm S) (am S))) : Ok X Y := by
  refine Ok.of (an := anW nm am) (nw := nwQ nm) (fun h S xs gs => wp_mono (hx h S xs gs) fun v h1 q => ?_) (fun h S R ys gs => wp_mono (hy h S R ys gs) fun v h1 q => ?_) nwQ_good
  · unfold anW nwQ
    rcases q with ⟨e, rfl, s⟩ | ⟨hc, rfl, rfl⟩
    · rw [if_pos e, if_pos e]
      exact ⟨rfl, xs.down s.1 (fun a _ hg => s.2 a hg), s.hi⟩
    · rw [if_neg (isno0 hc), if_neg (isno0 hc)]
      exact ⟨rfl, xs.rf hc, fun a ha => Rf_ne (by omega)⟩
  · unfold anW nwQ
    rcases q with ⟨e, rfl, s⟩ | ⟨hc, rfl, rfl⟩
    · rw [if_pos e, if_pos e]
      exact ⟨rfl, ys.lv s, s.2.1, s.1⟩
    · rw [if_neg (isno0 hc), if_neg (isno0 hc)]
      exact ⟨rfl, ys.rf hc, fun a ha => Rf_ne (by omega), rfl⟩
