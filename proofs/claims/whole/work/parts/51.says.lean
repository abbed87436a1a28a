/-! SAYS, SAYSOF, BARGAIN, STRIKE -/
theorem QX_says {h : HP} {A : AV} {x y : Int32} (R : RefOk h.2) (F : FolkIs h 2 A) (G : GoodA A) : wp (f_X6_says 0 x y) h (OutX h (n2p A.2.1 x y) (nI (wd A (ix x) (A.1 2 (ix y))))) := by
  unfold f_X6_says
  refine wp_call (noT R F.1.1) (gX R n2p_no fun e => ?_)
  have hn := G.1.1
  obtain ⟨i, j, hi, hj, rfl, rfl, hij⟩ := n2p_ix e (by omega)
  rw [ix_nI (by omega), ix_nI (by omega)]
  have B := FB.of R (b := 2) (by decide)
  have j7 : j < 7 := by omega
  refine wp_eq (x_gr0 R) (wp_eq (x_gr0 R) (wp_eq (bR5 B) (wp_eq (bA3 B j7) ?_)))
  rw [F.2.2.2.1 j j7]
  exact wp_call (show cv 0 2 (f_X0_word 2 (nI i) (nI (A.1 2 j))) h = _ from X0_word B F G (by omega) (G.2 j j7).2.2.1) (wp_rt ⟨rfl, Same.rfl'⟩)
theorem QY_says {h : HP} {A : AV} {x y : Int32} (R : RefOk h.2) (F : ModIs h A) (G : GoodA A) : wp (f_X7_says 110 x y) h (OutY h (n2p A.2.1 x y) (nI (wd A (ix x) (A.1 2 (ix y))))) := by
  unfold f_X7_says
  refine wp_call (show cv 6 110 (f_X7_areTwo 110 x y) h = _ from X7_areTwo F.1.1) ?_
  have hn := G.1.1
  rw [tb_if]
  by_cases e : (pn A.2.1 x && pn A.2.1 y && decide (¬ x = y)) = true
  · rw [if_pos e]
    have e' : n2p A.2.1 x y = 0 := if_pos e
    refine wp_mono ?_ fun v h' q => Or.inl ⟨e', q⟩
    obtain ⟨i, j, hi, hj, rfl, rfl, hij⟩ := n2p_ix e' (by omega)
    rw [ix_nI (by omega), ix_nI (by omega)]
    have j7 : j < 7 := by omega
    refine wp_eq (g110_3 R) (wp_eq (a114 j7) ?_)
    rw [F.2.2.2.1 j j7]
    exact wp_call (show cv 6 110 (f_X7_saidOf 110 (nI i) (nI (A.1 2 j))) h = _ from X7_said R F G (by omega) (G.2 j j7).2.2.1) (wp_rt ⟨rfl, LvY.rf⟩)
  · rw [if_neg e]
    have e' : n2p A.2.1 x y = -1 := if_neg e
    rw [e']
    exact wp_call (show cv 6 110 (f_X7_no 110 (-1)) h = some (-1, Rf 111 h (-1)) from X7_no R (Or.inl rfl)) (wp_rt (Or.inr ⟨Or.inl rfl, rfl, rfl⟩))
theorem QX_saysOf {h : HP} {A : AV} {x y : Int32} (R : RefOk h.2) (F : FolkIs h 2 A) (G : GoodA A) : wp (f_X6_saysOf 0 x y) h (OutX h (fs (np A.2.1 x) (ob y 0 99)) (nI (wd A (ix x) (ix y)))) := by
  unfold f_X6_saysOf
  refine wp_call (noP R F.1.1) (wp_call X6_outside (wp_call X6_first (gX R (fs_no np_no ob_no) fun e => ?_)))
  have hn := G.1.1
  obtain ⟨p, hp, rfl⟩ := np_ix (fs_z e).1 (by omega)
  obtain ⟨v, -, hv, rfl⟩ := ob_ix (lo := 0) (hi := 99) (fs_z e).2 (by decide) (by decide)
  rw [ix_nI (by omega), ix_nI (by omega)]
  have B := FB.of R (b := 2) (by decide)
  refine wp_eq (x_gr0 R) ?_
  exact wp_call (show cv 0 2 (f_X0_word 2 (nI p) (nI v)) h = _ from X0_word B F G (by omega) hv) (wp_rt ⟨rfl, Same.rfl'⟩)
theorem QY_saysOf {h : HP} {A : AV} {x y : Int32} (R : RefOk h.2) (F : ModIs h A) (G : GoodA A) : wp (f_X7_saysOf 110 x y) h (OutY h (fs (np A.2.1 x) (ob y 0 99)) (nI (wd A (ix x) (ix y)))) := by
  unfold f_X7_saysOf
  refine gu_pb F.1.1 (gY R (fs_no np_no ob_no) fun e => ?_)
  have hn := G.1.1
  obtain ⟨p, hp, rfl⟩ := np_ix (fs_z e).1 (by omega)
  obtain ⟨v, -, hv, rfl⟩ := ob_ix (lo := 0) (hi := 99) (fs_z e).2 (by decide) (by decide)
  rw [ix_nI (by omega), ix_nI (by omega)]
  exact wp_call (show cv 6 110 (f_X7_saidOf 110 (nI p) (nI v)) h = _ from X7_said R F G (by omega) hv) (wp_rt ⟨rfl, LvY.rf⟩)
/-! the bargain -/
theorem ob2_sw (x xm y yl ym : Int32) : ob2 x xm y yl ym = if y < yl then -4 else if 0 ≤ x then if ym < y then -6 else if x ≤ xm then 0 else -6 else -4 := by
  unfold ob2
  rw [show (if x < 0 then (-4 : Int32) else if yl ≤ y then if xm < x then -6 else if y ≤ ym then 0 else -6 else -4) = if 0 ≤ x then if y < yl then -4 else if x ≤ xm then if ym < y then -6 else 0 else -6 else -4 by
    simp only [← Int32.not_lt, ite_not]]
  by_cases a : 0 ≤ x <;> by_cases b : y < yl <;> by_cases c : x ≤ xm <;> by_cases d : ym < y <;> simp [a, b, c, d]
def tsA (c : Int32) (w : Nat) : Nat → Int32
  | 0 => 0
  | i + 1 => mmax 0 (100 - c * (nI (w - i) - 1)) - tsA c w i
def tsS (c : Int32) (w : Nat) : Int32 := tsA c w w
theorem nI_dec {k : Nat} (h : 0 < k) : nI k + (-1) = nI (k - 1) := by
  have e := pk_sub (a := k) (b := 1) h
  rw [← e]
  show nI k + (-1) = nI k - 1
  rw [Int32.sub_eq_add_neg]
theorem X6_townShare {h : HP} {c : Int32} {w : Nat} (hw : w ≤ 20) : f_X6_townShare (nI w) c h = some (tsS c w, h) := by
  unfold f_X6_townShare
  refine lp_pure (s := fun i => (tsA c w i, nI (w - i))) w (nf_lt (by omega)) (fun i hi k => ?_) (fun k => ?_)
  · rw [ifa, if_neg (show ¬ nI (w - i) < 1 from fun q => absurd ((nI_ltI (b := 1) (by omega) (by decide)).mp q) (by omega))]
    dsimp only
    rw [nI_dec (by omega)]
    rfl
  · rw [ifa, if_pos (show nI (w - w) < 1 by rw [Nat.sub_self]; decide)]
    rfl
theorem X7_townHas {h : HP} {c : Int32} {w : Nat} (hw : w ≤ 20) : f_X7_townHas (nI w) c h = some (tsS c w, h) := by
  unfold f_X7_townHas
  refine lp_pure (s := fun i => (tsA c w i, nI (w - i))) w (nf_lt (by omega)) (fun i hi k => ?_) (fun k => ?_)
  · rw [ifa, if_neg (show ¬ nI (w - i) ≤ 0 from fun q => absurd ((nI_leI (b := 0) (by omega) (by decide)).mp q) (by omega))]
    have e : f_X7_hoursIn (nI (w - i)) c h = some (mmax 0 (100 - c * (nI (w - i) - 1)), h) := by
      unfold f_X7_hoursIn mmax
      rw [ifa]
      generalize 100 - c * (nI (w - i) - 1) = y
      by_cases a : 0 < y
      · rw [if_pos a, if_pos (Int32.le_of_lt a)]
        rfl
      · rw [if_neg a]
        by_cases b : 0 ≤ y
        · rw [if_pos b, Int32.le_antisymm (Int32.not_lt.mp a) b]
          rfl
        · rw [if_neg b]
          rfl
    dsimp only
    rw [e_bnd e, nI_dec (by omega)]
    rfl
  · rw [ifa, if_pos (show nI (w - w) ≤ 0 by rw [Nat.sub_self]; decide)]
    rfl
theorem QX_bargain {h : HP} {w c : Int32} (R : RefOk h.2) : wp (f_X6_bargain 0 w c) h (OutX h (ob2 c 50 w 1 20) (tsS c (ix w))) := by
  unfold f_X6_bargain
  refine wp_call X6_outside2 (gX R ob2_no fun e => ?_)
  obtain ⟨-, ⟨k, -, hk, rfl⟩⟩ := ob2_ix (xm := 50) (yl := 1) (ym := 20) e (by decide) (by decide) (by decide)
  rw [ix_nI (by omega)]
  exact wp_call (X6_townShare hk) (wp_rt ⟨rfl, Same.rfl'⟩)
theorem QY_bargain {h : HP} {w c : Int32} (R : RefOk h.2) : wp (f_X7_bargain 110 w c) h (OutY h (ob2 c 50 w 1 20) (tsS c (ix w))) := by
  have key : wp (if ob2 c 50 w 1 20 = 0 then bnd (f_X7_townHas w c) fun t3 => rt t3 else bnd (cv 6 110 (f_X7_no 110 (ob2 c 50 w 1 20))) fun t7 => rt t7) h (OutY h (ob2 c 50 w 1 20) (tsS c (ix w))) := by
    refine gY R ob2_no fun e => ?_
    obtain ⟨-, ⟨k, -, hk, rfl⟩⟩ := ob2_ix (xm := 50) (yl := 1) (ym := 20) e (by decide) (by decide) (by decide)
    rw [ix_nI (by omega)]
    exact wp_call (X7_townHas hk) (wp_rt ⟨rfl, LvY.rf⟩)
  rw [ob2_sw] at key ⊢
  unfold f_X7_bargain jn
  repeat' split
  all_goals (simp only [*, if_true, if_false] at key ⊢)
  all_goals exact key
def stB (c : Int32) : Nat → Nat
  | 0 => 1
  | i + 1 => if tsS c (i + 2) ≤ tsS c (stB c i) then stB c i else i + 2
theorem stB_le (c : Int32) (i : Nat) : stB c i ≤ i + 1 := by
  induction i with
  | zero => exact Nat.le_refl _
  | succ i ih => unfold stB; split <;> omega
theorem stB_s (c : Int32) (i : Nat) : stB c (i + 1) = if tsS c (i + 2) ≤ tsS c (stB c i) then stB c i else i + 2 := rfl
theorem QX_strike {h : HP} {c : Int32} (R : RefOk h.2) : wp (f_X6_strike 0 c) h (OutX h (ob c 0 50) (nI (stB c 19))) := by
  unfold f_X6_strike
  refine wp_call X6_outside (gX R ob_no fun e => ?_)
  refine ⟨_, h, ?_, rfl, Same.rfl'⟩
  refine lp_pure (s := fun i => (nI (stB c i), nI (i + 2))) 19 (nf_lt (by omega)) (fun i hi k => ?_) (fun k => ?_)
  · have := stB_le c i
    rw [ifa, if_neg (show ¬ (20 : Int32) < nI (i + 2) from fun q => absurd ((nI_ltI (a := 20) (by decide) (by omega)).mp q) (by omega)), e_bnd (X6_townShare (by omega)), e_bnd (X6_townShare (by omega)), ifa, stB_s, nI_1]
    split <;> rfl
  · rfl
theorem QY_strike {h : HP} {c : Int32} (R : RefOk h.2) : wp (f_X7_strike 110 c) h (OutY h (ob c 0 50) (nI (stB c 19))) := by
  unfold f_X7_strike
  refine wp_call X7_bound (gY R ob_no fun e => ?_)
  refine ⟨_, h, ?_, rfl, LvY.rf⟩
  refine lp_pure (s := fun i => (nI (stB c i), nI (i + 2))) 19 (nf_lt (by omega)) (fun i hi k => ?_) (fun k => ?_)
  · have := stB_le c i
    rw [ifa, if_neg (show ¬ (21 : Int32) ≤ nI (i + 2) from fun q => absurd ((nI_leI (a := 21) (by decide) (by omega)).mp q) (by omega)), e_bnd (X7_townHas (by omega)), e_bnd (X7_townHas (by omega)), ifa, stB_s, nI_1]
    split <;> rfl
  · rfl
