/-! EACH METHOD AS A FUNCTION; printed by a program of mine out of the code; and that it is what the code does -/
def ushr (x y : Int32) : Int32 := (x.toUInt32 >>> (y.toUInt32 &&& Int32.toUInt32 31)).toInt32
theorem cb_10 : (Int8.ofInt (10)).toInt32 = 10 := by decide
theorem cb_100 : (Int8.ofInt (100)).toInt32 = 100 := by decide
theorem cb_103 : (Int8.ofInt (103)).toInt32 = 103 := by decide
theorem cb_11 : (Int8.ofInt (11)).toInt32 = 11 := by decide
theorem cb_110 : (Int8.ofInt (110)).toInt32 = 110 := by decide
theorem cb_112 : (Int8.ofInt (112)).toInt32 = 112 := by decide
theorem cb_119 : (Int8.ofInt (119)).toInt32 = 119 := by decide
theorem cb_12 : (Int8.ofInt (12)).toInt32 = 12 := by decide
theorem cb_120 : (Int8.ofInt (120)).toInt32 = 120 := by decide
theorem cb_14 : (Int8.ofInt (14)).toInt32 = 14 := by decide
theorem cb_16 : (Int8.ofInt (16)).toInt32 = 16 := by decide
theorem cb_20 : (Int8.ofInt (20)).toInt32 = 20 := by decide
theorem cb_21 : (Int8.ofInt (21)).toInt32 = 21 := by decide
theorem cb_31 : (Int8.ofInt (31)).toInt32 = 31 := by decide
theorem cb_48 : (Int8.ofInt (48)).toInt32 = 48 := by decide
theorem cb_49 : (Int8.ofInt (49)).toInt32 = 49 := by decide
theorem cb_50 : (Int8.ofInt (50)).toInt32 = 50 := by decide
theorem cb_55 : (Int8.ofInt (55)).toInt32 = 55 := by decide
theorem cb_57 : (Int8.ofInt (57)).toInt32 = 57 := by decide
theorem cb_59 : (Int8.ofInt (59)).toInt32 = 59 := by decide
theorem cb_6 : (Int8.ofInt (6)).toInt32 = 6 := by decide
theorem cb_60 : (Int8.ofInt (60)).toInt32 = 60 := by decide
theorem cb_61 : (Int8.ofInt (61)).toInt32 = 61 := by decide
theorem cb_63 : (Int8.ofInt (63)).toInt32 = 63 := by decide
theorem cb_64 : (Int8.ofInt (64)).toInt32 = 64 := by decide
theorem cb_7 : (Int8.ofInt (7)).toInt32 = 7 := by decide
theorem cb_8 : (Int8.ofInt (8)).toInt32 = 8 := by decide
theorem cb_9 : (Int8.ofInt (9)).toInt32 = 9 := by decide
theorem cb_96 : (Int8.ofInt (96)).toInt32 = 96 := by decide
theorem cb_97 : (Int8.ofInt (97)).toInt32 = 97 := by decide
theorem cb_98 : (Int8.ofInt (98)).toInt32 = 98 := by decide
theorem cb_99 : (Int8.ofInt (99)).toInt32 = 99 := by decide
theorem cb_m2 : (Int8.ofInt (-2)).toInt32 = -2 := by decide
theorem cb_m3 : (Int8.ofInt (-3)).toInt32 = -3 := by decide
theorem cb_m4 : (Int8.ofInt (-4)).toInt32 = -4 := by decide
theorem cb_m6 : (Int8.ofInt (-6)).toInt32 = -6 := by decide
theorem cb_m9 : (Int8.ofInt (-9)).toInt32 = -9 := by decide
theorem ci_0 : Int32.ofInt (0) = 0 := by decide
theorem ci_1 : Int32.ofInt (1) = 1 := by decide
theorem ci_2 : Int32.ofInt (2) = 2 := by decide
theorem ci_3 : Int32.ofInt (3) = 3 := by decide
theorem ci_4 : Int32.ofInt (4) = 4 := by decide
theorem ci_5 : Int32.ofInt (5) = 5 := by decide
theorem ci_m1 : Int32.ofInt (-1) = -1 := by decide
theorem cn_1000000 : Int32.ofNat 1000000 = 1000000 := by decide
theorem cn_1000000000 : Int32.ofNat 1000000000 = 1000000000 := by decide
theorem cn_1103515245 : Int32.ofNat 1103515245 = 1103515245 := by decide
theorem cn_1431655765 : Int32.ofNat 1431655765 = 1431655765 := by decide
theorem cn_2147483647 : Int32.ofNat 2147483647 = 2147483647 := by decide
theorem cn_252645135 : Int32.ofNat 252645135 = 252645135 := by decide
theorem cn_65536 : Int32.ofNat 65536 = 65536 := by decide
theorem cn_858993459 : Int32.ofNat 858993459 = 858993459 := by decide
theorem cs_1000 : (Int16.ofInt (1000)).toInt32 = 1000 := by decide
theorem cs_12345 : (Int16.ofInt (12345)).toInt32 = 12345 := by decide
theorem cs_128 : (Int16.ofInt (128)).toInt32 = 128 := by decide
theorem cs_165 : (Int16.ofInt (165)).toInt32 = 165 := by decide
theorem cs_2048 : (Int16.ofInt (2048)).toInt32 = 2048 := by decide
theorem cs_255 : (Int16.ofInt (255)).toInt32 = 255 := by decide
theorem cs_550 : (Int16.ofInt (550)).toInt32 = 550 := by decide
theorem cs_999 : (Int16.ofInt (999)).toInt32 = 999 := by decide
theorem cs_m1000 : (Int16.ofInt (-1000)).toInt32 = -1000 := by decide
theorem cs_m2000 : (Int16.ofInt (-2000)).toInt32 = -2000 := by decide
theorem kd_0_0 : kd 0 0 = 0 := by decide +kernel
theorem kl_0_0 : kd 0 0 ≤ 1 := by decide +kernel
theorem kd_0_1 : kd 0 1 = 0 := by decide +kernel
theorem kl_0_1 : kd 0 1 ≤ 1 := by decide +kernel
theorem kd_0_2 : kd 0 2 = 0 := by decide +kernel
theorem kl_0_2 : kd 0 2 ≤ 1 := by decide +kernel
theorem kd_0_3 : kd 0 3 = 2 := by decide +kernel
theorem kd_0_4 : kd 0 4 = 2 := by decide +kernel
theorem kd_0_5 : kd 0 5 = 2 := by decide +kernel
theorem kd_0_6 : kd 0 6 = 2 := by decide +kernel
theorem kd_0_7 : kd 0 7 = 2 := by decide +kernel
theorem kd_0_8 : kd 0 8 = 2 := by decide +kernel
theorem kd_1_0 : kd 1 0 = 0 := by decide +kernel
theorem kl_1_0 : kd 1 0 ≤ 1 := by decide +kernel
theorem kd_1_1 : kd 1 1 = 2 := by decide +kernel
theorem kd_2_0 : kd 2 0 = 0 := by decide +kernel
theorem kl_2_0 : kd 2 0 ≤ 1 := by decide +kernel
theorem kd_2_1 : kd 2 1 = 2 := by decide +kernel
theorem kd_3_0 : kd 3 0 = 2 := by decide +kernel
theorem kd_3_1 : kd 3 1 = 2 := by decide +kernel
theorem kd_3_2 : kd 3 2 = 2 := by decide +kernel
theorem kd_4_0 : kd 4 0 = 2 := by decide +kernel
theorem kd_4_1 : kd 4 1 = 2 := by decide +kernel
theorem kd_5_0 : kd 5 0 = 2 := by decide +kernel
theorem kd_5_1 : kd 5 1 = 2 := by decide +kernel
theorem kd_5_2 : kd 5 2 = 2 := by decide +kernel
theorem kd_5_3 : kd 5 3 = 1 := by decide +kernel
theorem kl_5_3 : kd 5 3 ≤ 1 := by decide +kernel
theorem kd_5_4 : kd 5 4 = 2 := by decide +kernel
theorem kd_5_5 : kd 5 5 = 2 := by decide +kernel
theorem kd_5_6 : kd 5 6 = 2 := by decide +kernel
theorem kd_5_7 : kd 5 7 = 2 := by decide +kernel
theorem kd_5_8 : kd 5 8 = 0 := by decide +kernel
theorem kl_5_8 : kd 5 8 ≤ 1 := by decide +kernel
theorem kd_5_9 : kd 5 9 = 2 := by decide +kernel
theorem kd_5_10 : kd 5 10 = 2 := by decide +kernel
theorem kd_5_11 : kd 5 11 = 2 := by decide +kernel
theorem kd_5_12 : kd 5 12 = 2 := by decide +kernel
theorem kd_5_13 : kd 5 13 = 2 := by decide +kernel
theorem kd_6_0 : kd 6 0 = 2 := by decide +kernel
theorem kd_6_1 : kd 6 1 = 2 := by decide +kernel
theorem kd_6_2 : kd 6 2 = 2 := by decide +kernel
theorem kd_6_3 : kd 6 3 = 2 := by decide +kernel
theorem kd_6_4 : kd 6 4 = 2 := by decide +kernel
theorem kd_6_5 : kd 6 5 = 2 := by decide +kernel
theorem kd_6_6 : kd 6 6 = 2 := by decide +kernel
theorem kd_6_7 : kd 6 7 = 2 := by decide +kernel
theorem kd_6_8 : kd 6 8 = 0 := by decide +kernel
theorem kl_6_8 : kd 6 8 ≤ 1 := by decide +kernel
theorem kd_6_9 : kd 6 9 = 0 := by decide +kernel
theorem kl_6_9 : kd 6 9 ≤ 1 := by decide +kernel
theorem kd_6_10 : kd 6 10 = 2 := by decide +kernel
theorem kd_6_11 : kd 6 11 = 2 := by decide +kernel
theorem kd_6_12 : kd 6 12 = 2 := by decide +kernel
theorem kd_6_13 : kd 6 13 = 2 := by decide +kernel
theorem kd_6_14 : kd 6 14 = 0 := by decide +kernel
theorem kl_6_14 : kd 6 14 ≤ 1 := by decide +kernel
theorem kd_6_15 : kd 6 15 = 0 := by decide +kernel
theorem kl_6_15 : kd 6 15 ≤ 1 := by decide +kernel
theorem kd_6_16 : kd 6 16 = 0 := by decide +kernel
theorem kl_6_16 : kd 6 16 ≤ 1 := by decide +kernel
theorem kd_6_17 : kd 6 17 = 2 := by decide +kernel
theorem kd_6_18 : kd 6 18 = 1 := by decide +kernel
theorem kl_6_18 : kd 6 18 ≤ 1 := by decide +kernel
theorem kd_6_19 : kd 6 19 = 1 := by decide +kernel
theorem kl_6_19 : kd 6 19 ≤ 1 := by decide +kernel
theorem kd_6_20 : kd 6 20 = 0 := by decide +kernel
theorem kl_6_20 : kd 6 20 ≤ 1 := by decide +kernel
theorem kd_6_21 : kd 6 21 = 0 := by decide +kernel
theorem kl_6_21 : kd 6 21 ≤ 1 := by decide +kernel
theorem kd_6_22 : kd 6 22 = 2 := by decide +kernel
theorem kd_6_23 : kd 6 23 = 2 := by decide +kernel
theorem kd_6_24 : kd 6 24 = 2 := by decide +kernel
theorem kd_6_25 : kd 6 25 = 0 := by decide +kernel
theorem kl_6_25 : kd 6 25 ≤ 1 := by decide +kernel
theorem kd_6_26 : kd 6 26 = 2 := by decide +kernel
theorem kd_6_27 : kd 6 27 = 2 := by decide +kernel
theorem kd_6_28 : kd 6 28 = 2 := by decide +kernel
theorem kd_6_29 : kd 6 29 = 2 := by decide +kernel
section RULES2
variable {scr : Option (Nat × (Nat → Int32))} {cs sl : Nat} {me : ME} {j : Nat} {L : List (Option Value)} {st : List Value} {hp : HP} {res : Option Value × HP} {pc a b : Nat} {ts : List Nat}
theorem r_gI' {β : Type} {f : Int32 → M β} {z : β × HP} {o i : Nat} (H : bnd (gI a b o) f hp = some z) (he : (mCode me)[j]? = some (pc, .getfield i, a, b, ts)) (hk : kd a b ≤ 1) (k : ∀ t, f t hp = some z → Rn scr cs sl me (j + 1) L (.int t :: st) hp res) : Rn scr cs sl me j L (.ref o :: st) hp res := r_gI H he hk (k _)
theorem r_aI' {β : Type} {f : Int32 → M β} {z : β × HP} {o : Nat} {i : Int32} (H : bnd (aI o i) f hp = some z) (he : (mCode me)[j]? = some (pc, .iaload, a, b, ts)) (k : ∀ t, f t hp = some z → Rn scr cs sl me (j + 1) L (.int t :: st) hp res) : Rn scr cs sl me j L (.int i :: .ref o :: st) hp res := r_aI H he (k _)
theorem r_jn {α β : Type} {F : (α → M β) → M β} {G : α → M β} {z : β × HP} {g : Prop} (P : α → HP → Prop) (H : jn F G hp = some z) (kG : ∀ s hp, G s hp = some z → P s hp) (kF : ∀ k : α → M β, (∀ s hp, k s hp = some z → P s hp) → F k hp = some z → g) : g := kF G kG H
theorem r_stI {β : Type} {g : M Int32} {f : Int32 → M β} {z : β × HP} {me' : ME} {as rest : List Value} {i : Nat} (H : bnd g f hp = some z) (he : (mCode me)[j]? = some (pc, .invokestatic i, a, 0, ts)) (hm : meths[a]? = some me') (hs : Sm me' as eI g) (hst : st = as.reverse ++ rest) (hn : as.length = mArgs me') (hc : (mRoom me').cells = 0 ∧ (mRoom me').slots = 0) (hok : okS (mRoom me) me' st cs sl = true)
    (k : ∀ v hp1, f v hp1 = some z → Rn scr cs sl me (j + 1) L (.int v :: rest) hp1 res) : Rn scr cs sl me j L st hp res := r_st H he hm hs hst hn hc hok k
theorem r_vtI {β : Type} {g : M Int32} {f : Int32 → M β} {z : β × HP} {me' : ME} {as rest : List Value} {i ci o : Nat} (H : bnd (cv ci o g) f hp = some z) (he : (mCode me)[j]? = some (pc, .invokevirtual i, a, b, ts)) (hm : meths[a]? = some me') (hci : mCls me' = ci) (hs : Sm me' (.ref o :: as) eI g) (hst : st = as.reverse ++ .ref o :: rest) (hn : as.length + 1 = mArgs me') (hc : (mRoom me').cells = 0 ∧ (mRoom me').slots = 0) (hok : okS (mRoom me) me' st cs sl = true)
    (k : ∀ v hp1, f v hp1 = some z → Rn scr cs sl me (j + 1) L (.int v :: rest) hp1 res) : Rn scr cs sl me j L st hp res := r_vt H he hm hci hs hst hn hc hok k
theorem r_stU {β : Type} {g : M Unit} {f : Unit → M β} {z : β × HP} {me' : ME} {as rest : List Value} {i : Nat} (H : bnd g f hp = some z) (he : (mCode me)[j]? = some (pc, .invokestatic i, a, 0, ts)) (hm : meths[a]? = some me') (hs : Sm me' as eU g) (hst : st = as.reverse ++ rest) (hn : as.length = mArgs me') (hc : (mRoom me').cells = 0 ∧ (mRoom me').slots = 0) (hok : okS (mRoom me) me' st cs sl = true)
    (k : ∀ v hp1, f v hp1 = some z → Rn scr cs sl me (j + 1) L (rest) hp1 res) : Rn scr cs sl me j L st hp res := r_st H he hm hs hst hn hc hok k
theorem r_vtU {β : Type} {g : M Unit} {f : Unit → M β} {z : β × HP} {me' : ME} {as rest : List Value} {i ci o : Nat} (H : bnd (cv ci o g) f hp = some z) (he : (mCode me)[j]? = some (pc, .invokevirtual i, a, b, ts)) (hm : meths[a]? = some me') (hci : mCls me' = ci) (hs : Sm me' (.ref o :: as) eU g) (hst : st = as.reverse ++ .ref o :: rest) (hn : as.length + 1 = mArgs me') (hc : (mRoom me').cells = 0 ∧ (mRoom me').slots = 0) (hok : okS (mRoom me) me' st cs sl = true)
    (k : ∀ v hp1, f v hp1 = some z → Rn scr cs sl me (j + 1) L (rest) hp1 res) : Rn scr cs sl me j L st hp res := r_vt H he hm hci hs hst hn hc hok k
theorem r_stR {β : Type} {g : M Nat} {f : Nat → M β} {z : β × HP} {me' : ME} {as rest : List Value} {i : Nat} (H : bnd g f hp = some z) (he : (mCode me)[j]? = some (pc, .invokestatic i, a, 0, ts)) (hm : meths[a]? = some me') (hs : Sm me' as eR g) (hst : st = as.reverse ++ rest) (hn : as.length = mArgs me') (hc : (mRoom me').cells = 0 ∧ (mRoom me').slots = 0) (hok : okS (mRoom me) me' st cs sl = true)
    (k : ∀ v hp1, f v hp1 = some z → Rn scr cs sl me (j + 1) L (.ref v :: rest) hp1 res) : Rn scr cs sl me j L st hp res := r_st H he hm hs hst hn hc hok k
theorem r_vtR {β : Type} {g : M Nat} {f : Nat → M β} {z : β × HP} {me' : ME} {as rest : List Value} {i ci o : Nat} (H : bnd (cv ci o g) f hp = some z) (he : (mCode me)[j]? = some (pc, .invokevirtual i, a, b, ts)) (hm : meths[a]? = some me') (hci : mCls me' = ci) (hs : Sm me' (.ref o :: as) eR g) (hst : st = as.reverse ++ .ref o :: rest) (hn : as.length + 1 = mArgs me') (hc : (mRoom me').cells = 0 ∧ (mRoom me').slots = 0) (hok : okS (mRoom me) me' st cs sl = true)
    (k : ∀ v hp1, f v hp1 = some z → Rn scr cs sl me (j + 1) L (.ref v :: rest) hp1 res) : Rn scr cs sl me j L st hp res := r_vt H he hm hci hs hst hn hc hok k
end RULES2
