section
-- ===== PART A: goes FIRST, ahead of the names: the tables' words, and 'selects' of the private methods out of them =====
/-- a private method of a class that the tables say can be made, by its rows of tables_1 -/
def lw_okq (q : MethodName × Nat) : Prop := (q.1.cls ≠ "java/lang/invoke/MethodHandle" ∧ q.1.cls ≠ "java/lang/invoke/VarHandle") ∧ Cond.instantiable q.1.cls q.2 ∈ tables_1 ∧ Cond.privateMethod q.1 ∈ tables_1 ∧ Cond.instanceMethod q.1 ∈ tables_1
theorem lw_p0 : lw_okq (⟨"MirrorsOnStrike", "refuse", "(I)I"⟩, 14) := ⟨⟨by decide +kernel, by decide +kernel⟩, List.mem_of_getElem? (i := 14) (by decide +kernel), List.mem_of_getElem? (i := 188) (by decide +kernel), List.mem_of_getElem? (i := 189) (by decide +kernel)⟩
theorem lw_p1 : lw_okq (⟨"MirrorsOnStrike$Letters", "faultOfForm", "()I"⟩, 2) := ⟨⟨by decide +kernel, by decide +kernel⟩, List.mem_of_getElem? (i := 124) (by decide +kernel), List.mem_of_getElem? (i := 220) (by decide +kernel), List.mem_of_getElem? (i := 221) (by decide +kernel)⟩
theorem lw_p2 : lw_okq (⟨"MirrorsOnStrike$Letters", "comesTrue", "(ILMirrorsOnStrike$Town;)Z"⟩, 2) := ⟨⟨by decide +kernel, by decide +kernel⟩, List.mem_of_getElem? (i := 124) (by decide +kernel), List.mem_of_getElem? (i := 227) (by decide +kernel), List.mem_of_getElem? (i := 228) (by decide +kernel)⟩
theorem lw_p3 : lw_okq (⟨"MirrorsOnStrike$Letters", "onePersonMore", "(ILMirrorsOnStrike$Folk;)Z"⟩, 2) := ⟨⟨by decide +kernel, by decide +kernel⟩, List.mem_of_getElem? (i := 124) (by decide +kernel), List.mem_of_getElem? (i := 231) (by decide +kernel), List.mem_of_getElem? (i := 232) (by decide +kernel)⟩
theorem lw_p4 : lw_okq (⟨"MirrorsOnStrike$Letters", "digit", "(I)I"⟩, 2) := ⟨⟨by decide +kernel, by decide +kernel⟩, List.mem_of_getElem? (i := 124) (by decide +kernel), List.mem_of_getElem? (i := 235) (by decide +kernel), List.mem_of_getElem? (i := 236) (by decide +kernel)⟩
theorem lw_p5 : lw_okq (⟨"MirrorsOnStrike$Letters", "twoDigits", "(I)I"⟩, 2) := ⟨⟨by decide +kernel, by decide +kernel⟩, List.mem_of_getElem? (i := 124) (by decide +kernel), List.mem_of_getElem? (i := 239) (by decide +kernel), List.mem_of_getElem? (i := 240) (by decide +kernel)⟩
theorem lw_p6 : lw_okq (⟨"MirrorsOnStrike", "noPerson", "(I)I"⟩, 14) := ⟨⟨by decide +kernel, by decide +kernel⟩, List.mem_of_getElem? (i := 14) (by decide +kernel), List.mem_of_getElem? (i := 298) (by decide +kernel), List.mem_of_getElem? (i := 299) (by decide +kernel)⟩
theorem lw_p7 : lw_okq (⟨"MirrorsOnStrike", "noTwo", "(II)I"⟩, 14) := ⟨⟨by decide +kernel, by decide +kernel⟩, List.mem_of_getElem? (i := 14) (by decide +kernel), List.mem_of_getElem? (i := 321) (by decide +kernel), List.mem_of_getElem? (i := 322) (by decide +kernel)⟩
theorem lw_p8 : lw_okq (⟨"MirrorsOnStrike$Past", "dropOldest", "()V"⟩, 2) := ⟨⟨by decide +kernel, by decide +kernel⟩, List.mem_of_getElem? (i := 107) (by decide +kernel), List.mem_of_getElem? (i := 329) (by decide +kernel), List.mem_of_getElem? (i := 330) (by decide +kernel)⟩
theorem lw_p9 : lw_okq (⟨"MirrorsOnStrike", "ahead", "(I)LMirrorsOnStrike$Folk;"⟩, 14) := ⟨⟨by decide +kernel, by decide +kernel⟩, List.mem_of_getElem? (i := 14) (by decide +kernel), List.mem_of_getElem? (i := 384) (by decide +kernel), List.mem_of_getElem? (i := 385) (by decide +kernel)⟩
theorem lw_p10 : lw_okq (⟨"MirrorsOnStrike", "errorBySet", "(II)I"⟩, 14) := ⟨⟨by decide +kernel, by decide +kernel⟩, List.mem_of_getElem? (i := 14) (by decide +kernel), List.mem_of_getElem? (i := 456) (by decide +kernel), List.mem_of_getElem? (i := 457) (by decide +kernel)⟩
theorem lw_p11 : lw_okq (⟨"MirrorsOnStrike", "errorsWithEar", "(III)I"⟩, 14) := ⟨⟨by decide +kernel, by decide +kernel⟩, List.mem_of_getElem? (i := 14) (by decide +kernel), List.mem_of_getElem? (i := 474) (by decide +kernel), List.mem_of_getElem? (i := 475) (by decide +kernel)⟩
theorem lw_p12 : lw_okq (⟨"MirrorsOnStrike", "asksNobody", "(I)I"⟩, 14) := ⟨⟨by decide +kernel, by decide +kernel⟩, List.mem_of_getElem? (i := 14) (by decide +kernel), List.mem_of_getElem? (i := 491) (by decide +kernel), List.mem_of_getElem? (i := 492) (by decide +kernel)⟩
theorem lw_p13 : lw_okq (⟨"MirrorsOnStrike", "rowTooLong", "()I"⟩, 14) := ⟨⟨by decide +kernel, by decide +kernel⟩, List.mem_of_getElem? (i := 14) (by decide +kernel), List.mem_of_getElem? (i := 499) (by decide +kernel), List.mem_of_getElem? (i := 500) (by decide +kernel)⟩
theorem lw_p14 : lw_okq (⟨"MirrorsOnStrike", "suspects", "()I"⟩, 14) := ⟨⟨by decide +kernel, by decide +kernel⟩, List.mem_of_getElem? (i := 14) (by decide +kernel), List.mem_of_getElem? (i := 503) (by decide +kernel), List.mem_of_getElem? (i := 504) (by decide +kernel)⟩
theorem lw_p15 : lw_okq (⟨"MirrorsOnStrike", "fitsRow", "(I)Z"⟩, 14) := ⟨⟨by decide +kernel, by decide +kernel⟩, List.mem_of_getElem? (i := 14) (by decide +kernel), List.mem_of_getElem? (i := 507) (by decide +kernel), List.mem_of_getElem? (i := 508) (by decide +kernel)⟩
def lw_privs_1 : List (MethodName × Nat) := [(⟨"MirrorsOnStrike", "refuse", "(I)I"⟩, 14), (⟨"MirrorsOnStrike$Letters", "faultOfForm", "()I"⟩, 2), (⟨"MirrorsOnStrike$Letters", "comesTrue", "(ILMirrorsOnStrike$Town;)Z"⟩, 2), (⟨"MirrorsOnStrike$Letters", "onePersonMore", "(ILMirrorsOnStrike$Folk;)Z"⟩, 2), (⟨"MirrorsOnStrike$Letters", "digit", "(I)I"⟩, 2), (⟨"MirrorsOnStrike$Letters", "twoDigits", "(I)I"⟩, 2), (⟨"MirrorsOnStrike", "noPerson", "(I)I"⟩, 14), (⟨"MirrorsOnStrike", "noTwo", "(II)I"⟩, 14), (⟨"MirrorsOnStrike$Past", "dropOldest", "()V"⟩, 2), (⟨"MirrorsOnStrike", "ahead", "(I)LMirrorsOnStrike$Folk;"⟩, 14), (⟨"MirrorsOnStrike", "errorBySet", "(II)I"⟩, 14), (⟨"MirrorsOnStrike", "errorsWithEar", "(III)I"⟩, 14), (⟨"MirrorsOnStrike", "asksNobody", "(I)I"⟩, 14), (⟨"MirrorsOnStrike", "rowTooLong", "()I"⟩, 14), (⟨"MirrorsOnStrike", "suspects", "()I"⟩, 14), (⟨"MirrorsOnStrike", "fitsRow", "(I)Z"⟩, 14)]
theorem lw_r1 : ∀ q ∈ lw_privs_1, lw_okq q := List.forall_mem_cons.mpr ⟨lw_p0, List.forall_mem_cons.mpr ⟨lw_p1, List.forall_mem_cons.mpr ⟨lw_p2, List.forall_mem_cons.mpr ⟨lw_p3, List.forall_mem_cons.mpr ⟨lw_p4, List.forall_mem_cons.mpr ⟨lw_p5, List.forall_mem_cons.mpr ⟨lw_p6, List.forall_mem_cons.mpr ⟨lw_p7, List.forall_mem_cons.mpr ⟨lw_p8, List.forall_mem_cons.mpr ⟨lw_p9, List.forall_mem_cons.mpr ⟨lw_p10, List.forall_mem_cons.mpr ⟨lw_p11, List.forall_mem_cons.mpr ⟨lw_p12, List.forall_mem_cons.mpr ⟨lw_p13, List.forall_mem_cons.mpr ⟨lw_p14, List.forall_mem_cons.mpr ⟨lw_p15, fun _ h => absurd h List.not_mem_nil⟩⟩⟩⟩⟩⟩⟩⟩⟩⟩⟩⟩⟩⟩⟩⟩
theorem lw_p16 : lw_okq (⟨"MirrorsOnStrike", "kindsOfWords", "(I)I"⟩, 14) := ⟨⟨by decide +kernel, by decide +kernel⟩, List.mem_of_getElem? (i := 14) (by decide +kernel), List.mem_of_getElem? (i := 515) (by decide +kernel), List.mem_of_getElem? (i := 516) (by decide +kernel)⟩
theorem lw_p17 : lw_okq (⟨"MirrorsOnStrike", "fillCosts", "()V"⟩, 14) := ⟨⟨by decide +kernel, by decide +kernel⟩, List.mem_of_getElem? (i := 14) (by decide +kernel), List.mem_of_getElem? (i := 526) (by decide +kernel), List.mem_of_getElem? (i := 527) (by decide +kernel)⟩
theorem lw_p18 : lw_okq (⟨"MirrorsOnStrike", "costWith", "(III)I"⟩, 14) := ⟨⟨by decide +kernel, by decide +kernel⟩, List.mem_of_getElem? (i := 14) (by decide +kernel), List.mem_of_getElem? (i := 531) (by decide +kernel), List.mem_of_getElem? (i := 532) (by decide +kernel)⟩
theorem lw_p19 : lw_okq (⟨"MirrorsOnStrike", "photoOf", "(I)I"⟩, 14) := ⟨⟨by decide +kernel, by decide +kernel⟩, List.mem_of_getElem? (i := 14) (by decide +kernel), List.mem_of_getElem? (i := 538) (by decide +kernel), List.mem_of_getElem? (i := 539) (by decide +kernel)⟩
theorem lw_p20 : lw_okq (⟨"MirrorsOnStrike", "firstPhoto", "(II)I"⟩, 14) := ⟨⟨by decide +kernel, by decide +kernel⟩, List.mem_of_getElem? (i := 14) (by decide +kernel), List.mem_of_getElem? (i := 542) (by decide +kernel), List.mem_of_getElem? (i := 543) (by decide +kernel)⟩
theorem lw_p21 : lw_okq (⟨"MirrorsOnStrike$Places", "glancesAt", "(I)I"⟩, 3) := ⟨⟨by decide +kernel, by decide +kernel⟩, List.mem_of_getElem? (i := 75) (by decide +kernel), List.mem_of_getElem? (i := 571) (by decide +kernel), List.mem_of_getElem? (i := 572) (by decide +kernel)⟩
theorem lw_p22 : lw_okq (⟨"MirrorsOnStrike$Places", "goOnFrom", "(I)V"⟩, 3) := ⟨⟨by decide +kernel, by decide +kernel⟩, List.mem_of_getElem? (i := 75) (by decide +kernel), List.mem_of_getElem? (i := 575) (by decide +kernel), List.mem_of_getElem? (i := 576) (by decide +kernel)⟩
theorem lw_p23 : lw_okq (⟨"MirrorsOnStrike", "aheadWithFigure", "(III)LMirrorsOnStrike$Folk;"⟩, 14) := ⟨⟨by decide +kernel, by decide +kernel⟩, List.mem_of_getElem? (i := 14) (by decide +kernel), List.mem_of_getElem? (i := 631) (by decide +kernel), List.mem_of_getElem? (i := 632) (by decide +kernel)⟩
theorem lw_p24 : lw_okq (⟨"MirrorsOnStrike", "hasSeen", "(I)Z"⟩, 14) := ⟨⟨by decide +kernel, by decide +kernel⟩, List.mem_of_getElem? (i := 14) (by decide +kernel), List.mem_of_getElem? (i := 692) (by decide +kernel), List.mem_of_getElem? (i := 693) (by decide +kernel)⟩
theorem lw_p25 : lw_okq (⟨"MirrorsOnStrike", "stepOn", "()V"⟩, 14) := ⟨⟨by decide +kernel, by decide +kernel⟩, List.mem_of_getElem? (i := 14) (by decide +kernel), List.mem_of_getElem? (i := 696) (by decide +kernel), List.mem_of_getElem? (i := 697) (by decide +kernel)⟩
theorem lw_p26 : lw_okq (⟨"MirrorsOnStrikeModel", "no", "(I)I"⟩, 30) := ⟨⟨by decide +kernel, by decide +kernel⟩, List.mem_of_getElem? (i := 762) (by decide +kernel), List.mem_of_getElem? (i := 866) (by decide +kernel), List.mem_of_getElem? (i := 867) (by decide +kernel)⟩
theorem lw_p27 : lw_okq (⟨"MirrorsOnStrikeModel", "statement", "()Z"⟩, 30) := ⟨⟨by decide +kernel, by decide +kernel⟩, List.mem_of_getElem? (i := 762) (by decide +kernel), List.mem_of_getElem? (i := 874) (by decide +kernel), List.mem_of_getElem? (i := 875) (by decide +kernel)⟩
theorem lw_p28 : lw_okq (⟨"MirrorsOnStrikeModel", "next", "()I"⟩, 30) := ⟨⟨by decide +kernel, by decide +kernel⟩, List.mem_of_getElem? (i := 762) (by decide +kernel), List.mem_of_getElem? (i := 878) (by decide +kernel), List.mem_of_getElem? (i := 879) (by decide +kernel)⟩
theorem lw_p29 : lw_okq (⟨"MirrorsOnStrikeModel", "readsAll", "(II)Z"⟩, 30) := ⟨⟨by decide +kernel, by decide +kernel⟩, List.mem_of_getElem? (i := 762) (by decide +kernel), List.mem_of_getElem? (i := 882) (by decide +kernel), List.mem_of_getElem? (i := 883) (by decide +kernel)⟩
theorem lw_p30 : lw_okq (⟨"MirrorsOnStrikeModel", "readsDigits", "(II)Z"⟩, 30) := ⟨⟨by decide +kernel, by decide +kernel⟩, List.mem_of_getElem? (i := 762) (by decide +kernel), List.mem_of_getElem? (i := 886) (by decide +kernel), List.mem_of_getElem? (i := 887) (by decide +kernel)⟩
theorem lw_p31 : lw_okq (⟨"MirrorsOnStrikeModel", "passesAll", "(IZ)V"⟩, 30) := ⟨⟨by decide +kernel, by decide +kernel⟩, List.mem_of_getElem? (i := 762) (by decide +kernel), List.mem_of_getElem? (i := 893) (by decide +kernel), List.mem_of_getElem? (i := 894) (by decide +kernel)⟩
def lw_privs_2 : List (MethodName × Nat) := [(⟨"MirrorsOnStrike", "kindsOfWords", "(I)I"⟩, 14), (⟨"MirrorsOnStrike", "fillCosts", "()V"⟩, 14), (⟨"MirrorsOnStrike", "costWith", "(III)I"⟩, 14), (⟨"MirrorsOnStrike", "photoOf", "(I)I"⟩, 14), (⟨"MirrorsOnStrike", "firstPhoto", "(II)I"⟩, 14), (⟨"MirrorsOnStrike$Places", "glancesAt", "(I)I"⟩, 3), (⟨"MirrorsOnStrike$Places", "goOnFrom", "(I)V"⟩, 3), (⟨"MirrorsOnStrike", "aheadWithFigure", "(III)LMirrorsOnStrike$Folk;"⟩, 14), (⟨"MirrorsOnStrike", "hasSeen", "(I)Z"⟩, 14), (⟨"MirrorsOnStrike", "stepOn", "()V"⟩, 14), (⟨"MirrorsOnStrikeModel", "no", "(I)I"⟩, 30), (⟨"MirrorsOnStrikeModel", "statement", "()Z"⟩, 30), (⟨"MirrorsOnStrikeModel", "next", "()I"⟩, 30), (⟨"MirrorsOnStrikeModel", "readsAll", "(II)Z"⟩, 30), (⟨"MirrorsOnStrikeModel", "readsDigits", "(II)Z"⟩, 30), (⟨"MirrorsOnStrikeModel", "passesAll", "(IZ)V"⟩, 30)]
theorem lw_r2 : ∀ q ∈ lw_privs_2, lw_okq q := List.forall_mem_cons.mpr ⟨lw_p16, List.forall_mem_cons.mpr ⟨lw_p17, List.forall_mem_cons.mpr ⟨lw_p18, List.forall_mem_cons.mpr ⟨lw_p19, List.forall_mem_cons.mpr ⟨lw_p20, List.forall_mem_cons.mpr ⟨lw_p21, List.forall_mem_cons.mpr ⟨lw_p22, List.forall_mem_cons.mpr ⟨lw_p23, List.forall_mem_cons.mpr ⟨lw_p24, List.forall_mem_cons.mpr ⟨lw_p25, List.forall_mem_cons.mpr ⟨lw_p26, List.forall_mem_cons.mpr ⟨lw_p27, List.forall_mem_cons.mpr ⟨lw_p28, List.forall_mem_cons.mpr ⟨lw_p29, List.forall_mem_cons.mpr ⟨lw_p30, List.forall_mem_cons.mpr ⟨lw_p31, fun _ h => absurd h List.not_mem_nil⟩⟩⟩⟩⟩⟩⟩⟩⟩⟩⟩⟩⟩⟩⟩⟩
theorem lw_p32 : lw_okq (⟨"MirrorsOnStrikeModel", "passes", "([I)V"⟩, 30) := ⟨⟨by decide +kernel, by decide +kernel⟩, List.mem_of_getElem? (i := 762) (by decide +kernel), List.mem_of_getElem? (i := 897) (by decide +kernel), List.mem_of_getElem? (i := 898) (by decide +kernel)⟩
theorem lw_p33 : lw_okq (⟨"MirrorsOnStrikeModel", "passOne", "(I)I"⟩, 30) := ⟨⟨by decide +kernel, by decide +kernel⟩, List.mem_of_getElem? (i := 762) (by decide +kernel), List.mem_of_getElem? (i := 901) (by decide +kernel), List.mem_of_getElem? (i := 902) (by decide +kernel)⟩
theorem lw_p34 : lw_okq (⟨"MirrorsOnStrikeModel", "comes", "(I)Z"⟩, 30) := ⟨⟨by decide +kernel, by decide +kernel⟩, List.mem_of_getElem? (i := 762) (by decide +kernel), List.mem_of_getElem? (i := 905) (by decide +kernel), List.mem_of_getElem? (i := 906) (by decide +kernel)⟩
theorem lw_p35 : lw_okq (⟨"MirrorsOnStrikeModel", "adds", "(III)V"⟩, 30) := ⟨⟨by decide +kernel, by decide +kernel⟩, List.mem_of_getElem? (i := 762) (by decide +kernel), List.mem_of_getElem? (i := 909) (by decide +kernel), List.mem_of_getElem? (i := 910) (by decide +kernel)⟩
theorem lw_p36 : lw_okq (⟨"MirrorsOnStrikeModel", "areTwo", "(II)Z"⟩, 30) := ⟨⟨by decide +kernel, by decide +kernel⟩, List.mem_of_getElem? (i := 762) (by decide +kernel), List.mem_of_getElem? (i := 913) (by decide +kernel), List.mem_of_getElem? (i := 914) (by decide +kernel)⟩
theorem lw_p37 : lw_okq (⟨"MirrorsOnStrikeModel", "isPerson", "(I)Z"⟩, 30) := ⟨⟨by decide +kernel, by decide +kernel⟩, List.mem_of_getElem? (i := 762) (by decide +kernel), List.mem_of_getElem? (i := 917) (by decide +kernel), List.mem_of_getElem? (i := 918) (by decide +kernel)⟩
theorem lw_p38 : lw_okq (⟨"MirrorsOnStrikeModel", "turnsWay", "(II)V"⟩, 30) := ⟨⟨by decide +kernel, by decide +kernel⟩, List.mem_of_getElem? (i := 762) (by decide +kernel), List.mem_of_getElem? (i := 924) (by decide +kernel), List.mem_of_getElem? (i := 925) (by decide +kernel)⟩
theorem lw_p39 : lw_okq (⟨"MirrorsOnStrikeModel", "goesWeek", "()I"⟩, 30) := ⟨⟨by decide +kernel, by decide +kernel⟩, List.mem_of_getElem? (i := 762) (by decide +kernel), List.mem_of_getElem? (i := 928) (by decide +kernel), List.mem_of_getElem? (i := 929) (by decide +kernel)⟩
theorem lw_p40 : lw_okq (⟨"MirrorsOnStrikeModel", "meanOf", "(II)I"⟩, 30) := ⟨⟨by decide +kernel, by decide +kernel⟩, List.mem_of_getElem? (i := 762) (by decide +kernel), List.mem_of_getElem? (i := 932) (by decide +kernel), List.mem_of_getElem? (i := 933) (by decide +kernel)⟩
theorem lw_p41 : lw_okq (⟨"MirrorsOnStrikeModel", "saidOf", "(II)I"⟩, 30) := ⟨⟨by decide +kernel, by decide +kernel⟩, List.mem_of_getElem? (i := 762) (by decide +kernel), List.mem_of_getElem? (i := 939) (by decide +kernel), List.mem_of_getElem? (i := 940) (by decide +kernel)⟩
theorem lw_p42 : lw_okq (⟨"MirrorsOnStrikeModel", "keepsBack", "()V"⟩, 30) := ⟨⟨by decide +kernel, by decide +kernel⟩, List.mem_of_getElem? (i := 762) (by decide +kernel), List.mem_of_getElem? (i := 973) (by decide +kernel), List.mem_of_getElem? (i := 974) (by decide +kernel)⟩
theorem lw_p43 : lw_okq (⟨"MirrorsOnStrikeModel", "findWeeks", "(I)V"⟩, 30) := ⟨⟨by decide +kernel, by decide +kernel⟩, List.mem_of_getElem? (i := 762) (by decide +kernel), List.mem_of_getElem? (i := 1012) (by decide +kernel), List.mem_of_getElem? (i := 1013) (by decide +kernel)⟩
theorem lw_p44 : lw_okq (⟨"MirrorsOnStrikeModel", "thinks", "()V"⟩, 30) := ⟨⟨by decide +kernel, by decide +kernel⟩, List.mem_of_getElem? (i := 762) (by decide +kernel), List.mem_of_getElem? (i := 1016) (by decide +kernel), List.mem_of_getElem? (i := 1017) (by decide +kernel)⟩
theorem lw_p45 : lw_okq (⟨"MirrorsOnStrikeModel", "forgets", "()V"⟩, 30) := ⟨⟨by decide +kernel, by decide +kernel⟩, List.mem_of_getElem? (i := 762) (by decide +kernel), List.mem_of_getElem? (i := 1020) (by decide +kernel), List.mem_of_getElem? (i := 1021) (by decide +kernel)⟩
theorem lw_p46 : lw_okq (⟨"MirrorsOnStrikeModel", "beliefAt", "(II)I"⟩, 30) := ⟨⟨by decide +kernel, by decide +kernel⟩, List.mem_of_getElem? (i := 762) (by decide +kernel), List.mem_of_getElem? (i := 1024) (by decide +kernel), List.mem_of_getElem? (i := 1025) (by decide +kernel)⟩
theorem lw_p47 : lw_okq (⟨"MirrorsOnStrikeModel", "fooledAt", "(II)I"⟩, 30) := ⟨⟨by decide +kernel, by decide +kernel⟩, List.mem_of_getElem? (i := 762) (by decide +kernel), List.mem_of_getElem? (i := 1032) (by decide +kernel), List.mem_of_getElem? (i := 1033) (by decide +kernel)⟩
def lw_privs_3 : List (MethodName × Nat) := [(⟨"MirrorsOnStrikeModel", "passes", "([I)V"⟩, 30), (⟨"MirrorsOnStrikeModel", "passOne", "(I)I"⟩, 30), (⟨"MirrorsOnStrikeModel", "comes", "(I)Z"⟩, 30), (⟨"MirrorsOnStrikeModel", "adds", "(III)V"⟩, 30), (⟨"MirrorsOnStrikeModel", "areTwo", "(II)Z"⟩, 30), (⟨"MirrorsOnStrikeModel", "isPerson", "(I)Z"⟩, 30), (⟨"MirrorsOnStrikeModel", "turnsWay", "(II)V"⟩, 30), (⟨"MirrorsOnStrikeModel", "goesWeek", "()I"⟩, 30), (⟨"MirrorsOnStrikeModel", "meanOf", "(II)I"⟩, 30), (⟨"MirrorsOnStrikeModel", "saidOf", "(II)I"⟩, 30), (⟨"MirrorsOnStrikeModel", "keepsBack", "()V"⟩, 30), (⟨"MirrorsOnStrikeModel", "findWeeks", "(I)V"⟩, 30), (⟨"MirrorsOnStrikeModel", "thinks", "()V"⟩, 30), (⟨"MirrorsOnStrikeModel", "forgets", "()V"⟩, 30), (⟨"MirrorsOnStrikeModel", "beliefAt", "(II)I"⟩, 30), (⟨"MirrorsOnStrikeModel", "fooledAt", "(II)I"⟩, 30)]
theorem lw_r3 : ∀ q ∈ lw_privs_3, lw_okq q := List.forall_mem_cons.mpr ⟨lw_p32, List.forall_mem_cons.mpr ⟨lw_p33, List.forall_mem_cons.mpr ⟨lw_p34, List.forall_mem_cons.mpr ⟨lw_p35, List.forall_mem_cons.mpr ⟨lw_p36, List.forall_mem_cons.mpr ⟨lw_p37, List.forall_mem_cons.mpr ⟨lw_p38, List.forall_mem_cons.mpr ⟨lw_p39, List.forall_mem_cons.mpr ⟨lw_p40, List.forall_mem_cons.mpr ⟨lw_p41, List.forall_mem_cons.mpr ⟨lw_p42, List.forall_mem_cons.mpr ⟨lw_p43, List.forall_mem_cons.mpr ⟨lw_p44, List.forall_mem_cons.mpr ⟨lw_p45, List.forall_mem_cons.mpr ⟨lw_p46, List.forall_mem_cons.mpr ⟨lw_p47, fun _ h => absurd h List.not_mem_nil⟩⟩⟩⟩⟩⟩⟩⟩⟩⟩⟩⟩⟩⟩⟩⟩
theorem lw_p48 : lw_okq (⟨"MirrorsOnStrikeModel", "errorBehind", "(I)I"⟩, 30) := ⟨⟨by decide +kernel, by decide +kernel⟩, List.mem_of_getElem? (i := 762) (by decide +kernel), List.mem_of_getElem? (i := 1043) (by decide +kernel), List.mem_of_getElem? (i := 1044) (by decide +kernel)⟩
theorem lw_p49 : lw_okq (⟨"MirrorsOnStrikeModel", "errorAt", "(I)I"⟩, 30) := ⟨⟨by decide +kernel, by decide +kernel⟩, List.mem_of_getElem? (i := 762) (by decide +kernel), List.mem_of_getElem? (i := 1047) (by decide +kernel), List.mem_of_getElem? (i := 1048) (by decide +kernel)⟩
theorem lw_p50 : lw_okq (⟨"MirrorsOnStrikeModel", "areAlike", "(II)Z"⟩, 30) := ⟨⟨by decide +kernel, by decide +kernel⟩, List.mem_of_getElem? (i := 762) (by decide +kernel), List.mem_of_getElem? (i := 1062) (by decide +kernel), List.mem_of_getElem? (i := 1063) (by decide +kernel)⟩
theorem lw_p51 : lw_okq (⟨"MirrorsOnStrikeModel", "all", "()I"⟩, 30) := ⟨⟨by decide +kernel, by decide +kernel⟩, List.mem_of_getElem? (i := 762) (by decide +kernel), List.mem_of_getElem? (i := 1074) (by decide +kernel), List.mem_of_getElem? (i := 1075) (by decide +kernel)⟩
theorem lw_p52 : lw_okq (⟨"MirrorsOnStrikeModel", "isOf", "(II)Z"⟩, 30) := ⟨⟨by decide +kernel, by decide +kernel⟩, List.mem_of_getElem? (i := 762) (by decide +kernel), List.mem_of_getElem? (i := 1078) (by decide +kernel), List.mem_of_getElem? (i := 1079) (by decide +kernel)⟩
theorem lw_p53 : lw_okq (⟨"MirrorsOnStrikeModel", "others", "(I)I"⟩, 30) := ⟨⟨by decide +kernel, by decide +kernel⟩, List.mem_of_getElem? (i := 762) (by decide +kernel), List.mem_of_getElem? (i := 1082) (by decide +kernel), List.mem_of_getElem? (i := 1083) (by decide +kernel)⟩
theorem lw_p54 : lw_okq (⟨"MirrorsOnStrikeModel", "errorOf", "(II)I"⟩, 30) := ⟨⟨by decide +kernel, by decide +kernel⟩, List.mem_of_getElem? (i := 762) (by decide +kernel), List.mem_of_getElem? (i := 1086) (by decide +kernel), List.mem_of_getElem? (i := 1087) (by decide +kernel)⟩
theorem lw_p55 : lw_okq (⟨"MirrorsOnStrikeModel", "lower", "(I)I"⟩, 30) := ⟨⟨by decide +kernel, by decide +kernel⟩, List.mem_of_getElem? (i := 762) (by decide +kernel), List.mem_of_getElem? (i := 1102) (by decide +kernel), List.mem_of_getElem? (i := 1103) (by decide +kernel)⟩
theorem lw_p56 : lw_okq (⟨"MirrorsOnStrikeModel", "believesWith", "(II)I"⟩, 30) := ⟨⟨by decide +kernel, by decide +kernel⟩, List.mem_of_getElem? (i := 762) (by decide +kernel), List.mem_of_getElem? (i := 1119) (by decide +kernel), List.mem_of_getElem? (i := 1120) (by decide +kernel)⟩
theorem lw_p57 : lw_okq (⟨"MirrorsOnStrikeModel", "fits", "(I)Z"⟩, 30) := ⟨⟨by decide +kernel, by decide +kernel⟩, List.mem_of_getElem? (i := 762) (by decide +kernel), List.mem_of_getElem? (i := 1131) (by decide +kernel), List.mem_of_getElem? (i := 1132) (by decide +kernel)⟩
theorem lw_p58 : lw_okq (⟨"MirrorsOnStrikeModel", "kindsBy", "(I)I"⟩, 30) := ⟨⟨by decide +kernel, by decide +kernel⟩, List.mem_of_getElem? (i := 762) (by decide +kernel), List.mem_of_getElem? (i := 1139) (by decide +kernel), List.mem_of_getElem? (i := 1140) (by decide +kernel)⟩
theorem lw_p59 : lw_okq (⟨"MirrorsOnStrikeModel", "findPhotos", "()V"⟩, 30) := ⟨⟨by decide +kernel, by decide +kernel⟩, List.mem_of_getElem? (i := 762) (by decide +kernel), List.mem_of_getElem? (i := 1147) (by decide +kernel), List.mem_of_getElem? (i := 1148) (by decide +kernel)⟩
theorem lw_p60 : lw_okq (⟨"MirrorsOnStrikeModel", "photoOf", "(II)I"⟩, 30) := ⟨⟨by decide +kernel, by decide +kernel⟩, List.mem_of_getElem? (i := 762) (by decide +kernel), List.mem_of_getElem? (i := 1151) (by decide +kernel), List.mem_of_getElem? (i := 1152) (by decide +kernel)⟩
theorem lw_p61 : lw_okq (⟨"MirrorsOnStrikeModel", "findWays", "(IZ)V"⟩, 30) := ⟨⟨by decide +kernel, by decide +kernel⟩, List.mem_of_getElem? (i := 762) (by decide +kernel), List.mem_of_getElem? (i := 1159) (by decide +kernel), List.mem_of_getElem? (i := 1160) (by decide +kernel)⟩
theorem lw_p62 : lw_okq (⟨"MirrorsOnStrikeModel", "heardBy", "(I)I"⟩, 30) := ⟨⟨by decide +kernel, by decide +kernel⟩, List.mem_of_getElem? (i := 762) (by decide +kernel), List.mem_of_getElem? (i := 1196) (by decide +kernel), List.mem_of_getElem? (i := 1197) (by decide +kernel)⟩
theorem lw_p63 : lw_okq (⟨"MirrorsOnStrikeModel", "isCalm", "(II)Z"⟩, 30) := ⟨⟨by decide +kernel, by decide +kernel⟩, List.mem_of_getElem? (i := 762) (by decide +kernel), List.mem_of_getElem? (i := 1224) (by decide +kernel), List.mem_of_getElem? (i := 1225) (by decide +kernel)⟩
def lw_privs_4 : List (MethodName × Nat) := [(⟨"MirrorsOnStrikeModel", "errorBehind", "(I)I"⟩, 30), (⟨"MirrorsOnStrikeModel", "errorAt", "(I)I"⟩, 30), (⟨"MirrorsOnStrikeModel", "areAlike", "(II)Z"⟩, 30), (⟨"MirrorsOnStrikeModel", "all", "()I"⟩, 30), (⟨"MirrorsOnStrikeModel", "isOf", "(II)Z"⟩, 30), (⟨"MirrorsOnStrikeModel", "others", "(I)I"⟩, 30), (⟨"MirrorsOnStrikeModel", "errorOf", "(II)I"⟩, 30), (⟨"MirrorsOnStrikeModel", "lower", "(I)I"⟩, 30), (⟨"MirrorsOnStrikeModel", "believesWith", "(II)I"⟩, 30), (⟨"MirrorsOnStrikeModel", "fits", "(I)Z"⟩, 30), (⟨"MirrorsOnStrikeModel", "kindsBy", "(I)I"⟩, 30), (⟨"MirrorsOnStrikeModel", "findPhotos", "()V"⟩, 30), (⟨"MirrorsOnStrikeModel", "photoOf", "(II)I"⟩, 30), (⟨"MirrorsOnStrikeModel", "findWays", "(IZ)V"⟩, 30), (⟨"MirrorsOnStrikeModel", "heardBy", "(I)I"⟩, 30), (⟨"MirrorsOnStrikeModel", "isCalm", "(II)Z"⟩, 30)]
theorem lw_r4 : ∀ q ∈ lw_privs_4, lw_okq q := List.forall_mem_cons.mpr ⟨lw_p48, List.forall_mem_cons.mpr ⟨lw_p49, List.forall_mem_cons.mpr ⟨lw_p50, List.forall_mem_cons.mpr ⟨lw_p51, List.forall_mem_cons.mpr ⟨lw_p52, List.forall_mem_cons.mpr ⟨lw_p53, List.forall_mem_cons.mpr ⟨lw_p54, List.forall_mem_cons.mpr ⟨lw_p55, List.forall_mem_cons.mpr ⟨lw_p56, List.forall_mem_cons.mpr ⟨lw_p57, List.forall_mem_cons.mpr ⟨lw_p58, List.forall_mem_cons.mpr ⟨lw_p59, List.forall_mem_cons.mpr ⟨lw_p60, List.forall_mem_cons.mpr ⟨lw_p61, List.forall_mem_cons.mpr ⟨lw_p62, List.forall_mem_cons.mpr ⟨lw_p63, fun _ h => absurd h List.not_mem_nil⟩⟩⟩⟩⟩⟩⟩⟩⟩⟩⟩⟩⟩⟩⟩⟩
theorem lw_p64 : lw_okq (⟨"MirrorsOnStrikeModel", "untrue", "(I)I"⟩, 30) := ⟨⟨by decide +kernel, by decide +kernel⟩, List.mem_of_getElem? (i := 762) (by decide +kernel), List.mem_of_getElem? (i := 1232) (by decide +kernel), List.mem_of_getElem? (i := 1233) (by decide +kernel)⟩
theorem lw_p65 : lw_okq (⟨"MirrorsOnStrikeModel", "chainOf", "(III)I"⟩, 30) := ⟨⟨by decide +kernel, by decide +kernel⟩, List.mem_of_getElem? (i := 762) (by decide +kernel), List.mem_of_getElem? (i := 1240) (by decide +kernel), List.mem_of_getElem? (i := 1241) (by decide +kernel)⟩
theorem lw_p66 : lw_okq (⟨"MirrorsOnStrikeModel", "isClique", "(I)Z"⟩, 30) := ⟨⟨by decide +kernel, by decide +kernel⟩, List.mem_of_getElem? (i := 762) (by decide +kernel), List.mem_of_getElem? (i := 1248) (by decide +kernel), List.mem_of_getElem? (i := 1249) (by decide +kernel)⟩
theorem lw_p67 : lw_okq (⟨"MirrorsOnStrikeModel", "stepsOn", "(II)Z"⟩, 30) := ⟨⟨by decide +kernel, by decide +kernel⟩, List.mem_of_getElem? (i := 762) (by decide +kernel), List.mem_of_getElem? (i := 1272) (by decide +kernel), List.mem_of_getElem? (i := 1273) (by decide +kernel)⟩
theorem lw_p68 : lw_okq (⟨"MirrorsOnStrikeModel", "isWayWithout", "(III)Z"⟩, 30) := ⟨⟨by decide +kernel, by decide +kernel⟩, List.mem_of_getElem? (i := 762) (by decide +kernel), List.mem_of_getElem? (i := 1280) (by decide +kernel), List.mem_of_getElem? (i := 1281) (by decide +kernel)⟩
theorem lw_p69 : lw_okq (⟨"MirrorsOnStrikeModel", "farthest", "(I)I"⟩, 30) := ⟨⟨by decide +kernel, by decide +kernel⟩, List.mem_of_getElem? (i := 762) (by decide +kernel), List.mem_of_getElem? (i := 1288) (by decide +kernel), List.mem_of_getElem? (i := 1289) (by decide +kernel)⟩
def lw_privs_5 : List (MethodName × Nat) := [(⟨"MirrorsOnStrikeModel", "untrue", "(I)I"⟩, 30), (⟨"MirrorsOnStrikeModel", "chainOf", "(III)I"⟩, 30), (⟨"MirrorsOnStrikeModel", "isClique", "(I)Z"⟩, 30), (⟨"MirrorsOnStrikeModel", "stepsOn", "(II)Z"⟩, 30), (⟨"MirrorsOnStrikeModel", "isWayWithout", "(III)Z"⟩, 30), (⟨"MirrorsOnStrikeModel", "farthest", "(I)I"⟩, 30)]
theorem lw_r5 : ∀ q ∈ lw_privs_5, lw_okq q := List.forall_mem_cons.mpr ⟨lw_p64, List.forall_mem_cons.mpr ⟨lw_p65, List.forall_mem_cons.mpr ⟨lw_p66, List.forall_mem_cons.mpr ⟨lw_p67, List.forall_mem_cons.mpr ⟨lw_p68, List.forall_mem_cons.mpr ⟨lw_p69, fun _ h => absurd h List.not_mem_nil⟩⟩⟩⟩⟩⟩
def lw_privs : List (MethodName × Nat) := lw_privs_1 ++ (lw_privs_2 ++ (lw_privs_3 ++ (lw_privs_4 ++ (lw_privs_5))))
def lw_tbl : List Cond := k2_sels lw_privs ++ tables_1
theorem lw_privs_ok : ∀ q ∈ lw_privs, lw_okq q := by
  show ∀ q ∈ lw_privs_1 ++ (lw_privs_2 ++ (lw_privs_3 ++ (lw_privs_4 ++ (lw_privs_5)))), lw_okq q
  exact List.forall_mem_append.mpr ⟨lw_r1, List.forall_mem_append.mpr ⟨lw_r2, List.forall_mem_append.mpr ⟨lw_r3, List.forall_mem_append.mpr ⟨lw_r4, lw_r5⟩⟩⟩⟩
-- ===== end of PART A; then your names; then what follows =====
end
section
def RX0 : String := "MirrorsOnStrike$Folk"
def TX0 : u_T := fun k => match k with
  | 0 => ("MirrorsOnStrike$Folk", "size", "I", false)
  | 1 => ("MirrorsOnStrike$Folk", "weeks", "I", false)
  | 2 => ("MirrorsOnStrike$Folk", "widestChange", "I", false)
  | 3 => ("MirrorsOnStrike$Folk", "kinds", "[I", true)
  | 4 => ("MirrorsOnStrike$Folk", "figures", "[I", true)
  | 5 => ("MirrorsOnStrike$Folk", "looks", "[I", true)
  | 6 => ("MirrorsOnStrike$Folk", "beliefs", "[I", true)
  | 7 => ("MirrorsOnStrike$Folk", "asked", "[I", true)
  | _ => ("MirrorsOnStrike$Folk", "next", "[I", true)
def tyX0 : Nat → FieldType := fun k => match k with
  | 0 => .int
  | 1 => .int
  | 2 => .int
  | 3 => .array .int
  | 4 => .array .int
  | 5 => .array .int
  | 6 => .array .int
  | 7 => .array .int
  | _ => .array .int
abbrev wsX00 : List Cond := u_ws RX0 TX0 9
theorem nmX0 : ∀ a, a < 9 → ∀ b, b < 9 → a ≠ b → (TX0 a).2.1 ≠ (TX0 b).2.1 := by decide +kernel
theorem tyX0_ok : ∀ k, k < 9 → parseFieldDescriptor (TX0 k).2.2.1 = some (tyX0 k) := by decide +kernel
abbrev cX0_init : ByteArray := prog_2_method_1_code
def yX0_init : MethodName := ⟨RX0, "<init>", "()V"⟩
abbrev cX0_copyFrom : ByteArray := prog_2_method_2_code
def yX0_copyFrom : MethodName := ⟨RX0, "copyFrom", "(LMirrorsOnStrike$Folk;)V"⟩
abbrev cX0_has : ByteArray := prog_2_method_3_code
def yX0_has : MethodName := ⟨RX0, "has", "(I)Z"⟩
abbrev cX0_everybody : ByteArray := prog_2_method_4_code
def yX0_everybody : MethodName := ⟨RX0, "everybody", "()I"⟩
abbrev cX0_others : ByteArray := prog_2_method_5_code
def yX0_others : MethodName := ⟨RX0, "others", "(I)I"⟩
abbrev cX0_add : ByteArray := prog_2_method_6_code
def yX0_add : MethodName := ⟨RX0, "add", "(III)I"⟩
abbrev cX0_word : ByteArray := prog_2_method_7_code
def yX0_word : MethodName := ⟨RX0, "word", "(II)I"⟩
abbrev cX0_mean : ByteArray := prog_2_method_8_code
def yX0_mean : MethodName := ⟨RX0, "mean", "(II)I"⟩
abbrev cX0_passWeek : ByteArray := prog_2_method_9_code
def yX0_passWeek : MethodName := ⟨RX0, "passWeek", "()I"⟩
abbrev cX0_passWeeks : ByteArray := prog_2_method_10_code
def yX0_passWeeks : MethodName := ⟨RX0, "passWeeks", "(I)V"⟩
abbrev cX0_unlike : ByteArray := prog_2_method_11_code
def yX0_unlike : MethodName := ⟨RX0, "unlike", "(LMirrorsOnStrike$Folk;)I"⟩
abbrev cX0_allErrors : ByteArray := prog_2_method_12_code
def yX0_allErrors : MethodName := ⟨RX0, "allErrors", "()I"⟩
abbrev cX0_fooledBy : ByteArray := prog_2_method_13_code
def yX0_fooledBy : MethodName := ⟨RX0, "fooledBy", "(I)I"⟩
abbrev cX0_apart : ByteArray := prog_2_method_14_code
def yX0_apart : MethodName := ⟨RX0, "apart", "(II)I"⟩
abbrev cX0_width : ByteArray := prog_2_method_15_code
def yX0_width : MethodName := ⟨RX0, "width", "()I"⟩
abbrev cX0_sources : ByteArray := prog_2_method_16_code
def yX0_sources : MethodName := ⟨RX0, "sources", "(I)I"⟩
abbrev cX0_allAskEachOther : ByteArray := prog_2_method_17_code
def yX0_allAskEachOther : MethodName := ⟨RX0, "allAskEachOther", "(I)Z"⟩
abbrev cX0_untruth : ByteArray := prog_2_method_18_code
def yX0_untruth : MethodName := ⟨RX0, "untruth", "(I)I"⟩
abbrev cX0_askByLot : ByteArray := prog_2_method_19_code
def yX0_askByLot : MethodName := ⟨RX0, "askByLot", "(I)I"⟩
abbrev cX0_sum : ByteArray := prog_2_method_20_code
def yX0_sum : MethodName := ⟨RX0, "sum", "([I)I"⟩
def RX1 : String := "MirrorsOnStrike$Letters"
def TX1 : u_T := fun k => match k with
  | 0 => ("MirrorsOnStrike$Letters", "size", "I", false)
  | _ => ("MirrorsOnStrike$Letters", "signs", "[I", true)
def tyX1 : Nat → FieldType := fun k => match k with
  | 0 => .int
  | _ => .array .int
abbrev wsX10 : List Cond := u_ws RX1 TX1 2
theorem nmX1 : ∀ a, a < 2 → ∀ b, b < 2 → a ≠ b → (TX1 a).2.1 ≠ (TX1 b).2.1 := by decide +kernel
theorem tyX1_ok : ∀ k, k < 2 → parseFieldDescriptor (TX1 k).2.2.1 = some (tyX1 k) := by decide +kernel
abbrev cX1_init : ByteArray := prog_3_method_1_code
def yX1_init : MethodName := ⟨RX1, "<init>", "()V"⟩
abbrev cX1_add : ByteArray := prog_3_method_2_code
def yX1_add : MethodName := ⟨RX1, "add", "(I)I"⟩
abbrev cX1_read : ByteArray := prog_3_method_3_code
def yX1_read : MethodName := ⟨RX1, "read", "(LMirrorsOnStrike$Town;)I"⟩
abbrev cX1_digitsBehind : ByteArray := prog_3_method_4_code
def yX1_digitsBehind : MethodName := ⟨RX1, "digitsBehind", "(I)I"⟩
abbrev cX1_faultOfForm : ByteArray := prog_3_method_5_code
def yX1_faultOfForm : MethodName := ⟨RX1, "faultOfForm", "()I"⟩
abbrev cX1_digit : ByteArray := prog_3_method_6_code
def yX1_digit : MethodName := ⟨RX1, "digit", "(I)I"⟩
abbrev cX1_twoDigits : ByteArray := prog_3_method_7_code
def yX1_twoDigits : MethodName := ⟨RX1, "twoDigits", "(I)I"⟩
abbrev cX1_comesTrue : ByteArray := prog_3_method_8_code
def yX1_comesTrue : MethodName := ⟨RX1, "comesTrue", "(ILMirrorsOnStrike$Town;)Z"⟩
abbrev cX1_onePersonMore : ByteArray := prog_3_method_9_code
def yX1_onePersonMore : MethodName := ⟨RX1, "onePersonMore", "(ILMirrorsOnStrike$Folk;)Z"⟩
abbrev cX1_oneAsks : ByteArray := prog_3_method_10_code
def yX1_oneAsks : MethodName := ⟨RX1, "oneAsks", "(LMirrorsOnStrike$Folk;II)Z"⟩
abbrev cX1_oneBelieves : ByteArray := prog_3_method_11_code
def yX1_oneBelieves : MethodName := ⟨RX1, "oneBelieves", "(LMirrorsOnStrike$Folk;II)Z"⟩
abbrev cX1_wayGoes : ByteArray := prog_3_method_12_code
def yX1_wayGoes : MethodName := ⟨RX1, "wayGoes", "(LMirrorsOnStrike$Places;II)Z"⟩
abbrev cX1_thingHangs : ByteArray := prog_3_method_13_code
def yX1_thingHangs : MethodName := ⟨RX1, "thingHangs", "(LMirrorsOnStrike$Places;II)Z"⟩
abbrev cX1_weeksPass : ByteArray := prog_3_method_14_code
def yX1_weeksPass : MethodName := ⟨RX1, "weeksPass", "(LMirrorsOnStrike$Folk;I)Z"⟩
def RX2 : String := "MirrorsOnStrike$Net"
def TX2 : u_T := fun k => match k with
  | _ => ("", "", "", false)
def tyX2 : Nat → FieldType := fun k => match k with
  | _ => .int
abbrev wsX20 : List Cond := u_ws RX2 TX2 0
theorem nmX2 : ∀ a, a < 0 → ∀ b, b < 0 → a ≠ b → (TX2 a).2.1 ≠ (TX2 b).2.1 := by decide +kernel
theorem tyX2_ok : ∀ k, k < 0 → parseFieldDescriptor (TX2 k).2.2.1 = some (tyX2 k) := by decide +kernel
abbrev cX2_next : ByteArray := prog_4_method_2_code
def yX2_next : MethodName := ⟨RX2, "next", "([II)I"⟩
abbrev cX2_reach : ByteArray := prog_4_method_3_code
def yX2_reach : MethodName := ⟨RX2, "reach", "([III)I"⟩
abbrev cX2_distance : ByteArray := prog_4_method_4_code
def yX2_distance : MethodName := ⟨RX2, "distance", "([III)I"⟩
abbrev cX2_farthest : ByteArray := prog_4_method_5_code
def yX2_farthest : MethodName := ⟨RX2, "farthest", "([II)I"⟩
def RX3 : String := "MirrorsOnStrike$Past"
def TX3 : u_T := fun k => match k with
  | 0 => ("MirrorsOnStrike$Past", "size", "I", false)
  | _ => ("MirrorsOnStrike$Past", "states", "[LMirrorsOnStrike$Folk;", true)
def tyX3 : Nat → FieldType := fun k => match k with
  | 0 => .int
  | _ => .array (.object "MirrorsOnStrike$Folk")
abbrev wsX30 : List Cond := u_ws RX3 TX3 2
theorem nmX3 : ∀ a, a < 2 → ∀ b, b < 2 → a ≠ b → (TX3 a).2.1 ≠ (TX3 b).2.1 := by decide +kernel
theorem tyX3_ok : ∀ k, k < 2 → parseFieldDescriptor (TX3 k).2.2.1 = some (tyX3 k) := by decide +kernel
abbrev cX3_init : ByteArray := prog_5_method_1_code
def yX3_init : MethodName := ⟨RX3, "<init>", "()V"⟩
abbrev cX3_keep : ByteArray := prog_5_method_2_code
def yX3_keep : MethodName := ⟨RX3, "keep", "(LMirrorsOnStrike$Folk;)V"⟩
abbrev cX3_dropOldest : ByteArray := prog_5_method_3_code
def yX3_dropOldest : MethodName := ⟨RX3, "dropOldest", "()V"⟩
abbrev cX3_takeBack : ByteArray := prog_5_method_4_code
def yX3_takeBack : MethodName := ⟨RX3, "takeBack", "(LMirrorsOnStrike$Folk;)I"⟩
def RX4 : String := "MirrorsOnStrike$Places"
def TX4 : u_T := fun k => match k with
  | 0 => ("MirrorsOnStrike$Places", "ways", "[I", true)
  | 1 => ("MirrorsOnStrike$Places", "things", "[I", true)
  | _ => ("MirrorsOnStrike$Places", "routes", "[I", true)
def tyX4 : Nat → FieldType := fun k => match k with
  | 0 => .array .int
  | 1 => .array .int
  | _ => .array .int
abbrev wsX40 : List Cond := u_ws RX4 TX4 3
theorem nmX4 : ∀ a, a < 3 → ∀ b, b < 3 → a ≠ b → (TX4 a).2.1 ≠ (TX4 b).2.1 := by decide +kernel
theorem tyX4_ok : ∀ k, k < 3 → parseFieldDescriptor (TX4 k).2.2.1 = some (tyX4 k) := by decide +kernel
abbrev cX4_init : ByteArray := prog_6_method_1_code
def yX4_init : MethodName := ⟨RX4, "<init>", "()V"⟩
abbrev cX4_copyFrom : ByteArray := prog_6_method_2_code
def yX4_copyFrom : MethodName := ⟨RX4, "copyFrom", "(LMirrorsOnStrike$Places;)V"⟩
abbrev cX4_join : ByteArray := prog_6_method_3_code
def yX4_join : MethodName := ⟨RX4, "join", "(II)I"⟩
abbrev cX4_countWays : ByteArray := prog_6_method_4_code
def yX4_countWays : MethodName := ⟨RX4, "countWays", "()I"⟩
abbrev cX4_glancesAt : ByteArray := prog_6_method_5_code
def yX4_glancesAt : MethodName := ⟨RX4, "glancesAt", "(I)I"⟩
abbrev cX4_bare : ByteArray := prog_6_method_6_code
def yX4_bare : MethodName := ⟨RX4, "bare", "()I"⟩
abbrev cX4_route : ByteArray := prog_6_method_7_code
def yX4_route : MethodName := ⟨RX4, "route", "(II)I"⟩
abbrev cX4_goOnFrom : ByteArray := prog_6_method_8_code
def yX4_goOnFrom : MethodName := ⟨RX4, "goOnFrom", "(I)V"⟩
abbrev cX4_routeCovered : ByteArray := prog_6_method_9_code
def yX4_routeCovered : MethodName := ⟨RX4, "routeCovered", "(III)I"⟩
def RX5 : String := "MirrorsOnStrike$Town"
def TX5 : u_T := fun k => match k with
  | 0 => ("MirrorsOnStrike$Town", "folk", "LMirrorsOnStrike$Folk;", true)
  | _ => ("MirrorsOnStrike$Town", "places", "LMirrorsOnStrike$Places;", true)
def tyX5 : Nat → FieldType := fun k => match k with
  | 0 => .object "MirrorsOnStrike$Folk"
  | _ => .object "MirrorsOnStrike$Places"
abbrev wsX50 : List Cond := u_ws RX5 TX5 2
theorem nmX5 : ∀ a, a < 2 → ∀ b, b < 2 → a ≠ b → (TX5 a).2.1 ≠ (TX5 b).2.1 := by decide +kernel
theorem tyX5_ok : ∀ k, k < 2 → parseFieldDescriptor (TX5 k).2.2.1 = some (tyX5 k) := by decide +kernel
abbrev cX5_init : ByteArray := prog_7_method_1_code
def yX5_init : MethodName := ⟨RX5, "<init>", "()V"⟩
abbrev cX5_copyFrom : ByteArray := prog_7_method_2_code
def yX5_copyFrom : MethodName := ⟨RX5, "copyFrom", "(LMirrorsOnStrike$Town;)V"⟩
def RX6 : String := "MirrorsOnStrike"
def TX6 : u_T := fun k => match k with
  | 0 => ("MirrorsOnStrike", "here", "LMirrorsOnStrike$Town;", true)
  | 1 => ("MirrorsOnStrike", "draft", "LMirrorsOnStrike$Town;", true)
  | 2 => ("MirrorsOnStrike", "picture", "LMirrorsOnStrike$Town;", true)
  | 3 => ("MirrorsOnStrike", "pictured", "Z", false)
  | 4 => ("MirrorsOnStrike", "mind", "LMirrorsOnStrike$Folk;", true)
  | 5 => ("MirrorsOnStrike", "past", "LMirrorsOnStrike$Past;", true)
  | 6 => ("MirrorsOnStrike", "letters", "LMirrorsOnStrike$Letters;", true)
  | 7 => ("MirrorsOnStrike", "numbers", "[I", true)
  | 8 => ("MirrorsOnStrike", "told", "I", false)
  | 9 => ("MirrorsOnStrike", "refusals", "[I", true)
  | 10 => ("MirrorsOnStrike", "marks", "[I", true)
  | 11 => ("MirrorsOnStrike", "costs", "[I", true)
  | 12 => ("MirrorsOnStrike", "standing", "[I", true)
  | _ => ("MirrorsOnStrike", "moved", "[I", true)
def tyX6 : Nat → FieldType := fun k => match k with
  | 0 => .object "MirrorsOnStrike$Town"
  | 1 => .object "MirrorsOnStrike$Town"
  | 2 => .object "MirrorsOnStrike$Town"
  | 3 => .boolean
  | 4 => .object "MirrorsOnStrike$Folk"
  | 5 => .object "MirrorsOnStrike$Past"
  | 6 => .object "MirrorsOnStrike$Letters"
  | 7 => .array .int
  | 8 => .int
  | 9 => .array .int
  | 10 => .array .int
  | 11 => .array .int
  | 12 => .array .int
  | _ => .array .int
abbrev wsX60 : List Cond := u_ws RX6 TX6 14
theorem nmX6 : ∀ a, a < 14 → ∀ b, b < 14 → a ≠ b → (TX6 a).2.1 ≠ (TX6 b).2.1 := by decide +kernel
theorem tyX6_ok : ∀ k, k < 14 → parseFieldDescriptor (TX6 k).2.2.1 = some (tyX6 k) := by decide +kernel
abbrev cX6_init : ByteArray := prog_1_method_1_code
def yX6_init : MethodName := ⟨RX6, "<init>", "()V"⟩
abbrev cX6_refuse : ByteArray := prog_1_method_2_code
def yX6_refuse : MethodName := ⟨RX6, "refuse", "(I)I"⟩
abbrev cX6_first : ByteArray := prog_1_method_3_code
def yX6_first : MethodName := ⟨RX6, "first", "(II)I"⟩
abbrev cX6_noPerson : ByteArray := prog_1_method_4_code
def yX6_noPerson : MethodName := ⟨RX6, "noPerson", "(I)I"⟩
abbrev cX6_noTwo : ByteArray := prog_1_method_5_code
def yX6_noTwo : MethodName := ⟨RX6, "noTwo", "(II)I"⟩
abbrev cX6_noPlace : ByteArray := prog_1_method_6_code
def yX6_noPlace : MethodName := ⟨RX6, "noPlace", "(I)I"⟩
abbrev cX6_noPlaces : ByteArray := prog_1_method_7_code
def yX6_noPlaces : MethodName := ⟨RX6, "noPlaces", "(II)I"⟩
abbrev cX6_noChoice : ByteArray := prog_1_method_8_code
def yX6_noChoice : MethodName := ⟨RX6, "noChoice", "(II)I"⟩
abbrev cX6_outside : ByteArray := prog_1_method_9_code
def yX6_outside : MethodName := ⟨RX6, "outside", "(III)I"⟩
abbrev cX6_outside_ : ByteArray := prog_1_method_10_code
def yX6_outside_ : MethodName := ⟨RX6, "outside", "(IIIII)I"⟩
abbrev cX6_asksNobody : ByteArray := prog_1_method_11_code
def yX6_asksNobody : MethodName := ⟨RX6, "asksNobody", "(I)I"⟩
abbrev cX6_rowTooLong : ByteArray := prog_1_method_12_code
def yX6_rowTooLong : MethodName := ⟨RX6, "rowTooLong", "()I"⟩
abbrev cX6_isPlace : ByteArray := prog_1_method_13_code
def yX6_isPlace : MethodName := ⟨RX6, "isPlace", "(I)Z"⟩
abbrev cX6_holds : ByteArray := prog_1_method_14_code
def yX6_holds : MethodName := ⟨RX6, "holds", "(II)Z"⟩
abbrev cX6_fewer : ByteArray := prog_1_method_15_code
def yX6_fewer : MethodName := ⟨RX6, "fewer", "(II)Z"⟩
abbrev cX6_leastOf : ByteArray := prog_1_method_16_code
def yX6_leastOf : MethodName := ⟨RX6, "leastOf", "(I)I"⟩
abbrev cX6_ahead : ByteArray := prog_1_method_17_code
def yX6_ahead : MethodName := ⟨RX6, "ahead", "(I)LMirrorsOnStrike$Folk;"⟩
abbrev cX6_feed : ByteArray := prog_1_method_18_code
def yX6_feed : MethodName := ⟨RX6, "feed", "(I)I"⟩
abbrev cX6_town : ByteArray := prog_1_method_19_code
def yX6_town : MethodName := ⟨RX6, "town", "()I"⟩
abbrev cX6_person : ByteArray := prog_1_method_20_code
def yX6_person : MethodName := ⟨RX6, "person", "(II)I"⟩
abbrev cX6_comes : ByteArray := prog_1_method_21_code
def yX6_comes : MethodName := ⟨RX6, "comes", "(III)I"⟩
abbrev cX6_asks : ByteArray := prog_1_method_22_code
def yX6_asks : MethodName := ⟨RX6, "asks", "(II)I"⟩
abbrev cX6_believes : ByteArray := prog_1_method_23_code
def yX6_believes : MethodName := ⟨RX6, "believes", "(II)I"⟩
abbrev cX6_kind : ByteArray := prog_1_method_24_code
def yX6_kind : MethodName := ⟨RX6, "kind", "(III)I"⟩
abbrev cX6_way : ByteArray := prog_1_method_25_code
def yX6_way : MethodName := ⟨RX6, "way", "(II)I"⟩
abbrev cX6_hangs : ByteArray := prog_1_method_26_code
def yX6_hangs : MethodName := ⟨RX6, "hangs", "(II)I"⟩
abbrev cX6_week : ByteArray := prog_1_method_27_code
def yX6_week : MethodName := ⟨RX6, "week", "()I"⟩
abbrev cX6_back : ByteArray := prog_1_method_28_code
def yX6_back : MethodName := ⟨RX6, "back", "()I"⟩
abbrev cX6_says : ByteArray := prog_1_method_29_code
def yX6_says : MethodName := ⟨RX6, "says", "(II)I"⟩
abbrev cX6_saysOf : ByteArray := prog_1_method_30_code
def yX6_saysOf : MethodName := ⟨RX6, "saysOf", "(II)I"⟩
abbrev cX6_belief : ByteArray := prog_1_method_31_code
def yX6_belief : MethodName := ⟨RX6, "belief", "(II)I"⟩
abbrev cX6_fooled : ByteArray := prog_1_method_32_code
def yX6_fooled : MethodName := ⟨RX6, "fooled", "(II)I"⟩
abbrev cX6_error : ByteArray := prog_1_method_33_code
def yX6_error : MethodName := ⟨RX6, "error", "(I)I"⟩
abbrev cX6_clash : ByteArray := prog_1_method_34_code
def yX6_clash : MethodName := ⟨RX6, "clash", "(II)I"⟩
abbrev cX6_settles : ByteArray := prog_1_method_35_code
def yX6_settles : MethodName := ⟨RX6, "settles", "()I"⟩
abbrev cX6_round : ByteArray := prog_1_method_36_code
def yX6_round : MethodName := ⟨RX6, "round", "()I"⟩
abbrev cX6_knows : ByteArray := prog_1_method_37_code
def yX6_knows : MethodName := ⟨RX6, "knows", "(I)I"⟩
abbrev cX6_nearest : ByteArray := prog_1_method_38_code
def yX6_nearest : MethodName := ⟨RX6, "nearest", "(II)I"⟩
abbrev cX6_errorBySet : ByteArray := prog_1_method_39_code
def yX6_errorBySet : MethodName := ⟨RX6, "errorBySet", "(II)I"⟩
abbrev cX6_fair : ByteArray := prog_1_method_40_code
def yX6_fair : MethodName := ⟨RX6, "fair", "(III)I"⟩
abbrev cX6_worth : ByteArray := prog_1_method_41_code
def yX6_worth : MethodName := ⟨RX6, "worth", "(II)I"⟩
abbrev cX6_newEar : ByteArray := prog_1_method_42_code
def yX6_newEar : MethodName := ⟨RX6, "newEar", "(I)I"⟩
abbrev cX6_errorsWithEar : ByteArray := prog_1_method_43_code
def yX6_errorsWithEar : MethodName := ⟨RX6, "errorsWithEar", "(III)I"⟩
abbrev cX6_sisters : ByteArray := prog_1_method_44_code
def yX6_sisters : MethodName := ⟨RX6, "sisters", "(IIII)I"⟩
abbrev cX6_cheat : ByteArray := prog_1_method_45_code
def yX6_cheat : MethodName := ⟨RX6, "cheat", "(III)I"⟩
abbrev cX6_fitsRow : ByteArray := prog_1_method_46_code
def yX6_fitsRow : MethodName := ⟨RX6, "fitsRow", "(I)Z"⟩
abbrev cX6_thief : ByteArray := prog_1_method_47_code
def yX6_thief : MethodName := ⟨RX6, "thief", "(I)I"⟩
abbrev cX6_suspects : ByteArray := prog_1_method_48_code
def yX6_suspects : MethodName := ⟨RX6, "suspects", "()I"⟩
abbrev cX6_tellsMost : ByteArray := prog_1_method_49_code
def yX6_tellsMost : MethodName := ⟨RX6, "tellsMost", "(I)I"⟩
abbrev cX6_kindsOfWords : ByteArray := prog_1_method_50_code
def yX6_kindsOfWords : MethodName := ⟨RX6, "kindsOfWords", "(I)I"⟩
abbrev cX6_photos : ByteArray := prog_1_method_51_code
def yX6_photos : MethodName := ⟨RX6, "photos", "(I)I"⟩
abbrev cX6_fillCosts : ByteArray := prog_1_method_52_code
def yX6_fillCosts : MethodName := ⟨RX6, "fillCosts", "()V"⟩
abbrev cX6_costWith : ByteArray := prog_1_method_53_code
def yX6_costWith : MethodName := ⟨RX6, "costWith", "(III)I"⟩
abbrev cX6_photoOf : ByteArray := prog_1_method_54_code
def yX6_photoOf : MethodName := ⟨RX6, "photoOf", "(I)I"⟩
abbrev cX6_firstPhoto : ByteArray := prog_1_method_55_code
def yX6_firstPhoto : MethodName := ⟨RX6, "firstPhoto", "(II)I"⟩
abbrev cX6_barber : ByteArray := prog_1_method_56_code
def yX6_barber : MethodName := ⟨RX6, "barber", "(II)I"⟩
abbrev cX6_steps : ByteArray := prog_1_method_57_code
def yX6_steps : MethodName := ⟨RX6, "steps", "(II)I"⟩
abbrev cX6_glances : ByteArray := prog_1_method_58_code
def yX6_glances : MethodName := ⟨RX6, "glances", "(III)I"⟩
abbrev cX6_unseen : ByteArray := prog_1_method_59_code
def yX6_unseen : MethodName := ⟨RX6, "unseen", "(I)I"⟩
abbrev cX6_cover : ByteArray := prog_1_method_60_code
def yX6_cover : MethodName := ⟨RX6, "cover", "(II)I"⟩
abbrev cX6_bargain : ByteArray := prog_1_method_61_code
def yX6_bargain : MethodName := ⟨RX6, "bargain", "(II)I"⟩
abbrev cX6_townShare : ByteArray := prog_1_method_62_code
def yX6_townShare : MethodName := ⟨RX6, "townShare", "(II)I"⟩
abbrev cX6_strike : ByteArray := prog_1_method_63_code
def yX6_strike : MethodName := ⟨RX6, "strike", "(I)I"⟩
abbrev cX6_echo : ByteArray := prog_1_method_64_code
def yX6_echo : MethodName := ⟨RX6, "echo", "(I)I"⟩
abbrev cX6_loops : ByteArray := prog_1_method_65_code
def yX6_loops : MethodName := ⟨RX6, "loops", "(I)I"⟩
abbrev cX6_humble : ByteArray := prog_1_method_66_code
def yX6_humble : MethodName := ⟨RX6, "humble", "(I)I"⟩
abbrev cX6_aheadWithFigure : ByteArray := prog_1_method_67_code
def yX6_aheadWithFigure : MethodName := ⟨RX6, "aheadWithFigure", "(III)LMirrorsOnStrike$Folk;"⟩
abbrev cX6_highest : ByteArray := prog_1_method_68_code
def yX6_highest : MethodName := ⟨RX6, "highest", "(II)I"⟩
abbrev cX6_spread : ByteArray := prog_1_method_69_code
def yX6_spread : MethodName := ⟨RX6, "spread", "(I)I"⟩
abbrev cX6_pairs : ByteArray := prog_1_method_70_code
def yX6_pairs : MethodName := ⟨RX6, "pairs", "()I"⟩
abbrev cX6_calm : ByteArray := prog_1_method_71_code
def yX6_calm : MethodName := ⟨RX6, "calm", "(I)I"⟩
abbrev cX6_honest : ByteArray := prog_1_method_72_code
def yX6_honest : MethodName := ⟨RX6, "honest", "(I)I"⟩
abbrev cX6_chain : ByteArray := prog_1_method_73_code
def yX6_chain : MethodName := ⟨RX6, "chain", "(II)I"⟩
abbrev cX6_clique : ByteArray := prog_1_method_74_code
def yX6_clique : MethodName := ⟨RX6, "clique", "()I"⟩
abbrev cX6_cut : ByteArray := prog_1_method_75_code
def yX6_cut : MethodName := ⟨RX6, "cut", "(II)I"⟩
abbrev cX6_wanted : ByteArray := prog_1_method_76_code
def yX6_wanted : MethodName := ⟨RX6, "wanted", "(II)I"⟩
abbrev cX6_panel : ByteArray := prog_1_method_77_code
def yX6_panel : MethodName := ⟨RX6, "panel", "(II)I"⟩
abbrev cX6_tour : ByteArray := prog_1_method_78_code
def yX6_tour : MethodName := ⟨RX6, "tour", "(II)I"⟩
abbrev cX6_hasSeen : ByteArray := prog_1_method_79_code
def yX6_hasSeen : MethodName := ⟨RX6, "hasSeen", "(I)Z"⟩
abbrev cX6_stepOn : ByteArray := prog_1_method_80_code
def yX6_stepOn : MethodName := ⟨RX6, "stepOn", "()V"⟩
abbrev cX6_narrows : ByteArray := prog_1_method_81_code
def yX6_narrows : MethodName := ⟨RX6, "narrows", "(II)I"⟩
abbrev cX6_middle : ByteArray := prog_1_method_82_code
def yX6_middle : MethodName := ⟨RX6, "middle", "(II)I"⟩
abbrev cX6_changed : ByteArray := prog_1_method_83_code
def yX6_changed : MethodName := ⟨RX6, "changed", "(III)I"⟩
abbrev cX6_row : ByteArray := prog_1_method_84_code
def yX6_row : MethodName := ⟨RX6, "row", "(I)I"⟩
abbrev cX6_judge : ByteArray := prog_1_method_85_code
def yX6_judge : MethodName := ⟨RX6, "judge", "()I"⟩
abbrev cX6_clear : ByteArray := prog_1_method_86_code
def yX6_clear : MethodName := ⟨RX6, "clear", "()I"⟩
abbrev cX6_lots : ByteArray := prog_1_method_87_code
def yX6_lots : MethodName := ⟨RX6, "lots", "(III)I"⟩
abbrev cX6_image : ByteArray := prog_1_method_88_code
def yX6_image : MethodName := ⟨RX6, "image", "()I"⟩
abbrev cX6_restore : ByteArray := prog_1_method_89_code
def yX6_restore : MethodName := ⟨RX6, "restore", "()I"⟩
abbrev cX6_count : ByteArray := prog_1_method_90_code
def yX6_count : MethodName := ⟨RX6, "count", "(I)I"⟩
def RX7 : String := "MirrorsOnStrikeModel"
def TX7 : u_T := fun k => match k with
  | 0 => ("MirrorsOnStrikeModel", "refused", "[I", true)
  | 1 => ("MirrorsOnStrikeModel", "kind", "[I", true)
  | 2 => ("MirrorsOnStrikeModel", "figure", "[I", true)
  | 3 => ("MirrorsOnStrikeModel", "look", "[I", true)
  | 4 => ("MirrorsOnStrikeModel", "believed", "[I", true)
  | 5 => ("MirrorsOnStrikeModel", "ears", "[I", true)
  | 6 => ("MirrorsOnStrikeModel", "ways", "[I", true)
  | 7 => ("MirrorsOnStrikeModel", "hung", "[I", true)
  | 8 => ("MirrorsOnStrikeModel", "people", "I", false)
  | 9 => ("MirrorsOnStrikeModel", "weeks", "I", false)
  | 10 => ("MirrorsOnStrikeModel", "tape", "[I", true)
  | 11 => ("MirrorsOnStrikeModel", "letter", "[I", true)
  | 12 => ("MirrorsOnStrikeModel", "letterAt", "[I", true)
  | 13 => ("MirrorsOnStrikeModel", "told", "[I", true)
  | 14 => ("MirrorsOnStrikeModel", "taped", "I", false)
  | 15 => ("MirrorsOnStrikeModel", "at", "I", false)
  | 16 => ("MirrorsOnStrikeModel", "statements", "I", false)
  | 17 => ("MirrorsOnStrikeModel", "kept", "[I", true)
  | 18 => ("MirrorsOnStrikeModel", "hasImage", "Z", false)
  | 19 => ("MirrorsOnStrikeModel", "isKeeping", "Z", false)
  | 20 => ("MirrorsOnStrikeModel", "cursor", "I", false)
  | 21 => ("MirrorsOnStrikeModel", "backs", "I", false)
  | 22 => ("MirrorsOnStrikeModel", "then", "[I", true)
  | 23 => ("MirrorsOnStrikeModel", "trail", "[I", true)
  | 24 => ("MirrorsOnStrikeModel", "row", "[I", true)
  | 25 => ("MirrorsOnStrikeModel", "rowMany", "I", false)
  | 26 => ("MirrorsOnStrikeModel", "seen", "[I", true)
  | 27 => ("MirrorsOnStrikeModel", "photo", "[I", true)
  | 28 => ("MirrorsOnStrikeModel", "dear", "[I", true)
  | _ => ("MirrorsOnStrikeModel", "toured", "[I", true)
def tyX7 : Nat → FieldType := fun k => match k with
  | 0 => .array .int
  | 1 => .array .int
  | 2 => .array .int
  | 3 => .array .int
  | 4 => .array .int
  | 5 => .array .int
  | 6 => .array .int
  | 7 => .array .int
  | 8 => .int
  | 9 => .int
  | 10 => .array .int
  | 11 => .array .int
  | 12 => .array .int
  | 13 => .array .int
  | 14 => .int
  | 15 => .int
  | 16 => .int
  | 17 => .array .int
  | 18 => .boolean
  | 19 => .boolean
  | 20 => .int
  | 21 => .int
  | 22 => .array .int
  | 23 => .array .int
  | 24 => .array .int
  | 25 => .int
  | 26 => .array .int
  | 27 => .array .int
  | 28 => .array .int
  | _ => .array .int
abbrev wsX70 : List Cond := u_ws RX7 TX7 30
theorem nmX7 : ∀ a, a < 30 → ∀ b, b < 30 → a ≠ b → (TX7 a).2.1 ≠ (TX7 b).2.1 := by decide +kernel
theorem tyX7_ok : ∀ k, k < 30 → parseFieldDescriptor (TX7 k).2.2.1 = some (tyX7 k) := by decide +kernel
abbrev cX7_init : ByteArray := prog_9_method_1_code
def yX7_init : MethodName := ⟨RX7, "<init>", "()V"⟩
abbrev cX7_no : ByteArray := prog_9_method_2_code
def yX7_no : MethodName := ⟨RX7, "no", "(I)I"⟩
abbrev cX7_lower : ByteArray := prog_9_method_3_code
def yX7_lower : MethodName := ⟨RX7, "lower", "(I)I"⟩
abbrev cX7_isIn : ByteArray := prog_9_method_4_code
def yX7_isIn : MethodName := ⟨RX7, "isIn", "(III)Z"⟩
abbrev cX7_bound : ByteArray := prog_9_method_5_code
def yX7_bound : MethodName := ⟨RX7, "bound", "(III)I"⟩
abbrev cX7_has : ByteArray := prog_9_method_6_code
def yX7_has : MethodName := ⟨RX7, "has", "(II)Z"⟩
abbrev cX7_bits : ByteArray := prog_9_method_7_code
def yX7_bits : MethodName := ⟨RX7, "bits", "(I)I"⟩
abbrev cX7_far : ByteArray := prog_9_method_8_code
def yX7_far : MethodName := ⟨RX7, "far", "(II)I"⟩
abbrev cX7_isPerson : ByteArray := prog_9_method_9_code
def yX7_isPerson : MethodName := ⟨RX7, "isPerson", "(I)Z"⟩
abbrev cX7_areTwo : ByteArray := prog_9_method_10_code
def yX7_areTwo : MethodName := ⟨RX7, "areTwo", "(II)Z"⟩
abbrev cX7_isPlace : ByteArray := prog_9_method_11_code
def yX7_isPlace : MethodName := ⟨RX7, "isPlace", "(I)Z"⟩
abbrev cX7_all : ByteArray := prog_9_method_12_code
def yX7_all : MethodName := ⟨RX7, "all", "()I"⟩
abbrev cX7_feed : ByteArray := prog_9_method_13_code
def yX7_feed : MethodName := ⟨RX7, "feed", "(I)I"⟩
abbrev cX7_next : ByteArray := prog_9_method_14_code
def yX7_next : MethodName := ⟨RX7, "next", "()I"⟩
abbrev cX7_readsDigits : ByteArray := prog_9_method_15_code
def yX7_readsDigits : MethodName := ⟨RX7, "readsDigits", "(II)Z"⟩
abbrev cX7_readsAll : ByteArray := prog_9_method_16_code
def yX7_readsAll : MethodName := ⟨RX7, "readsAll", "(II)Z"⟩
abbrev cX7_statement : ByteArray := prog_9_method_17_code
def yX7_statement : MethodName := ⟨RX7, "statement", "()Z"⟩
abbrev cX7_comes : ByteArray := prog_9_method_18_code
def yX7_comes : MethodName := ⟨RX7, "comes", "(I)Z"⟩
abbrev cX7_town : ByteArray := prog_9_method_19_code
def yX7_town : MethodName := ⟨RX7, "town", "()I"⟩
abbrev cX7_passes : ByteArray := prog_9_method_20_code
def yX7_passes : MethodName := ⟨RX7, "passes", "([I)V"⟩
abbrev cX7_passOne : ByteArray := prog_9_method_21_code
def yX7_passOne : MethodName := ⟨RX7, "passOne", "(I)I"⟩
abbrev cX7_passesAll : ByteArray := prog_9_method_22_code
def yX7_passesAll : MethodName := ⟨RX7, "passesAll", "(IZ)V"⟩
abbrev cX7_thinks : ByteArray := prog_9_method_23_code
def yX7_thinks : MethodName := ⟨RX7, "thinks", "()V"⟩
abbrev cX7_forgets : ByteArray := prog_9_method_24_code
def yX7_forgets : MethodName := ⟨RX7, "forgets", "()V"⟩
abbrev cX7_keepsBack : ByteArray := prog_9_method_25_code
def yX7_keepsBack : MethodName := ⟨RX7, "keepsBack", "()V"⟩
abbrev cX7_back : ByteArray := prog_9_method_26_code
def yX7_back : MethodName := ⟨RX7, "back", "()I"⟩
abbrev cX7_image : ByteArray := prog_9_method_27_code
def yX7_image : MethodName := ⟨RX7, "image", "()I"⟩
abbrev cX7_restore : ByteArray := prog_9_method_28_code
def yX7_restore : MethodName := ⟨RX7, "restore", "()I"⟩
abbrev cX7_adds : ByteArray := prog_9_method_29_code
def yX7_adds : MethodName := ⟨RX7, "adds", "(III)V"⟩
abbrev cX7_held : ByteArray := prog_9_method_30_code
def yX7_held : MethodName := ⟨RX7, "held", "(I)I"⟩
abbrev cX7_saidOf : ByteArray := prog_9_method_31_code
def yX7_saidOf : MethodName := ⟨RX7, "saidOf", "(II)I"⟩
abbrev cX7_meanOf : ByteArray := prog_9_method_32_code
def yX7_meanOf : MethodName := ⟨RX7, "meanOf", "(II)I"⟩
abbrev cX7_goesWeek : ByteArray := prog_9_method_33_code
def yX7_goesWeek : MethodName := ⟨RX7, "goesWeek", "()I"⟩
abbrev cX7_turnsWay : ByteArray := prog_9_method_34_code
def yX7_turnsWay : MethodName := ⟨RX7, "turnsWay", "(II)V"⟩
abbrev cX7_person : ByteArray := prog_9_method_35_code
def yX7_person : MethodName := ⟨RX7, "person", "(II)I"⟩
abbrev cX7_comes_ : ByteArray := prog_9_method_36_code
def yX7_comes_ : MethodName := ⟨RX7, "comes", "(III)I"⟩
abbrev cX7_asks : ByteArray := prog_9_method_37_code
def yX7_asks : MethodName := ⟨RX7, "asks", "(II)I"⟩
abbrev cX7_believes : ByteArray := prog_9_method_38_code
def yX7_believes : MethodName := ⟨RX7, "believes", "(II)I"⟩
abbrev cX7_kind : ByteArray := prog_9_method_39_code
def yX7_kind : MethodName := ⟨RX7, "kind", "(III)I"⟩
abbrev cX7_way : ByteArray := prog_9_method_40_code
def yX7_way : MethodName := ⟨RX7, "way", "(II)I"⟩
abbrev cX7_hangs : ByteArray := prog_9_method_41_code
def yX7_hangs : MethodName := ⟨RX7, "hangs", "(II)I"⟩
abbrev cX7_week : ByteArray := prog_9_method_42_code
def yX7_week : MethodName := ⟨RX7, "week", "()I"⟩
abbrev cX7_says : ByteArray := prog_9_method_43_code
def yX7_says : MethodName := ⟨RX7, "says", "(II)I"⟩
abbrev cX7_saysOf : ByteArray := prog_9_method_44_code
def yX7_saysOf : MethodName := ⟨RX7, "saysOf", "(II)I"⟩
abbrev cX7_findWeeks : ByteArray := prog_9_method_45_code
def yX7_findWeeks : MethodName := ⟨RX7, "findWeeks", "(I)V"⟩
abbrev cX7_notWeeks : ByteArray := prog_9_method_46_code
def yX7_notWeeks : MethodName := ⟨RX7, "notWeeks", "(I)I"⟩
abbrev cX7_beliefAt : ByteArray := prog_9_method_47_code
def yX7_beliefAt : MethodName := ⟨RX7, "beliefAt", "(II)I"⟩
abbrev cX7_belief : ByteArray := prog_9_method_48_code
def yX7_belief : MethodName := ⟨RX7, "belief", "(II)I"⟩
abbrev cX7_fooledAt : ByteArray := prog_9_method_49_code
def yX7_fooledAt : MethodName := ⟨RX7, "fooledAt", "(II)I"⟩
abbrev cX7_errorAt : ByteArray := prog_9_method_50_code
def yX7_errorAt : MethodName := ⟨RX7, "errorAt", "(I)I"⟩
abbrev cX7_errorBehind : ByteArray := prog_9_method_51_code
def yX7_errorBehind : MethodName := ⟨RX7, "errorBehind", "(I)I"⟩
abbrev cX7_fooled : ByteArray := prog_9_method_52_code
def yX7_fooled : MethodName := ⟨RX7, "fooled", "(II)I"⟩
abbrev cX7_error : ByteArray := prog_9_method_53_code
def yX7_error : MethodName := ⟨RX7, "error", "(I)I"⟩
abbrev cX7_first : ByteArray := prog_9_method_54_code
def yX7_first : MethodName := ⟨RX7, "first", "(I)I"⟩
abbrev cX7_clash : ByteArray := prog_9_method_55_code
def yX7_clash : MethodName := ⟨RX7, "clash", "(II)I"⟩
abbrev cX7_areAlike : ByteArray := prog_9_method_56_code
def yX7_areAlike : MethodName := ⟨RX7, "areAlike", "(II)Z"⟩
abbrev cX7_settles : ByteArray := prog_9_method_57_code
def yX7_settles : MethodName := ⟨RX7, "settles", "()I"⟩
abbrev cX7_round : ByteArray := prog_9_method_58_code
def yX7_round : MethodName := ⟨RX7, "round", "()I"⟩
abbrev cX7_others : ByteArray := prog_9_method_59_code
def yX7_others : MethodName := ⟨RX7, "others", "(I)I"⟩
abbrev cX7_isOf : ByteArray := prog_9_method_60_code
def yX7_isOf : MethodName := ⟨RX7, "isOf", "(II)Z"⟩
abbrev cX7_errorOf : ByteArray := prog_9_method_61_code
def yX7_errorOf : MethodName := ⟨RX7, "errorOf", "(II)I"⟩
abbrev cX7_knows : ByteArray := prog_9_method_62_code
def yX7_knows : MethodName := ⟨RX7, "knows", "(I)I"⟩
abbrev cX7_nearest : ByteArray := prog_9_method_63_code
def yX7_nearest : MethodName := ⟨RX7, "nearest", "(II)I"⟩
abbrev cX7_fair : ByteArray := prog_9_method_64_code
def yX7_fair : MethodName := ⟨RX7, "fair", "(III)I"⟩
abbrev cX7_worth : ByteArray := prog_9_method_65_code
def yX7_worth : MethodName := ⟨RX7, "worth", "(II)I"⟩
abbrev cX7_newEar : ByteArray := prog_9_method_66_code
def yX7_newEar : MethodName := ⟨RX7, "newEar", "(I)I"⟩
abbrev cX7_sisters : ByteArray := prog_9_method_67_code
def yX7_sisters : MethodName := ⟨RX7, "sisters", "(IIII)I"⟩
abbrev cX7_believesWith : ByteArray := prog_9_method_68_code
def yX7_believesWith : MethodName := ⟨RX7, "believesWith", "(II)I"⟩
abbrev cX7_cheat : ByteArray := prog_9_method_69_code
def yX7_cheat : MethodName := ⟨RX7, "cheat", "(III)I"⟩
abbrev cX7_barber : ByteArray := prog_9_method_70_code
def yX7_barber : MethodName := ⟨RX7, "barber", "(II)I"⟩
abbrev cX7_fits : ByteArray := prog_9_method_71_code
def yX7_fits : MethodName := ⟨RX7, "fits", "(I)Z"⟩
abbrev cX7_thief : ByteArray := prog_9_method_72_code
def yX7_thief : MethodName := ⟨RX7, "thief", "(I)I"⟩
abbrev cX7_kindsBy : ByteArray := prog_9_method_73_code
def yX7_kindsBy : MethodName := ⟨RX7, "kindsBy", "(I)I"⟩
abbrev cX7_tellsMost : ByteArray := prog_9_method_74_code
def yX7_tellsMost : MethodName := ⟨RX7, "tellsMost", "(I)I"⟩
abbrev cX7_findPhotos : ByteArray := prog_9_method_75_code
def yX7_findPhotos : MethodName := ⟨RX7, "findPhotos", "()V"⟩
abbrev cX7_photoOf : ByteArray := prog_9_method_76_code
def yX7_photoOf : MethodName := ⟨RX7, "photoOf", "(II)I"⟩
abbrev cX7_photos : ByteArray := prog_9_method_77_code
def yX7_photos : MethodName := ⟨RX7, "photos", "(I)I"⟩
abbrev cX7_glanceOf : ByteArray := prog_9_method_78_code
def yX7_glanceOf : MethodName := ⟨RX7, "glanceOf", "(I)I"⟩
abbrev cX7_findWays : ByteArray := prog_9_method_79_code
def yX7_findWays : MethodName := ⟨RX7, "findWays", "(IZ)V"⟩
abbrev cX7_steps : ByteArray := prog_9_method_80_code
def yX7_steps : MethodName := ⟨RX7, "steps", "(II)I"⟩
abbrev cX7_glances : ByteArray := prog_9_method_81_code
def yX7_glances : MethodName := ⟨RX7, "glances", "(III)I"⟩
abbrev cX7_unseen : ByteArray := prog_9_method_82_code
def yX7_unseen : MethodName := ⟨RX7, "unseen", "(I)I"⟩
abbrev cX7_cover : ByteArray := prog_9_method_83_code
def yX7_cover : MethodName := ⟨RX7, "cover", "(II)I"⟩
abbrev cX7_hoursIn : ByteArray := prog_9_method_84_code
def yX7_hoursIn : MethodName := ⟨RX7, "hoursIn", "(II)I"⟩
abbrev cX7_townHas : ByteArray := prog_9_method_85_code
def yX7_townHas : MethodName := ⟨RX7, "townHas", "(II)I"⟩
abbrev cX7_bargain : ByteArray := prog_9_method_86_code
def yX7_bargain : MethodName := ⟨RX7, "bargain", "(II)I"⟩
abbrev cX7_strike : ByteArray := prog_9_method_87_code
def yX7_strike : MethodName := ⟨RX7, "strike", "(I)I"⟩
abbrev cX7_heardBy : ByteArray := prog_9_method_88_code
def yX7_heardBy : MethodName := ⟨RX7, "heardBy", "(I)I"⟩
abbrev cX7_echo : ByteArray := prog_9_method_89_code
def yX7_echo : MethodName := ⟨RX7, "echo", "(I)I"⟩
abbrev cX7_loops : ByteArray := prog_9_method_90_code
def yX7_loops : MethodName := ⟨RX7, "loops", "(I)I"⟩
abbrev cX7_humble : ByteArray := prog_9_method_91_code
def yX7_humble : MethodName := ⟨RX7, "humble", "(I)I"⟩
abbrev cX7_highest : ByteArray := prog_9_method_92_code
def yX7_highest : MethodName := ⟨RX7, "highest", "(II)I"⟩
abbrev cX7_spread : ByteArray := prog_9_method_93_code
def yX7_spread : MethodName := ⟨RX7, "spread", "(I)I"⟩
abbrev cX7_pairs : ByteArray := prog_9_method_94_code
def yX7_pairs : MethodName := ⟨RX7, "pairs", "()I"⟩
abbrev cX7_isCalm : ByteArray := prog_9_method_95_code
def yX7_isCalm : MethodName := ⟨RX7, "isCalm", "(II)Z"⟩
abbrev cX7_calm : ByteArray := prog_9_method_96_code
def yX7_calm : MethodName := ⟨RX7, "calm", "(I)I"⟩
abbrev cX7_untrue : ByteArray := prog_9_method_97_code
def yX7_untrue : MethodName := ⟨RX7, "untrue", "(I)I"⟩
abbrev cX7_honest : ByteArray := prog_9_method_98_code
def yX7_honest : MethodName := ⟨RX7, "honest", "(I)I"⟩
abbrev cX7_chainOf : ByteArray := prog_9_method_99_code
def yX7_chainOf : MethodName := ⟨RX7, "chainOf", "(III)I"⟩
abbrev cX7_chain : ByteArray := prog_9_method_100_code
def yX7_chain : MethodName := ⟨RX7, "chain", "(II)I"⟩
abbrev cX7_isClique : ByteArray := prog_9_method_101_code
def yX7_isClique : MethodName := ⟨RX7, "isClique", "(I)Z"⟩
abbrev cX7_clique : ByteArray := prog_9_method_102_code
def yX7_clique : MethodName := ⟨RX7, "clique", "()I"⟩
abbrev cX7_cut : ByteArray := prog_9_method_103_code
def yX7_cut : MethodName := ⟨RX7, "cut", "(II)I"⟩
abbrev cX7_wanted : ByteArray := prog_9_method_104_code
def yX7_wanted : MethodName := ⟨RX7, "wanted", "(II)I"⟩
abbrev cX7_panel : ByteArray := prog_9_method_105_code
def yX7_panel : MethodName := ⟨RX7, "panel", "(II)I"⟩
abbrev cX7_changed : ByteArray := prog_9_method_106_code
def yX7_changed : MethodName := ⟨RX7, "changed", "(III)I"⟩
abbrev cX7_tour : ByteArray := prog_9_method_107_code
def yX7_tour : MethodName := ⟨RX7, "tour", "(II)I"⟩
abbrev cX7_stepsOn : ByteArray := prog_9_method_108_code
def yX7_stepsOn : MethodName := ⟨RX7, "stepsOn", "(II)Z"⟩
abbrev cX7_isWayWithout : ByteArray := prog_9_method_109_code
def yX7_isWayWithout : MethodName := ⟨RX7, "isWayWithout", "(III)Z"⟩
abbrev cX7_narrows : ByteArray := prog_9_method_110_code
def yX7_narrows : MethodName := ⟨RX7, "narrows", "(II)I"⟩
abbrev cX7_farthest : ByteArray := prog_9_method_111_code
def yX7_farthest : MethodName := ⟨RX7, "farthest", "(I)I"⟩
abbrev cX7_middle : ByteArray := prog_9_method_112_code
def yX7_middle : MethodName := ⟨RX7, "middle", "(II)I"⟩
abbrev cX7_row : ByteArray := prog_9_method_113_code
def yX7_row : MethodName := ⟨RX7, "row", "(I)I"⟩
abbrev cX7_judge : ByteArray := prog_9_method_114_code
def yX7_judge : MethodName := ⟨RX7, "judge", "()I"⟩
abbrev cX7_clear : ByteArray := prog_9_method_115_code
def yX7_clear : MethodName := ⟨RX7, "clear", "()I"⟩
abbrev cX7_lots : ByteArray := prog_9_method_116_code
def yX7_lots : MethodName := ⟨RX7, "lots", "(III)I"⟩
abbrev cX7_count : ByteArray := prog_9_method_117_code
def yX7_count : MethodName := ⟨RX7, "count", "(I)I"⟩
def RJ6 : String := "java/lang/Integer"
abbrev cJ6_bitCount_0f7a4 : ByteArray := prog_10_method_49_code
def yJ6_bitCount_0f7a4 : MethodName := ⟨RJ6, "bitCount", "(I)I"⟩
def RJ9 : String := "java/lang/Math"
abbrev cJ9_abs_0f7a4 : ByteArray := prog_11_method_59_code
def yJ9_abs_0f7a4 : MethodName := ⟨RJ9, "abs", "(I)I"⟩
abbrev cJ9_max_7cf53 : ByteArray := prog_11_method_65_code
def yJ9_max_7cf53 : MethodName := ⟨RJ9, "max", "(II)I"⟩
abbrev cJ9_min_7cf53 : ByteArray := prog_11_method_69_code
def yJ9_min_7cf53 : MethodName := ⟨RJ9, "min", "(II)I"⟩
def RJ10 : String := "java/lang/System"
def RJ7 : String := "java/util/Arrays"
abbrev cJ7_fill_53178 : ByteArray := prog_13_method_103_code
def yJ7_fill_53178 : MethodName := ⟨RJ7, "fill", "([II)V"⟩
def RL : String := "MirrorsOnStrikeLaw"
abbrev cL_law : ByteArray := code
def yL_law : MethodName := ⟨RL, "law", "([I)Z"⟩
abbrev vwCl : List vw_C := [(RX0, TX0, 9), (RX1, TX1, 2), (RX3, TX3, 2), (RX4, TX4, 3), (RX5, TX5, 2), (RX6, TX6, 14), (RX7, TX7, 30)]
end
section
/-! THE ABSTRACT MACHINE: a program's own step function over numbered cells; its heap is two functions (ints, references) beside a list of shapes -/
abbrev HP : Type := (Nat → Nat → Int32) × (Nat → Nat → Option Nat)
abbrev SH : Type := List (Nat × Nat)
/-- an instruction: its pc, itself, two numbers (a jump's target, a field's class and place, a callee), a switch's targets -/
abbrev EI : Type := Nat × Instr × Nat × Nat × List Nat
/-- a method: name, bytes, locals, what it returns, room, arguments, its class's number, code -/
abbrev ME : Type := MethodName × ByteArray × Nat × Option FieldType × Room × Nat × Nat × List EI
abbrev mName (q : ME) : MethodName := q.1
abbrev mBytes (q : ME) : ByteArray := q.2.1
abbrev mLoc (q : ME) : Nat := q.2.2.1
abbrev mRet (q : ME) : Option FieldType := q.2.2.2.1
abbrev mRoom (q : ME) : Room := q.2.2.2.2.1
abbrev mArgs (q : ME) : Nat := q.2.2.2.2.2.1
abbrev mCls (q : ME) : Nat := q.2.2.2.2.2.2.1
abbrev mCode (q : ME) : List EI := q.2.2.2.2.2.2.2
abbrev CF : Type := Nat × List (Option Value) × List Value × Nat × Nat × SH × HP
abbrev RS : Type := Option Value × Nat × Nat × SH × HP
def SCR : Nat := 1000000
def setR {α : Type} (f : Nat → Nat → α) (i : Nat) (r : Nat → α) : Nat → Nat → α := fun j => if j = i then r else f j
def cnd (c : ClassFile.Cond) (x y : Int32) : Bool := match c with
  | .eq => decide (x = y)
  | .ne => decide (¬ x = y)
  | .lt => decide (x < y)
  | .ge => decide (y ≤ x)
  | .gt => decide (y < x)
  | .le => decide (x ≤ y)
def rv : Option Nat → Value
  | none => .null
  | some i => .ref i
/-- the kinds of the fields, by class: 0 int, 1 boolean, 2 reference -/
def clk : List (List Nat) := vwCl.map fun q => (List.range q.2.2).map fun k => if (q.2.1 k).2.2.1 = "I" then 0 else if (q.2.1 k).2.2.1 = "Z" then 1 else 2
def kd (ci k : Nat) : Nat := (clk.getD ci []).getD k 0
def fval (hp : HP) (ci o k : Nat) : Value := if kd ci k = 2 then rv (hp.2 o k) else .int (hp.1 o k)
def locI (L : List (Option Value)) (i : Nat) : Option Int32 := match L[i]? with
  | some (some (.int x)) => some x
  | _ => none
def locR (L : List (Option Value)) (i : Nat) : Option Nat := match L[i]? with
  | some (some (.ref x)) => some x
  | _ => none
def switchTo (x lo hi : Int) (ts : List Nat) : Option Nat := if x < lo ∨ hi < x then ts[0]? else ts[(x - lo).toNat + 1]?
def lookTo (ks : List Int) (x : Int) (ts : List Nat) : Option Nat := match ks, ts with
  | k :: ks, t :: ts => if x = k then some t else lookTo ks x ts
  | _, t :: _ => some t
  | _, [] => none
def isRet (i : Instr) : Bool := match i with
  | .ireturn => true
  | .areturn => true
  | .return_ => true
  | _ => false
def isCall (i : Instr) (b : Nat) : Bool := match i with
  | .invokevirtual _ => true
  | .invokespecial _ => b == 0
  | .invokestatic _ => b == 0
  | _ => false
/-- the steps within a method -/
def prim (rm : Room) (scr : Option (Nat × (Nat → Int32))) (e : EI) (j : Nat) (L : List (Option Value)) (st : List Value) (cs sl : Nat) (sh : SH) (hp : HP) : Option CF :=
  match e.2.1 with
  | .iload_n k => (locI L k).bind fun x => some (j + 1, L, .int x :: st, cs, sl, sh, hp)
  | .iload k => (locI L k).bind fun x => some (j + 1, L, .int x :: st, cs, sl, sh, hp)
  | .aload_n k => (locR L k).bind fun x => some (j + 1, L, .ref x :: st, cs, sl, sh, hp)
  | .aload k => (locR L k).bind fun x => some (j + 1, L, .ref x :: st, cs, sl, sh, hp)
  | .istore_n k => match st with
    | .int x :: r => if (k : Nat) < L.length then some (j + 1, L.set k (some (.int x)), r, cs, sl, sh, hp) else none
    | _ => none
  | .istore k => match st with
    | .int x :: r => if k < L.length then some (j + 1, L.set k (some (.int x)), r, cs, sl, sh, hp) else none
    | _ => none
  | .astore_n k => match st with
    | .ref x :: r => if (k : Nat) < L.length then some (j + 1, L.set k (some (.ref x)), r, cs, sl, sh, hp) else none
    | _ => none
  | .astore k => match st with
    | .ref x :: r => if k < L.length then some (j + 1, L.set k (some (.ref x)), r, cs, sl, sh, hp) else none
    | _ => none
  | .iconst n => some (j + 1, L, .int (Int32.ofInt n) :: st, cs, sl, sh, hp)
  | .bipush n => some (j + 1, L, .int (Int8.ofInt n).toInt32 :: st, cs, sl, sh, hp)
  | .sipush n => some (j + 1, L, .int (Int16.ofInt n).toInt32 :: st, cs, sl, sh, hp)
  | .ldc _ => some (j + 1, L, .int (Int32.ofNat e.2.2.1) :: st, cs, sl, sh, hp)
  | .ldc_w _ => some (j + 1, L, .int (Int32.ofNat e.2.2.1) :: st, cs, sl, sh, hp)
  | .iinc k n => (locI L k).bind fun x => if k < L.length then some (j + 1, L.set k (some (.int (x + Int32.ofInt n))), st, cs, sl, sh, hp) else none
  | .iadd => match st with
    | .int y :: .int x :: r => some (j + 1, L, .int (x + y) :: r, cs, sl, sh, hp)
    | _ => none
  | .isub => match st with
    | .int y :: .int x :: r => some (j + 1, L, .int (x - y) :: r, cs, sl, sh, hp)
    | _ => none
  | .imul => match st with
    | .int y :: .int x :: r => some (j + 1, L, .int (x * y) :: r, cs, sl, sh, hp)
    | _ => none
  | .iand => match st with
    | .int y :: .int x :: r => some (j + 1, L, .int (x &&& y) :: r, cs, sl, sh, hp)
    | _ => none
  | .ior => match st with
    | .int y :: .int x :: r => some (j + 1, L, .int (x ||| y) :: r, cs, sl, sh, hp)
    | _ => none
  | .ixor => match st with
    | .int y :: .int x :: r => some (j + 1, L, .int (x ^^^ y) :: r, cs, sl, sh, hp)
    | _ => none
  | .ishl => match st with
    | .int y :: .int x :: r => some (j + 1, L, .int (x <<< (y &&& 31)) :: r, cs, sl, sh, hp)
    | _ => none
  | .ishr => match st with
    | .int y :: .int x :: r => some (j + 1, L, .int (x >>> (y &&& 31)) :: r, cs, sl, sh, hp)
    | _ => none
  | .iushr => match st with
    | .int y :: .int x :: r => some (j + 1, L, .int (x.toUInt32 >>> (y.toUInt32 &&& Int32.toUInt32 31)).toInt32 :: r, cs, sl, sh, hp)
    | _ => none
  | .idiv => match st with
    | .int y :: .int x :: r => if y = 0 then none else some (j + 1, L, .int (x / y) :: r, cs, sl, sh, hp)
    | _ => none
  | .irem => match st with
    | .int y :: .int x :: r => if y = 0 then none else some (j + 1, L, .int (x - x / y * y) :: r, cs, sl, sh, hp)
    | _ => none
  | .ineg => match st with
    | .int x :: r => some (j + 1, L, .int (-x) :: r, cs, sl, sh, hp)
    | _ => none
  | .dup => match st with
    | .int x :: r => some (j + 1, L, .int x :: .int x :: r, cs, sl, sh, hp)
    | .ref x :: r => some (j + 1, L, .ref x :: .ref x :: r, cs, sl, sh, hp)
    | _ => none
  | .dup2 => match st with
    | .int y :: .ref x :: r => some (j + 1, L, .int y :: .ref x :: .int y :: .ref x :: r, cs, sl, sh, hp)
    | _ => none
  | .pop => match st with
    | .int _ :: r => some (j + 1, L, r, cs, sl, sh, hp)
    | .ref _ :: r => some (j + 1, L, r, cs, sl, sh, hp)
    | _ => none
  | .goto _ => some (e.2.2.1, L, st, cs, sl, sh, hp)
  | .ifCond c _ => match st with
    | .int x :: r => some (if cnd c x 0 = true then e.2.2.1 else j + 1, L, r, cs, sl, sh, hp)
    | _ => none
  | .if_icmp c _ => match st with
    | .int y :: .int x :: r => some (if cnd c x y = true then e.2.2.1 else j + 1, L, r, cs, sl, sh, hp)
    | _ => none
  | .tableswitch _ lo hi _ => match st with
    | .int x :: r => (switchTo x.toInt lo hi e.2.2.2.2).bind fun t => some (t, L, r, cs, sl, sh, hp)
    | _ => none
  | .lookupswitch _ ps => match st with
    | .int x :: r => (lookTo (ps.toList.map (·.1)) x.toInt e.2.2.2.2).bind fun t => some (t, L, r, cs, sl, sh, hp)
    | _ => none
  | .getfield _ => match st with
    | .ref o :: r => if sh[o]? = some (0, e.2.2.1) ∧ ¬ o = SCR then some (j + 1, L, fval hp e.2.2.1 o e.2.2.2.1 :: r, cs, sl, sh, hp) else none
    | _ => none
  | .putfield _ => match st with
    | .int v :: .ref o :: r => if (sh[o]? = some (0, e.2.2.1) ∧ ¬ o = SCR) ∧ (kd e.2.2.1 e.2.2.2.1 = 0 ∨ (kd e.2.2.1 e.2.2.2.1 = 1 ∧ (v = 0 ∨ v = 1))) then some (j + 1, L, r, cs, sl, sh, (setR hp.1 o (upd (hp.1 o) e.2.2.2.1 v), hp.2)) else none
    | .ref q :: .ref o :: r => if (sh[o]? = some (0, e.2.2.1) ∧ ¬ o = SCR) ∧ kd e.2.2.1 e.2.2.2.1 = 2 ∧ ¬ q = SCR then some (j + 1, L, r, cs, sl, sh, (hp.1, setR hp.2 o (va_up (hp.2 o) e.2.2.2.1 (some q)))) else none
    | _ => none
  | .new _ => if cs + 1 ≤ rm.cells ∧ sl + (clk.getD e.2.2.1 []).length ≤ rm.slots ∧ sh.length < SCR then some (j + 1, L, .ref sh.length :: st, cs + 1, sl + (clk.getD e.2.2.1 []).length, sh ++ [(0, e.2.2.1)], (setR hp.1 sh.length (fun _ => 0), setR hp.2 sh.length (fun _ => none))) else none
  | .newarray _ => match st with
    | .int n :: r => if ¬ n < 0 ∧ n.toNatClampNeg ≤ 100000 ∧ cs + 1 ≤ rm.cells ∧ sl + n.toNatClampNeg ≤ rm.slots ∧ sh.length < SCR then some (j + 1, L, .ref sh.length :: r, cs + 1, sl + n.toNatClampNeg, sh ++ [(1, n.toNatClampNeg)], (setR hp.1 sh.length (fun _ => 0), hp.2)) else none
    | _ => none
  | .anewarray _ => match st with
    | .int n :: r => if ¬ n < 0 ∧ n.toNatClampNeg ≤ 100000 ∧ cs + 1 ≤ rm.cells ∧ sl + n.toNatClampNeg ≤ rm.slots ∧ sh.length < SCR then some (j + 1, L, .ref sh.length :: r, cs + 1, sl + n.toNatClampNeg, sh ++ [(2, n.toNatClampNeg)], (hp.1, setR hp.2 sh.length (fun _ => none))) else none
    | _ => none
  | .iaload => match st with
    | .int i :: .ref o :: r => if o = SCR then scr.bind fun q => if ¬ (i < 0 ∨ q.1 ≤ i.toNatClampNeg) then some (j + 1, L, .int (q.2 i.toNatClampNeg) :: r, cs, sl, sh, hp) else none
      else match sh[o]? with
        | some (1, n) => if ¬ (i < 0 ∨ n ≤ i.toNatClampNeg) then some (j + 1, L, .int (hp.1 o i.toNatClampNeg) :: r, cs, sl, sh, hp) else none
        | _ => none
    | _ => none
  | .iastore => match st with
    | .int x :: .int i :: .ref o :: r => if o = SCR then none else match sh[o]? with
        | some (1, n) => if ¬ (i < 0 ∨ n ≤ i.toNatClampNeg) then some (j + 1, L, r, cs, sl, sh, (setR hp.1 o (upd (hp.1 o) i.toNatClampNeg x), hp.2)) else none
        | _ => none
    | _ => none
  | .aaload => match st with
    | .int i :: .ref o :: r => if o = SCR then none else match sh[o]? with
        | some (2, n) => if ¬ (i < 0 ∨ n ≤ i.toNatClampNeg) then some (j + 1, L, rv (hp.2 o i.toNatClampNeg) :: r, cs, sl, sh, hp) else none
        | _ => none
    | _ => none
  | .aastore => match st with
    | .ref q :: .int i :: .ref o :: r => if o = SCR ∨ q = SCR ∨ ¬ sh[q]? = some (0, 0) then none else match sh[o]? with
        | some (2, n) => if ¬ (i < 0 ∨ n ≤ i.toNatClampNeg) then some (j + 1, L, r, cs, sl, sh, (hp.1, setR hp.2 o (va_up (hp.2 o) i.toNatClampNeg (some q)))) else none
        | _ => none
    | _ => none
  | .arraylength => match st with
    | .ref o :: r => if o = SCR then scr.bind fun q => some (j + 1, L, .int (Int32.ofNat q.1) :: r, cs, sl, sh, hp)
      else match sh[o]? with
        | some (1, n) => some (j + 1, L, .int (Int32.ofNat n) :: r, cs, sl, sh, hp)
        | some (2, n) => some (j + 1, L, .int (Int32.ofNat n) :: r, cs, sl, sh, hp)
        | _ => none
    | _ => none
  | .invokespecial _ => match st with
    | .ref _ :: r => if e.2.2.2.1 = 1 ∧ 1 ≤ rm.frames ∧ (r.map fun v => v.category).sum + 12 ≤ rm.locals then some (j + 1, L, r, cs, sl, sh, hp) else none
    | _ => none
  | .invokestatic _ => match st with
    | .int n :: .int dp :: .ref d :: .int sp :: .ref o :: r => match sh[o]?, sh[d]? with
      | some (1, n0), some (1, n1) => if e.2.2.2.1 = 2 ∧ (¬ o = SCR ∧ ¬ d = SCR) ∧ ¬ sp < 0 ∧ ¬ dp < 0 ∧ ¬ n < 0 ∧ sp.toNatClampNeg + n.toNatClampNeg ≤ n0 ∧ dp.toNatClampNeg + n.toNatClampNeg ≤ n1 ∧ 1 ≤ rm.frames ∧ (r.map fun v => v.category).sum + 40 ≤ rm.locals then
          some (j + 1, L, r, cs, sl, sh, (setR hp.1 d (va_cpy (hp.1 o) (hp.1 d) sp.toNatClampNeg dp.toNatClampNeg n.toNatClampNeg), hp.2)) else none
      | _, _ => none
    | _ => none
  | _ => none
def retTo (ret : Option FieldType) (rm : Room) (i : Instr) (st : List Value) (cs sl : Nat) (sh : SH) (hp : HP) : Option RS :=
  if cs ≤ rm.cells ∧ sl ≤ rm.slots then
    match i, st with
    | .ireturn, [.int v] => if ret = some .int ∨ (ret = some .boolean ∧ (v = 0 ∨ v = 1)) then some (some (.int v), cs, sl, sh, hp) else none
    | .areturn, [.ref o] => match ret with
      | some (.object _) => some (some (.ref o), cs, sl, sh, hp)
      | _ => none
    | .return_, [] => if ret = none then some (none, cs, sl, sh, hp) else none
    | _, _ => none
  else none
/-- the receiver's class -/
def recvOk (i : Instr) (me' : ME) (st : List Value) (sh : SH) : Bool := match i with
  | .invokevirtual _ => match (st.take (mArgs me')).getLast? with
    | some (.ref o) => decide (¬ o = SCR ∧ sh[o]? = some (0, mCls me'))
    | _ => false
  | .invokespecial _ => match (st.take (mArgs me')).getLast? with
    | some (.ref _) => true
    | _ => false
  | _ => true
/-- may this call go: room, and the receiver's class -/
def callOk (rm : Room) (i : Instr) (me' : ME) (st : List Value) (cs sl : Nat) (sh : SH) : Bool :=
  decide (mArgs me' ≤ st.length) && decide (mArgs me' ≤ mLoc me') && ((st.take (mArgs me')).all fun v => v.category == 1) && decide (((st.drop (mArgs me')).map fun v => v.category).sum ≤ 8) &&
  decide ((mRoom me').frames + 1 ≤ rm.frames) && decide (8 + (mLoc me' + 11) + (mRoom me').locals ≤ rm.locals) && decide (cs + (mRoom me').cells ≤ rm.cells) && decide (sl + (mRoom me').slots ≤ rm.slots) && recvOk i me' st sh
def args0 (me' : ME) (st : List Value) : List Value := (st.take (mArgs me')).reverse
def loc0 (me' : ME) (st : List Value) : List (Option Value) := (args0 me' st).map some ++ List.replicate (mLoc me' - mArgs me') none
/-- a method's run -/
def exF (ms : List ME) : Nat → Option (Nat × (Nat → Int32)) → ME → Nat → List (Option Value) → List Value → Nat → Nat → SH → HP → Option RS
  | 0, _, _, _, _, _, _, _, _, _ => none
  | n + 1, scr, me, j, L, st, cs, sl, sh, hp => (mCode me)[j]?.bind fun e =>
    if isRet e.2.1 = true then retTo (mRet me) (mRoom me) e.2.1 st cs sl sh hp
    else if isCall e.2.1 e.2.2.2.1 = true then ms[e.2.2.1]?.bind fun me' =>
      if callOk (mRoom me) e.2.1 me' st cs sl sh = true then (exF ms n none me' 0 (loc0 me' st) [] 0 0 sh hp).bind fun q =>
        exF ms n scr me (j + 1) L (q.1.toList ++ st.drop (mArgs me')) (cs + (mRoom me').cells) (sl + (mRoom me').slots) q.2.2.2.1 q.2.2.2.2
      else none
    else (prim (mRoom me) scr e j L st cs sl sh hp).bind fun q => exF ms n scr me q.1 q.2.1 q.2.2.1 q.2.2.2.1 q.2.2.2.2.1 q.2.2.2.2.2.1 q.2.2.2.2.2.2
end
section
/-! THE ABSTRACT MACHINE IS THE MACHINE'S: worlds, locals, the steps within a method -/
/-- references as the machine has them: the cells stand one behind the other from 'base' on; the script is the cell sb -/
def tr (base sb : Nat) : Value → Value
  | .ref i => .ref (if i = SCR then sb else base + i)
  | v => v
theorem tr_cat (base sb : Nat) (v : Value) : (tr base sb v).category = v.category := by cases v <;> rfl
theorem tr_sum (base sb : Nat) (st : List Value) : ((st.map (tr base sb)).map fun v => v.category).sum = (st.map fun v => v.category).sum := by
  rw [List.map_map]
  congr 1
  exact List.map_congr_left fun v _ => tr_cat base sb v
def trv (base : Nat) (r : Option Nat) : Value := va_rf (r.map (base + ·))
theorem tr_rv (base sb : Nat) (r : Option Nat) (h : ¬ r = some SCR) : tr base sb (rv r) = trv base r := by
  cases r with
  | none => rfl
  | some i =>
    have hi : ¬ i = SCR := fun q => h (by rw [q])
    simp [tr, rv, trv, va_rf, hi]
/-- the field k of an object of class ci, as the machine has it -/
def fvl (base : Nat) (hp : HP) (ci o k : Nat) : Value := if kd ci k = 2 then trv base (hp.2 o k) else .int (hp.1 o k)
def cellI (base : Nat) (D : va_G) (cI cF : ClassId) (H : Heap) (sh : SH) (hp : HP) (i : Nat) : Prop := match sh[i]? with
  | some (0, ci) => ∃ r : vw_C, vwCl[ci]? = some r ∧ t_OB (base + i) (D.1 ci) r.2.2 (D.2 ci) H (fvl base hp ci i)
  | some (1, n) => H[base + i]? = some (arrV cI n (fun j => .int (hp.1 i j)))
  | some (2, n) => H[base + i]? = some (arrV cF n (fun j => trv base (hp.2 i j)))
  | _ => True
/-- no cell holds the script -/
def noS (hp : HP) : Prop := ∀ i k, ¬ hp.2 i k = some SCR
def Iv (base : Nat) (Hb : Heap) (D : va_G) (cI cF : ClassId) (H : Heap) (sh : SH) (hp : HP) : Prop :=
  H.size = base + sh.length ∧ sh.length ≤ SCR ∧ noS hp ∧ (∀ i, i < sh.length → cellI base D cI cF H sh hp i) ∧ ∀ q, q < base → H[q]? = Hb[q]?
def LsOk (base sb nL : Nat) (ls : Array Slot) (L : List (Option Value)) : Prop := L.length = nL ∧ ls.size = nL ∧ lv_wf ls ∧ ∀ (i : Nat) (v : Value), L[i]? = some (some v) → ls[i]? = some (.val (tr base sb v)) ∧ v.category = 1
def lvOf (base sb : Nat) (L : List (Option Value)) : List (Nat × Value) := (List.range L.length).filterMap fun i => match L[i]? with
  | some (some v) => some (i, tr base sb v)
  | _ => none
theorem lvOf_mem {base sb : Nat} {L : List (Option Value)} {i : Nat} {v : Value} (h : L[i]? = some (some v)) : (i, tr base sb v) ∈ lvOf base sb L := by
  refine List.mem_filterMap.mpr ⟨i, List.mem_range.mpr (List.getElem?_eq_some_iff.mp h).1, ?_⟩
  rw [h]
theorem lvOf_of {base sb : Nat} {L : List (Option Value)} {q : Nat × Value} (h : q ∈ lvOf base sb L) : ∃ v, L[q.1]? = some (some v) ∧ q.2 = tr base sb v := by
  obtain ⟨i, -, hi⟩ := List.mem_filterMap.mp h
  split at hi
  · rename_i v hv
    cases hi
    exact ⟨v, hv, rfl⟩
  · cases hi
theorem LsOk.has {base sb nL : Nat} {ls : Array Slot} {L : List (Option Value)} (h : LsOk base sb nL ls L) : lv_has ls nL (lvOf base sb L) := by
  refine ⟨h.2.1, h.2.2.1, fun q hq => ?_⟩
  obtain ⟨v, h1, h2⟩ := lvOf_of hq
  rw [h2]
  exact (h.2.2.2 _ _ h1).1
theorem LsOk.set {base sb nL : Nat} {ls ls' : Array Slot} {L : List (Option Value)} {i : Nat} {v : Value} (h : LsOk base sb nL ls L) (hv : v.category = 1)
    (h' : lv_has ls' nL ((i, tr base sb v) :: (lvOf base sb L).filter (fun q => !(q.1 == i) && !(q.1 + 1 == i && q.2.category == 2)))) : LsOk base sb nL ls' (L.set i (some v)) := by
  refine ⟨by rw [List.length_set]; exact h.1, h'.1, h'.2.1, fun k w hk => ?_⟩
  by_cases hki : k = i
  · subst hki
    have hl : k < L.length := by
      have := (List.getElem?_eq_some_iff.mp hk).1
      rw [List.length_set] at this
      exact this
    rw [List.getElem?_set_self hl] at hk
    cases hk
    exact ⟨h'.2.2 _ List.mem_cons_self, hv⟩
  · rw [List.getElem?_set_ne (Ne.symm hki)] at hk
    have hc := (h.2.2.2 _ _ hk).2
    refine ⟨h'.2.2 (k, tr base sb w) (List.mem_cons_of_mem _ (List.mem_filter.mpr ⟨lvOf_mem hk, ?_⟩)), hc⟩
    simp [hki, tr_cat, hc]
theorem LsOk.int {base sb nL : Nat} {ls : Array Slot} {L : List (Option Value)} {i : Nat} {x : Int32} (h : LsOk base sb nL ls L) (hx : locI L i = some x) : ls[i]? = some (.val (.int x)) := by
  unfold locI at hx
  split at hx
  · rename_i y hy
    cases hx
    exact (h.2.2.2 _ _ hy).1
  · cases hx
theorem LsOk.rf {base sb nL : Nat} {ls : Array Slot} {L : List (Option Value)} {i : Nat} {x : Nat} (h : LsOk base sb nL ls L) (hx : locR L i = some x) : ls[i]? = some (.val (.ref (if x = SCR then sb else base + x))) := by
  unfold locR at hx
  split at hx
  · rename_i y hy
    cases hx
    exact (h.2.2.2 _ _ hy).1
  · cases hx
/-! a cell changed, a cell made -/
theorem cellI.kept {base : Nat} {D : va_G} {cI cF : ClassId} {H H' : Heap} {sh sh' : SH} {hp hp' : HP} {i : Nat} (h : cellI base D cI cF H sh hp i) (hs : sh'[i]? = sh[i]?) (h1 : hp'.1 i = hp.1 i) (h2 : hp'.2 i = hp.2 i) (hH : H'[base + i]? = H[base + i]?) : cellI base D cI cF H' sh' hp' i := by
  unfold cellI at h ⊢
  rw [hs]
  split
  · rename_i ci hci
    rw [hci] at h
    obtain ⟨r, hr, ho⟩ := h
    refine ⟨r, hr, (ho.kept hH).to fun k _ => ?_⟩
    simp only [fvl, h1, h2]
  · rename_i n hn
    rw [hn] at h
    rw [hH, h1]
    exact h
  · rename_i n hn
    rw [hn] at h
    rw [hH, h2]
    exact h
  · trivial
theorem setR_ne {α : Type} (f : Nat → Nat → α) {i j : Nat} (r : Nat → α) (h : ¬ j = i) : setR f i r j = f j := by simp [setR, h]
theorem setR_eq {α : Type} (f : Nat → Nat → α) (i : Nat) (r : Nat → α) : setR f i r i = r := by simp [setR]
theorem Iv.put {base : Nat} {Hb : Heap} {D : va_G} {cI cF : ClassId} {H H' : Heap} {sh : SH} {hp hp' : HP} {o : Nat} (h : Iv base Hb D cI cF H sh hp) (ho : o < sh.length) (hS : noS hp')
    (hc : cellI base D cI cF H' sh hp' o) (h1 : ∀ i, ¬ i = o → hp'.1 i = hp.1 i) (h2 : ∀ i, ¬ i = o → hp'.2 i = hp.2 i) (hz : H'.size = H.size) (hq : ∀ q, q ≠ base + o → H'[q]? = H[q]?) : Iv base Hb D cI cF H' sh hp' := by
  obtain ⟨a1, a2, a3, a4, a5⟩ := h
  refine ⟨by rw [hz, a1], a2, hS, fun i hi => ?_, fun q hq1 => ?_⟩
  · by_cases hio : i = o
    · subst hio
      exact hc
    · exact (a4 i hi).kept rfl (h1 i hio) (h2 i hio) (hq _ (by omega))
  · rw [hq q (by omega)]
    exact a5 q hq1
theorem Iv.push {base : Nat} {Hb : Heap} {D : va_G} {cI cF : ClassId} {H H' : Heap} {sh : SH} {x : Nat × Nat} {hp hp' : HP} (h : Iv base Hb D cI cF H sh hp) (hl : sh.length < SCR) (hS : noS hp')
    (hc : cellI base D cI cF H' (sh ++ [x]) hp' sh.length) (h1 : ∀ i, ¬ i = sh.length → hp'.1 i = hp.1 i) (h2 : ∀ i, ¬ i = sh.length → hp'.2 i = hp.2 i) (hz : H'.size = H.size + 1) (hq : ∀ q, q < H.size → H'[q]? = H[q]?) : Iv base Hb D cI cF H' (sh ++ [x]) hp' := by
  obtain ⟨a1, a2, a3, a4, a5⟩ := h
  refine ⟨by rw [hz, a1, List.length_append, List.length_singleton]; omega, by rw [List.length_append, List.length_singleton]; omega, hS, fun i hi => ?_, fun q hq1 => ?_⟩
  · by_cases hio : i = sh.length
    · subst hio
      exact hc
    · rw [List.length_append, List.length_singleton] at hi
      have hi' : i < sh.length := by omega
      exact (a4 i hi').kept (List.getElem?_append_left hi') (h1 i hio) (h2 i hio) (hq _ (by omega))
  · rw [hq q (by omega)]
    exact a5 q hq1
/-! what the tables say of an instruction -/
def pcAt (code : List EI) (t : Nat) : Nat := match code[t]? with
  | some e => e.1
  | none => 0
def ilen (i : Instr) : Nat := match i with
  | .iload _ => 2
  | .aload _ => 2
  | .istore _ => 2
  | .astore _ => 2
  | .bipush _ => 2
  | .sipush _ => 3
  | .ldc _ => 2
  | .ldc_w _ => 3
  | .iinc _ _ => 3
  | .goto _ => 3
  | .ifCond _ _ => 3
  | .if_icmp _ _ => 3
  | .getfield _ => 3
  | .putfield _ => 3
  | .new _ => 3
  | .newarray _ => 2
  | .anewarray _ => 3
  | .invokevirtual _ => 3
  | .invokespecial _ => 3
  | .invokestatic _ => 3
  | _ => 1
/-- the pcs of an entry, by the bytes -/
def chkE (bs : ByteArray) (code : List EI) (nx : Nat) (e : EI) : Bool := match e.2.1 with
  | .tableswitch d lo hi offs => (match decode bs e.1 with
      | .ok q => decide (q.1 = .tableswitch d lo hi offs)
      | _ => false) && decide (lo ≤ hi ∧ offs.size = (hi - lo).toNat + 1) && decide ((d :: offs.toList).map (fun o => (e.1 : Int) + o) = e.2.2.2.2.map fun t => (pcAt code t : Int))
  | .lookupswitch d ps => (match decode bs e.1 with
      | .ok q => decide (q.1 = .lookupswitch d ps)
      | _ => false) && ((ps.toList.zip (ps.toList.drop 1)).all fun (a, next) => a.1 < next.1) && decide ((ps.toList.map (·.2) ++ [d]).map (fun o => (e.1 : Int) + o) = e.2.2.2.2.map fun t => (pcAt code t : Int))
  | .goto off => decide (decode bs e.1 = .ok (e.2.1, 3)) && decide ((e.1 : Int) + off = (pcAt code e.2.2.1 : Int))
  | .ifCond _ off => decide (decode bs e.1 = .ok (e.2.1, 3)) && decide ((e.1 : Int) + off = (pcAt code e.2.2.1 : Int)) && decide (nx = e.1 + 3)
  | .if_icmp _ off => decide (decode bs e.1 = .ok (e.2.1, 3)) && decide ((e.1 : Int) + off = (pcAt code e.2.2.1 : Int)) && decide (nx = e.1 + 3)
  | i => decide (decode bs e.1 = .ok (i, ilen i)) && (isRet i || decide (nx = e.1 + ilen i))
/-- a stretch of the code, with the pc that comes behind it -/
def chkS (bs : ByteArray) (code : List EI) (nx : Nat) : List EI → Bool
  | [] => true
  | e :: r => chkE bs code (match r with
    | [] => nx
    | e' :: _ => e'.1) e && chkS bs code nx r
def chkC (bs : ByteArray) (code : List EI) : Prop := pcAt code 0 = 0 ∧ ∀ (j : Nat) (e : EI), code[j]? = some e → chkE bs code (pcAt code (j + 1)) e = true
theorem chkS_at {bs : ByteArray} {code : List EI} {nx : Nat} : ∀ {l : List EI}, chkS bs code nx l = true → ∀ (j : Nat) (e : EI), l[j]? = some e → chkE bs code (match l[j + 1]? with
    | some e' => e'.1
    | none => nx) e = true := by
  intro l
  induction l with
  | nil => intro _ j e h; cases h
  | cons a r ih =>
    intro h j e hj
    simp only [chkS, Bool.and_eq_true] at h
    cases j with
    | zero =>
      cases hj
      cases r with
      | nil => exact h.1
      | cons b r => exact h.1
    | succ j => exact ih h.2 j e hj
theorem chkS_app {bs : ByteArray} {code : List EI} {nx : Nat} {b : EI} {l2 : List EI} : ∀ {l1 : List EI}, chkS bs code b.1 l1 = true → chkS bs code nx (b :: l2) = true → chkS bs code nx (l1 ++ b :: l2) = true := by
  intro l1
  induction l1 with
  | nil => intro _ h; exact h
  | cons a r ih =>
    intro h1 h2
    simp only [chkS, Bool.and_eq_true] at h1
    have h3 := ih h1.2 h2
    show chkS bs code nx (a :: (r ++ b :: l2)) = true
    simp only [chkS, Bool.and_eq_true]
    refine ⟨?_, h3⟩
    cases r with
    | nil => exact h1.1
    | cons c r => exact h1.1
theorem chkC_of {bs : ByteArray} {code : List EI} (h0 : pcAt code 0 = 0) (h : chkS bs code 0 code = true) : chkC bs code := ⟨h0, fun j e hj => by
  have := chkS_at h j e hj
  unfold pcAt
  exact this⟩
end
section
/-- the tables' words that any later state keeps -/
def tbG : List Cond := lw_tbl.filter goodWord
/-! what the tables say of the links -/
def FieldOK (own : String) (idx a b : Nat) : Prop := ∃ (C : String) (T : u_T) (N : Nat), vwCl[a]? = some (C, T, N) ∧ b < N ∧ Cond.fieldLink own idx (T b).1 (T b).2.1 (T b).2.2.1 ∈ tbG
def PutOK (y : MethodName) (a b : Nat) : Prop := ∀ (C : String) (T : u_T) (N : Nat), vwCl[a]? = some (C, T, N) → (T b).2.2.2 = true → (T b).1 = y.cls ∧ y.name = "<init>"
def NewOK (own : String) (idx a : Nat) : Prop := ∃ (C : String) (T : u_T) (N : Nat), vwCl[a]? = some (C, T, N) ∧ Cond.classLink own idx C ∈ tbG ∧ Cond.instantiable C N ∈ tbG ∧ Cond.initialized C ∈ tbG
def LinkNOK (own : String) (idx : Nat) (y : MethodName) : Prop := Cond.methodLink own idx y ∈ tbG ∨ ∃ host, Cond.methodLinkNest own idx y host ∈ lw_tbl
def CallOK (ms : List ME) (own : String) (idx a : Nat) : Prop := ∃ me', ms[a]? = some me' ∧ LinkNOK own idx (mName me') ∧ Cond.initialized (mName me').cls ∈ tbG
def LinkOK (ms : List ME) (y : MethodName) (i : Instr) (a b : Nat) : Prop := match i with
  | .getfield idx => FieldOK y.cls idx a b
  | .putfield idx => FieldOK y.cls idx a b ∧ PutOK y a b
  | .new idx => NewOK y.cls idx a
  | .newarray t => t = .int
  | .anewarray idx => Cond.classLink y.cls idx RX0 ∈ tbG
  | .ldc idx => Cond.constant y.cls idx (Int32.ofNat a) ∈ tbG
  | .ldc_w idx => Cond.constant y.cls idx (Int32.ofNat a) ∈ tbG
  | .invokevirtual idx => CallOK ms y.cls idx a ∧ ∀ me', ms[a]? = some me' → Cond.instanceMethod (mName me') ∈ tbG ∧ Cond.selects (mName me').cls (mName me') (mName me') ∈ tbG ∧ ¬ mCls me' = 99
  | .invokespecial idx => (b = 1 → Cond.methodLink y.cls idx Lib.objectInit ∈ tbG) ∧ (b = 0 → CallOK ms y.cls idx a ∧ ∀ me', ms[a]? = some me' → Cond.instanceMethod (mName me') ∈ tbG ∧ (mName me').name = "<init>" ∧ mRet me' = none ∧ ¬ mCls me' = 99)
  | .invokestatic idx => (b = 2 → Cond.methodLink y.cls idx arraycopyName ∈ tbG) ∧ (b = 0 → CallOK ms y.cls idx a ∧ ∀ me', ms[a]? = some me' → Cond.static (mName me') ∈ tbG ∧ mCls me' = 99)
  | _ => True
/-- what the tables say of the classes -/
def ClOK : Prop := ∀ (ci : Nat) (C : String) (T : u_T) (N : Nat), vwCl[ci]? = some (C, T, N) → (∀ w ∈ u_ws C T N, w ∈ tbG) ∧ (∀ a, a < N → ∀ b, b < N → a ≠ b → (T a).2.1 ≠ (T b).2.1) ∧ (clk.getD ci []).length = N ∧
  ∃ ty : Nat → FieldType, (∀ k, k < N → parseFieldDescriptor (T k).2.2.1 = some (ty k)) ∧ ∀ k, k < N → (kd ci k = 0 ∧ ty k = .int) ∨ (kd ci k = 1 ∧ ty k = .boolean) ∨ (kd ci k = 2 ∧ ((∃ n, ty k = .object n) ∨ ∃ t, ty k = .array t))
def GlOK : Prop := Cond.arrayClass .int ∈ tbG ∧ True ∧ Cond.instanceMethod Lib.objectInit ∈ tbG ∧ Cond.code Lib.objectInit ⟨#[0xb1]⟩ 1 none ∈ tbG ∧
  Cond.native arraycopyName ∈ tbG ∧ Cond.static arraycopyName ∈ tbG ∧ Cond.initialized "java/lang/System" ∈ tbG
/-- the words that are kept their own way -/
def Nw (s : State) : Prop := (∀ (a : String) (i : Nat) (x : MethodName) (h : String), Cond.methodLinkNest a i x h ∈ lw_tbl → va_Nw (.methodLinkNest a i x h) s) ∧ va_AO RX0 s
theorem Nw.warm {s U : State} (hW : s.WarmedH U.vm) (h : Nw s) : Nw U := ⟨fun a i x z hm => (h.1 a i x z hm).warmM hW, h.2.moved hW.alike⟩
theorem Nw.same {s U : State} (hv : s.vm = U.vm) (h : Nw s) : Nw U := ⟨fun a i x z hm => va_Nw.same rfl hv (h.1 a i x z hm), h.2.moved (hv ▸ Vm.Alike.refl s.vm)⟩
/-- what holds of a frame -/
def Fx (p : Program) (s : State) (m : MethodId) (args : Array Value) (meth : Method) (c : Code) (y : MethodName) (bs : ByteArray) (nL : Nat) (D : va_G) (cI cF : ClassId) : Prop :=
  p.tables.exec = Jvm.exec ∧ c.code = bs ∧ c.maxLocals = nL ∧ s.vm.findClass y.cls = some m.cls ∧ (∀ w ∈ tbG, w.before args s = true) ∧ va_K D vwCl [(cI, .int), (cF, .object RX0)] s ∧ (y.name = "<init>" → meth.name = "<init>") ∧ Nw s
def Sx (s : State) (base sb : Nat) (Hb : Heap) (scr : Option (Nat × (Nat → Int32))) : Prop := ∀ q, scr = some q → va_X sb q.1 q.2 s Hb ∧ sb < base
theorem noS_setR {hp : HP} {o : Nat} {r : Nat → Option Nat} (h : noS hp) (hr : ∀ k, ¬ r k = some SCR) (f : Nat → Nat → Int32) : noS (f, setR hp.2 o r) := by
  intro i k
  show ¬ (setR hp.2 o r) i k = some SCR
  by_cases hi : i = o
  · subst hi
    rw [setR_eq]
    exact hr k
  · rw [setR_ne _ _ hi]
    exact h i k
theorem noS_up {hp : HP} {o k q : Nat} (h : noS hp) (hq : ¬ q = SCR) : ∀ j, ¬ va_up (hp.2 o) k (some q) j = some SCR := by
  intro j
  unfold va_up
  by_cases hj : j = k
  · rw [if_pos hj]
    exact fun z => hq (Option.some.inj z)
  · rw [if_neg hj]
    exact h o j
theorem cell_obj {base : Nat} {D : va_G} {cI cF : ClassId} {H : Heap} {sh : SH} {hp : HP} {o ci : Nat} {r : vw_C} (h : cellI base D cI cF H sh hp o) (hs : sh[o]? = some (0, ci)) (hr : vwCl[ci]? = some r) : t_OB (base + o) (D.1 ci) r.2.2 (D.2 ci) H (fvl base hp ci o) := by
  unfold cellI at h
  rw [hs] at h
  obtain ⟨r', h1, h2⟩ := h
  cases hr.symm.trans h1
  exact h2
theorem cell_int {base : Nat} {D : va_G} {cI cF : ClassId} {H : Heap} {sh : SH} {hp : HP} {o n : Nat} (h : cellI base D cI cF H sh hp o) (hs : sh[o]? = some (1, n)) : H[base + o]? = some (arrV cI n (fun j => .int (hp.1 o j))) := by
  unfold cellI at h
  rw [hs] at h
  exact h
theorem cell_ref {base : Nat} {D : va_G} {cI cF : ClassId} {H : Heap} {sh : SH} {hp : HP} {o n : Nat} (h : cellI base D cI cF H sh hp o) (hs : sh[o]? = some (2, n)) : H[base + o]? = some (arrV cF n (fun j => trv base (hp.2 o j))) := by
  unfold cellI at h
  rw [hs] at h
  exact h
theorem sh_lt {sh : SH} {o : Nat} {x : Nat × Nat} (h : sh[o]? = some x) : o < sh.length := (List.getElem?_eq_some_iff.mp h).1
theorem tr_fval {base sb : Nat} {hp : HP} (h : noS hp) (ci o k : Nat) : tr base sb (fval hp ci o k) = fvl base hp ci o k := by
  unfold fval fvl
  split
  · exact tr_rv base sb _ (h o k)
  · rfl
theorem tr_ref {base sb o : Nat} (h : ¬ o = SCR) : tr base sb (.ref o) = .ref (base + o) := by simp [tr, h]
theorem lk_to {ks : List (Int × Int)} {d : Int} {x : Int} {pc : Nat} {ts : List Nat} {f : Nat → Nat} {t : Nat} (h : (ks.map (·.2) ++ [d]).map (fun o => (pc : Int) + o) = ts.map fun t => (f t : Int)) (hq : lookTo (ks.map (·.1)) x ts = some t) : (pc : Int) + Op.lookupswitch.offset ks d x = (f t : Int) := by
  induction ks generalizing ts with
  | nil =>
    match ts, h, hq with
    | [], h, _ => simp at h
    | t0 :: ts, h, hq =>
      simp only [List.map_nil, lookTo] at hq
      cases hq
      simp only [List.map_nil, List.nil_append, List.map_cons] at h
      have h0 := (List.cons.inj h).1
      simpa [Op.lookupswitch.offset] using h0
  | cons q ks ih =>
    match ts, h, hq with
    | [], h, _ => simp at h
    | t0 :: ts, h, hq =>
      simp only [List.map_cons, List.cons_append] at h
      have h0 := (List.cons.inj h).1
      have h1 := (List.cons.inj h).2
      simp only [List.map_cons, lookTo] at hq
      by_cases hx : x = q.1
      · rw [if_pos hx] at hq
        cases hq
        simpa [Op.lookupswitch.offset, hx] using h0
      · rw [if_neg hx] at hq
        have := ih h1 hq
        simpa [Op.lookupswitch.offset, Ne.symm hx, hx] using this
end
section
/-! THE STEPS WITHIN A METHOD, against the machine -/
section PRIM
variable {p : Program} {l : Launch} {e0 : Env} {rm : Room} {s : State} {m : MethodId} {args : Array Value} {below : List Frame} {meth : Method} {c : Code} {H : Heap} {locs : List Loc} {Q : State → Prop}
variable {sh : SH} {hp : HP} {base sb : Nat} {Hb : Heap} {D : va_G} {cI cF : ClassId} {ms : List ME} {y : MethodName} {bs : ByteArray} {nL : Nat} {code : List EI}
theorem app_in {locs : List Loc} {base : Nat} {q : Loc} (h : ∀ l ∈ locs, base ≤ l.base) (hq : base ≤ q.base) : ∀ l ∈ locs ++ [q], base ≤ l.base := by
  intro l hl
  rcases List.mem_append.mp hl with h1 | h1
  · exact h l h1
  · rw [List.mem_singleton.mp h1]
    exact hq
set_option maxHeartbeats 4000000 in
set_option maxRecDepth 100000 in
/-- a field read -/
theorem s_get (hcl : ClOK) (fx : Fx p s m args meth c y bs nL D cI cF) (iv : Iv base Hb D cI cF H sh hp) {o a b idx pc : Nat} {ls : Array Slot} {rest : List Value} {cs sl : Nat} (ho : sh[o]? = some (0, a)) (hk : FieldOK y.cls idx a b) (hdg : decode bs pc = .ok (.getfield idx, 3))
    (kk : W p l e0 rm s m args below meth c H locs cs sl Q (F0 m (pc + 3) ls (fvl base hp a o b :: rest))) : W p l e0 rm s m args below meth c H locs cs sl Q (F0 m pc ls (.ref (base + o) :: rest)) := by
  obtain ⟨hx, hb, hml, hown, hts, hK, -⟩ := fx
  obtain ⟨C, T, N, hc, hb2, hlk⟩ := hk
  obtain ⟨hws, hnm, -, ty, hty, -⟩ := hcl _ _ _ _ hc
  obtain ⟨cell, q1, q2, q3, q4⟩ := cell_obj (iv.2.2.2.1 o (sh_lt ho)) ho hc
  obtain ⟨hS, hfc, kC, hkC, hkind⟩ := hK.1 a _ hc
  obtain ⟨cf, kf, fi, f, hi, hsl⟩ := hS b hb2
  refine W.getf hx hb hown (hts _ hlk) hi (u_facts hfc hkC (u_lays hts hws hb2) hi).1 q1 (by rw [q3]; exact fun h => by cases h) (v := fvl base hp a o b) ?_ rfl rfl hdg kk
  rw [hsl, q4 b hb2]
set_option maxHeartbeats 4000000 in
set_option maxRecDepth 100000 in
/-- a field written -/
theorem s_put (hcl : ClOK) (fx : Fx p s m args meth c y bs nL D cI cF) (iv : Iv base Hb D cI cF H sh hp) {hp' : HP} {o a b idx pc : Nat} {ls : Array Slot} {rest : List Value} {cs sl : Nat} {v : Value} (ho : sh[o]? = some (0, a)) (hk : FieldOK y.cls idx a b) (hp2 : PutOK y a b) (hdg : decode bs pc = .ok (.putfield idx, 3))
    (hv : (kd a b = 0 ∧ ∃ x, v = .int x) ∨ (kd a b = 1 ∧ (v = .int 0 ∨ v = .int 1)) ∨ (kd a b = 2 ∧ ∃ x, v = .ref x)) (hl : ∀ q ∈ locs, base ≤ q.base)
    (hS : noS hp') (h1 : ∀ i, ¬ i = o → hp'.1 i = hp.1 i) (h2 : ∀ i, ¬ i = o → hp'.2 i = hp.2 i) (hV : ∀ k, fvl base hp' a o k = updV (fvl base hp a o) b v k)
    (kk : ∀ (H' : Heap) (locs' : List Loc), Iv base Hb D cI cF H' sh hp' → (∀ q ∈ locs', base ≤ q.base) → W p l e0 rm s m args below meth c H' locs' cs sl Q (F0 m (pc + 3) ls rest)) : W p l e0 rm s m args below meth c H locs cs sl Q (F0 m pc ls (v :: .ref (base + o) :: rest)) := by
  obtain ⟨hx, hb, hml, hown, hts, hK, hini, -⟩ := fx
  obtain ⟨C, T, N, hc, hb2, hlk⟩ := hk
  obtain ⟨hws, hnm, -, ty, hty, htk⟩ := hcl _ _ _ _ hc
  have hap := va_apart (own := y.cls) hts hws ty hty hnm hK hc
  have hcell := iv.2.2.2.1 o (sh_lt ho)
  obtain ⟨cell, q1, q2, q3, q4⟩ := cell_obj hcell ho hc
  obtain ⟨hSl, hfc, kC, hkC, hkind⟩ := hK.1 a _ hc
  obtain ⟨cf, kf, fi, f, hi, hsl⟩ := hSl b hb2
  have hst := (u_facts hfc hkC (u_lays hts hws hb2) hi).1
  have hnf : narrow (ty b) v = v ∧ fits (ty b) v = true := by
    rcases htk b hb2 with ⟨k1, k2⟩ | ⟨k1, k2⟩ | ⟨k1, k2⟩
    · rcases hv with ⟨-, x, rfl⟩ | ⟨j1, -⟩ | ⟨j1, -⟩
      · rw [k2]; exact ⟨rfl, rfl⟩
      · omega
      · omega
    · rcases hv with ⟨j1, -⟩ | ⟨-, rfl | rfl⟩ | ⟨j1, -⟩
      · omega
      · rw [k2]; exact ⟨by decide, by decide⟩
      · rw [k2]; exact ⟨by decide, by decide⟩
      · omega
    · rcases hv with ⟨j1, -⟩ | ⟨j1, -⟩ | ⟨-, x, rfl⟩
      · omega
      · omega
      · rcases k2 with ⟨n, k2⟩ | ⟨t, k2⟩ <;> (rw [k2]; exact ⟨rfl, rfl⟩)
  have key : ∀ H' : Heap, H'[base + o]? = some (cell.setSlot f.slot v) → H'.size = H.size → (∀ q, q ≠ base + o → H'[q]? = H[q]?) → Iv base Hb D cI cF H' sh hp' := by
    intro H' e1 e2 e3
    refine iv.put (sh_lt ho) hS ?_ h1 h2 e2 e3
    unfold cellI
    rw [ho]
    rw [hsl] at e1
    refine ⟨_, hc, ?_⟩
    exact t_OB.to (V := updV (fvl base hp a o) b v) ⟨_, e1, q2, q3, t_set q4 hap hb2 v⟩ (fun k _ => (hV k).symm)
  have hloc : ∀ q ∈ locs ++ [⟨base + o, f.slot⟩], base ≤ q.base := app_in hl (Nat.le_add_right _ _)
  cases hfin : (T b).2.2.2 with
  | false =>
    have hlay := hts _ (hws _ (u_in_lay hb2))
    unfold u_lay at hlay
    rw [if_neg (by rw [hfin]; decide)] at hlay
    have h6 := u_store hfc hkC hkind hlay hi (hty b hb2) hnf.1 hnf.2
    exact W.putK hx hb (f := f) ⟨hown, hts _ hlk, ⟨_, _, _, hi⟩, hst⟩ (by rw [q2]; exact h6) q1 q3 (by rw [hsl]; exact k2_hasslot (q4 b hb2)) rfl rfl hdg fun H' e1 e2 e3 => kk H' _ (key H' e1 e2 e3) hloc
  | true =>
    have hlay := hts _ (hws _ (u_in_lay hb2))
    unfold u_lay at hlay
    rw [if_pos hfin] at hlay
    obtain ⟨p1, p2⟩ := hp2 _ _ _ hc hfin
    have hcf : m.cls = cf := by
      obtain ⟨_, _, c', _, _, _, -, -, hf', -, -, -, hown2, -⟩ := Cond.laysFinal_spec hlay
      have e1 : c' = cf := by have := hi.symm.trans hf'; simp at this; exact this.1.symm
      rw [p1] at hown2
      rw [← e1]; exact Option.some.inj (hown.symm.trans hown2)
    have h6 := u_fits hfc hkC hkind (Or.inr hlay) hi (hty b hb2) hnf.1 hnf.2
    exact W.putFinK hx hb hown (hts _ hlk) hi hst hcf (hini p2) (by rw [q2]; exact h6) q1 q3 (by rw [hsl]; exact k2_hasslot (q4 b hb2)) rfl rfl hdg fun H' e1 e2 e3 => kk H' _ (key H' e1 e2 e3) hloc
set_option maxHeartbeats 4000000 in
set_option maxRecDepth 100000 in
theorem s_iast (fx : Fx p s m args meth c y bs nL D cI cF) (iv : Iv base Hb D cI cF H sh hp) {o n pc : Nat} {i x : Int32} {ls : Array Slot} {rest : List Value} {cs sl : Nat} (ho : sh[o]? = some (1, n)) (hin : ¬ (i < 0 ∨ n ≤ i.toNatClampNeg)) (hdg : decode bs pc = .ok (.iastore, 1)) (hl : ∀ q ∈ locs, base ≤ q.base)
    (kk : ∀ (H' : Heap) (locs' : List Loc), Iv base Hb D cI cF H' sh (setR hp.1 o (upd (hp.1 o) i.toNatClampNeg x), hp.2) → (∀ q ∈ locs', base ≤ q.base) → W p l e0 rm s m args below meth c H' locs' cs sl Q (F0 m (pc + 1) ls rest)) : W p l e0 rm s m args below meth c H locs cs sl Q (F0 m pc ls (.int x :: .int i :: .ref (base + o) :: rest)) := by
  obtain ⟨hx, hb, hml, hown, hts, hK, -⟩ := fx
  have hcell := cell_int (iv.2.2.2.1 o (sh_lt ho)) ho
  refine W.iast hx hb hcell ((hK.2 0 _ rfl).1 n _) (fun q => by cases q) (by show ¬ (i < 0 ∨ (arrV _ _ _).slots.size ≤ _); rw [arrV_size]; exact hin) rfl rfl hdg fun H1 e z oq => ?_
  refine kk H1 _ (iv.put (sh_lt ho) iv.2.2.1 ?_ (fun j hj => setR_ne _ _ hj) (fun _ _ => rfl) z oq) (app_in hl (Nat.le_add_right _ _))
  unfold cellI
  rw [ho]
  show H1[base + o]? = some _
  rw [e, arrV_store]
  congr 2
  funext q
  show _ = Value.int (setR hp.1 o _ o q)
  rw [setR_eq]
  by_cases hq : q = i.toNatClampNeg
  · subst hq
    simp [updV, upd]
  · simp [updV, upd, hq]
set_option maxHeartbeats 4000000 in
set_option maxRecDepth 100000 in
theorem s_aast (fx : Fx p s m args meth c y bs nL D cI cF) (iv : Iv base Hb D cI cF H sh hp) {o n pc q : Nat} {i : Int32} {ls : Array Slot} {rest : List Value} {cs sl : Nat} (ho : sh[o]? = some (2, n)) (hq0 : sh[q]? = some (0, 0)) (hqS : ¬ q = SCR) (hin : ¬ (i < 0 ∨ n ≤ i.toNatClampNeg)) (hdg : decode bs pc = .ok (.aastore, 1)) (hl : ∀ q ∈ locs, base ≤ q.base)
    (kk : ∀ (H' : Heap) (locs' : List Loc), Iv base Hb D cI cF H' sh (hp.1, setR hp.2 o (va_up (hp.2 o) i.toNatClampNeg (some q))) → (∀ q ∈ locs', base ≤ q.base) → W p l e0 rm s m args below meth c H' locs' cs sl Q (F0 m (pc + 1) ls rest)) : W p l e0 rm s m args below meth c H locs cs sl Q (F0 m pc ls (.ref (base + q) :: .int i :: .ref (base + o) :: rest)) := by
  obtain ⟨hx, hb, hml, hown, hts, hK, -⟩ := fx
  have hcell := cell_ref (iv.2.2.2.1 o (sh_lt ho)) ho
  have hr0 : vwCl[0]? = some (RX0, TX0, 9) := rfl
  obtain ⟨cellV, g1, g2, g3, -⟩ := cell_obj (iv.2.2.2.1 q (sh_lt hq0)) hq0 hr0
  have hcls := (hK.1 0 _ hr0).2
  obtain ⟨kA, comp, k1, k2, k3, -⟩ := (hK.2 1 _ rfl).2
  have hcomp : comp = D.1 0 := Option.some.inj (k3.symm.trans hcls.1)
  subst hcomp
  obtain ⟨kC, hkC, -⟩ := hcls.2
  have hlt : i.toNatClampNeg < n := Nat.not_le.mp fun z => hin (Or.inr z)
  have h0 : ¬ i < 0 := fun z => hin (Or.inl z)
  refine W.aast hx hb hcell (fun q h => by cases h) (fun h => by cases h) k1 k2 rfl hkC ⟨h0, by show _ < (arrV _ _ _).slots.size; rw [arrV_size]; exact hlt⟩ g1 (fun q h => by rw [g3] at h; cases h) (by rw [g2]; exact hkC) (by rw [g2]; exact va_assign hcls) rfl rfl hdg fun H1 e z oq => ?_
  refine kk H1 _ (iv.put (sh_lt ho) (noS_setR iv.2.2.1 (noS_up iv.2.2.1 hqS) _) ?_ (fun _ _ => rfl) (fun j hj => setR_ne _ _ hj) z oq) (app_in hl (Nat.le_add_right _ _))
  unfold cellI
  rw [ho]
  show H1[base + o]? = some _
  rw [e, arrV_store]
  congr 2
  funext j
  show _ = trv base (setR hp.2 o _ o j)
  rw [setR_eq]
  by_cases hq : j = i.toNatClampNeg
  · subst hq
    simp [updV, va_up, trv, va_rf]
  · simp [updV, va_up, hq]
set_option maxHeartbeats 4000000 in
set_option maxRecDepth 100000 in
theorem s_new (hcl : ClOK) (fx : Fx p s m args meth c y bs nL D cI cF) (iv : Iv base Hb D cI cF H sh hp) {a idx pc : Nat} {ls : Array Slot} {rest : List Value} {cs sl : Nat} (hk : NewOK y.cls idx a) (hlt : sh.length < SCR) (h1 : cs + 1 ≤ rm.cells) (h2 : sl + (clk.getD a []).length ≤ rm.slots) (hdg : decode bs pc = .ok (.new idx, 3))
    (kk : ∀ (H' : Heap), Iv base Hb D cI cF H' (sh ++ [(0, a)]) (setR hp.1 sh.length (fun _ => 0), setR hp.2 sh.length (fun _ => none)) → W p l e0 rm s m args below meth c H' locs (cs + 1) (sl + (clk.getD a []).length) Q (F0 m (pc + 3) ls (.ref (base + sh.length) :: rest))) : W p l e0 rm s m args below meth c H locs cs sl Q (F0 m pc ls rest) := by
  obtain ⟨hx, hb, hml, hown, hts, hK, -⟩ := fx
  obtain ⟨C, T, N, hc, hlk, hin, hit⟩ := hk
  obtain ⟨hws, hnm, hlen, ty, hty, htk⟩ := hcl _ _ _ _ hc
  have hKn := hK.1 a _ hc
  rw [hlen] at h2 kk
  refine W.newcK hx hb hown (hts _ hlk) (hts _ hin) (hts _ hit) rfl hdg h1 h2 hKn.2.1 iv.1 fun H1 kC hkC e1 z1 o1 => ?_
  refine kk H1 (iv.push hlt (noS_setR iv.2.2.1 (fun _ z => by cases z) _) ?_ (fun j hj => setR_ne _ _ hj) (fun j hj => setR_ne _ _ hj) (by rw [z1, iv.1]) (fun q hq => o1 q (by rw [← iv.1]; exact hq)))
  unfold cellI
  rw [List.getElem?_concat_length]
  refine ⟨_, hc, (u_born ty hts hws hKn hkC e1 hty).to fun k hkN => ?_⟩
  rcases htk k hkN with ⟨k1, k2⟩ | ⟨k1, k2⟩ | ⟨k1, k2⟩
  · rw [k2]; simp [fvl, k1, setR, defaultValue]
  · rw [k2]; simp [fvl, k1, setR, defaultValue]
  · rcases k2 with ⟨n, k2⟩ | ⟨t, k2⟩ <;> (rw [k2]; simp [fvl, k1, setR, defaultValue, trv, va_rf])
set_option maxHeartbeats 4000000 in
set_option maxRecDepth 100000 in
theorem s_newa (hgl : GlOK) (fx : Fx p s m args meth c y bs nL D cI cF) (iv : Iv base Hb D cI cF H sh hp) {pc : Nat} {n : Int32} {ls : Array Slot} {rest : List Value} {cs sl : Nat} (hn : ¬ n < 0) (hn2 : n.toNatClampNeg ≤ 100000) (hlt : sh.length < SCR) (h1 : cs + 1 ≤ rm.cells) (h2 : sl + n.toNatClampNeg ≤ rm.slots) (hdg : decode bs pc = .ok (.newarray .int, 2))
    (kk : ∀ (H' : Heap), Iv base Hb D cI cF H' (sh ++ [(1, n.toNatClampNeg)]) (setR hp.1 sh.length (fun _ => 0), hp.2) → W p l e0 rm s m args below meth c H' locs (cs + 1) (sl + n.toNatClampNeg) Q (F0 m (pc + 2) ls (.ref (base + sh.length) :: rest))) : W p l e0 rm s m args below meth c H locs cs sl Q (F0 m pc ls (.int n :: rest)) := by
  obtain ⟨hx, hb, hml, hown, hts, hK, -⟩ := fx
  refine va_newaK hx hb (atype := .int) (hts _ hgl.1) rfl hdg rfl hn rfl (by show n.toNatClampNeg * 4 ≤ 536870912; omega) h1 h2 iv.1 fun H1 cA e1 z1 o1 hAr hNm => ?_
  have hcA : cA = cI := Option.some.inj (hNm.symm.trans (hK.2 0 _ rfl).2)
  subst hcA
  refine kk H1 (iv.push hlt iv.2.2.1 ?_ (fun j hj => setR_ne _ _ hj) (fun _ _ => rfl) (by rw [z1, iv.1]) (fun q hq => o1 q (by rw [← iv.1]; exact hq)))
  unfold cellI
  rw [List.getElem?_concat_length]
  show H1[base + sh.length]? = some _
  rw [e1]
  congr 2
  funext j
  show _ = Value.int (setR hp.1 sh.length _ sh.length j)
  rw [setR_eq]
  rfl
set_option maxHeartbeats 4000000 in
set_option maxRecDepth 100000 in
theorem s_newr (hgl : GlOK) (fx : Fx p s m args meth c y bs nL D cI cF) (iv : Iv base Hb D cI cF H sh hp) {idx pc : Nat} {n : Int32} {ls : Array Slot} {rest : List Value} {cs sl : Nat} (hk : Cond.classLink y.cls idx RX0 ∈ tbG) (hn : ¬ n < 0) (hn2 : n.toNatClampNeg ≤ 100000) (hlt : sh.length < SCR) (h1 : cs + 1 ≤ rm.cells) (h2 : sl + n.toNatClampNeg ≤ rm.slots) (hdg : decode bs pc = .ok (.anewarray idx, 3))
    (kk : ∀ (H' : Heap), Iv base Hb D cI cF H' (sh ++ [(2, n.toNatClampNeg)]) (hp.1, setR hp.2 sh.length (fun _ => none)) → W p l e0 rm s m args below meth c H' locs (cs + 1) (sl + n.toNatClampNeg) Q (F0 m (pc + 3) ls (.ref (base + sh.length) :: rest))) : W p l e0 rm s m args below meth c H locs cs sl Q (F0 m pc ls (.int n :: rest)) := by
  obtain ⟨hx, hb, hml, hown, hts, hK, -, -, hAO⟩ := fx
  refine W.anew hx hb hown (hts _ hk) (va_AO.use hAO) rfl hdg rfl hn (by omega) h1 h2 fun cA kA comp f1 f2 f3 f4 => ?_
  have hcA : cA = cF := by
    obtain ⟨_, _, -, -, -, k4⟩ := (hK.2 1 _ rfl).2
    exact Option.some.inj (f1.symm.trans k4)
  subst hcA
  have hsz := iv.1
  rw [hsz]
  refine kk _ (iv.push hlt (noS_setR iv.2.2.1 (fun _ z => by cases z) _) ?_ (fun _ _ => rfl) (fun j hj => setR_ne _ _ hj) (by simp) (fun q hq => by rw [Array.getElem?_push, if_neg (Nat.ne_of_lt hq)]))
  unfold cellI
  rw [List.getElem?_concat_length]
  show (H.push _)[base + sh.length]? = some _
  rw [← hsz, Array.getElem?_push_size, arrV_new]
  congr 2
  funext j
  show _ = trv base (setR hp.2 sh.length _ sh.length j)
  rw [setR_eq]
  rfl
end PRIM
end
section
section PRIM2
variable {p : Program} {l : Launch} {e0 : Env} {rm : Room} {s : State} {m : MethodId} {args : Array Value} {below : List Frame} {meth : Method} {c : Code} {H : Heap} {locs : List Loc} {Q : State → Prop}
variable {sh : SH} {hp : HP} {base sb : Nat} {Hb : Heap} {D : va_G} {cI cF : ClassId} {ms : List ME} {y : MethodName} {bs : ByteArray} {nL : Nat} {code : List EI}
theorem nn_int {z : Int32} (hz : ¬ z < 0) : z.toInt = (z.toNatClampNeg : Int) := by
  have hz0 : (0 : Int) ≤ z.toInt := by
    have := Int32.not_lt.mp hz
    simpa using Int32.le_iff_toInt_le.mp this
  show z.toInt = ((z.toInt.toNat : Nat) : Int)
  omega
set_option maxHeartbeats 4000000 in
set_option maxRecDepth 100000 in
theorem s_copy (hgl : GlOK) (fx : Fx p s m args meth c y bs nL D cI cF) (iv : Iv base Hb D cI cF H sh hp) {idx pc o d n0 n1 : Nat} {sp dp n : Int32} {ls : Array Slot} {rest : List Value} {cs sl : Nat} (hk : Cond.methodLink y.cls idx arraycopyName ∈ tbG) (hls : ls.size = nL) (ho : sh[o]? = some (1, n0)) (hd : sh[d]? = some (1, n1))
    (h1 : ¬ sp < 0) (h2 : ¬ dp < 0) (h3 : ¬ n < 0) (h4 : sp.toNatClampNeg + n.toNatClampNeg ≤ n0) (h5 : dp.toNatClampNeg + n.toNatClampNeg ≤ n1) (hf : 1 ≤ rm.frames) (hlo : (rest.map fun v => v.category).sum + 40 ≤ rm.locals) (hdg : decode bs pc = .ok (.invokestatic idx, 3)) (hl : ∀ q ∈ locs, base ≤ q.base)
    (kk : ∀ (H' : Heap) (locs' : List Loc), Iv base Hb D cI cF H' sh (setR hp.1 d (va_cpy (hp.1 o) (hp.1 d) sp.toNatClampNeg dp.toNatClampNeg n.toNatClampNeg), hp.2) → (∀ q ∈ locs', base ≤ q.base) → W p l e0 rm s m args below meth c H' locs' cs sl Q (F0 m (pc + 3) ls rest)) : W p l e0 rm s m args below meth c H locs cs sl Q (F0 m pc ls (.int n :: .int dp :: .ref (base + d) :: .int sp :: .ref (base + o) :: rest)) := by
  obtain ⟨hx, hb, hml, hown, hts, hK, -⟩ := fx
  intro T hT X
  have hc0 := cell_int (iv.2.2.2.1 o (sh_lt ho)) ho
  have hc1 := cell_int (iv.2.2.2.1 d (sh_lt hd)) hd
  obtain ⟨-, k0, hk0, cm0, hkk0⟩ := (hK.2 0 _ rfl).1 n0 (fun j => .int (hp.1 o j))
  obtain ⟨-, k1, hk1, cm1, hkk1⟩ := (hK.2 0 _ rfl).1 n1 (fun j => .int (hp.1 d j))
  obtain ⟨vm', X', step⟩ := X.arraycopy hx hown (hts _ hk) (hts _ hgl.2.2.2.2.1) (hts _ hgl.2.2.2.2.2.1) (hts _ hgl.2.2.2.2.2.2) (src := base + o) (dst := base + d) (cs := arrV cI n0 (fun j => .int (hp.1 o j))) (cd := arrV cI n1 (fun j => .int (hp.1 d j))) (srcPos := sp) (destPos := dp) (n := n) (by rw [hT]; exact hc0) (by rw [hT]; exact hc1)
    (fun _ h => by cases h) (fun _ h => by cases h) (fun h => by cases h) (fun h => by cases h) hk0 hk1 hkk0 hkk1 (by simp [refKind]) h1 h2 h3
    (by rw [nn_int h1, nn_int h3]; show ¬ _ > ((arrV cI n0 (fun j => .int (hp.1 o j))).slots.size : Int); rw [arrV_size]; omega)
    (by rw [nn_int h2, nn_int h3]; show ¬ _ > ((arrV cI n1 (fun j => .int (hp.1 d j))).slots.size : Int); rw [arrV_size]; omega)
    (fun vm₁ _ i hi => by
      have e : (arrV cI n0 (fun j => .int (hp.1 o j))).slots.getD (sp.toNatClampNeg + i) .null = .int (hp.1 o (sp.toNatClampNeg + i)) := by
        rw [Array.getD_eq_getD_getElem?, arrV_read _ _ (by omega)]
        rfl
      refine ⟨?_, ?_⟩
      · rw [e]
        rfl
      · rw [e]
        exact trivial)
    (g := F0 m pc ls (.int n :: .int dp :: .ref (base + d) :: .int sp :: .ref (base + o) :: rest)) rfl (by rw [hml]; exact hls) (rest := rest) rfl (by rw [hb]; exact hdg) hf (by
      show 2 * 0 + _ + _ ≤ _
      have : nativeFrameWords "java/lang/System" "arraycopy" 5 + 11 ≤ 40 := by decide +kernel
      omega)
  have e1 : copied (arrV cI n0 (fun j => .int (hp.1 o j))) (arrV cI n1 (fun j => .int (hp.1 d j))) sp dp n = arrV cI n1 (fun j => .int (va_cpy (hp.1 o) (hp.1 d) sp.toNatClampNeg dp.toNatClampNeg n.toNatClampNeg j)) := va_copied (fun z => .int z) cI cI (hp.1 o) (hp.1 d) h4
  rw [e1] at X' step
  have hlt : base + d < H.size := (Array.getElem?_eq_some_iff.mp hc1).1
  generalize hcc : arrV cI n1 (fun j => .int (va_cpy (hp.1 o) (hp.1 d) sp.toNatClampNeg dp.toNatClampNeg n.toNatClampNeg j)) = cc at X' step
  have hheap : ((T.setVm vm').setCell (base + d) cc).heap = H.setIfInBounds (base + d) cc := by rw [← hT]; rfl
  obtain ⟨t, a1, b1⟩ := kk _ _ (iv.put (H' := H.setIfInBounds (base + d) cc) (hp' := (setR hp.1 d (va_cpy (hp.1 o) (hp.1 d) sp.toNatClampNeg dp.toNatClampNeg n.toNatClampNeg), hp.2)) (sh_lt hd) iv.2.2.1 (by
      unfold cellI
      rw [hd]
      show (H.setIfInBounds (base + d) cc)[base + d]? = some _
      rw [← hcc]
      simp [Array.getElem?_setIfInBounds, hlt, setR_eq]) (fun j hj => setR_ne _ _ hj) (fun _ _ => rfl) (by simp) (fun q hq => by simp [Array.getElem?_setIfInBounds, Ne.symm hq])) (fun q hq => by
      rcases List.mem_append.mp hq with h | h
      · exact hl q h
      · obtain ⟨z, -, hz⟩ := List.mem_map.mp h
        rw [← hz]
        exact Nat.le_add_right _ _) _ hheap X'
  exact ⟨t, step t a1, b1⟩
theorem chk_pl {i : Instr} {pc j : Nat} (h : (decide (decode bs pc = .ok (i, ilen i)) && (isRet i || decide (pcAt code (j + 1) = pc + ilen i))) = true) (hr : isRet i = false) : decode bs pc = .ok (i, ilen i) ∧ pcAt code (j + 1) = pc + ilen i := by
  rw [hr] at h
  simpa using h
end PRIM2
end
section
section PRIM3
variable {p : Program} {l : Launch} {e0 : Env} {rm : Room} {s : State} {m : MethodId} {args : Array Value} {below : List Frame} {meth : Method} {c : Code} {H : Heap} {locs : List Loc} {Q : State → Prop}
variable {sh : SH} {hp : HP} {base sb : Nat} {Hb : Heap} {D : va_G} {cI cF : ClassId} {ms : List ME} {y : MethodName} {bs : ByteArray} {nL : Nat} {code : List EI}
set_option maxHeartbeats 20000000 in
set_option maxRecDepth 100000 in
theorem prim_sound (hcl : ClOK) (hgl : GlOK) (fx : Fx p s m args meth c y bs nL D cI cF) {scr : Option (Nat × (Nat → Int32))} (sx : Sx s base sb Hb scr) {e : EI} {j : Nat} {L : List (Option Value)} {st : List Value} {cs sl : Nat} {q : CF} {ls : Array Slot}
    (hex : prim rm scr e j L st cs sl sh hp = some q) (hch : chkE bs code (pcAt code (j + 1)) e = true) (hlk : LinkOK ms y e.2.1 e.2.2.1 e.2.2.2.1) (iv : Iv base Hb D cI cF H sh hp) (hl : ∀ z ∈ locs, base ≤ z.base) (hL : LsOk base sb nL ls L)
    (kk : ∀ (H' : Heap) (locs' : List Loc) (ls' : Array Slot), Iv base Hb D cI cF H' q.2.2.2.2.2.1 q.2.2.2.2.2.2 → (∀ z ∈ locs', base ≤ z.base) → LsOk base sb nL ls' q.2.1 → W p l e0 rm s m args below meth c H' locs' q.2.2.2.1 q.2.2.2.2.1 Q (F0 m (pcAt code q.1) ls' (q.2.2.1.map (tr base sb)))) :
    W p l e0 rm s m args below meth c H locs cs sl Q (F0 m e.1 ls (st.map (tr base sb))) := by
  obtain ⟨pc, ins, a, b, ts⟩ := e
  have hx := fx.1
  have hb := fx.2.1
  have hts := fx.2.2.2.2.1
  have hown := fx.2.2.2.1
  dsimp only at hlk ⊢
  cases ins
  case iload_n k =>
    obtain ⟨hd, hn⟩ := chk_pl (code := code) (j := j) hch rfl
    dsimp only [ilen] at hd hn
    simp only [prim, Option.bind_eq_some_iff] at hex
    obtain ⟨x, hx1, hex⟩ := hex
    cases hex
    refine lv_iload_n hx hb hd rfl (hL.int hx1) ?_
    rw [← hn]
    exact kk H locs ls iv hl hL
  case iload k =>
    obtain ⟨hd, hn⟩ := chk_pl (code := code) (j := j) hch rfl
    dsimp only [ilen] at hd hn
    simp only [prim, Option.bind_eq_some_iff] at hex
    obtain ⟨x, hx1, hex⟩ := hex
    cases hex
    refine lv_iload hx hb hd (hL.int hx1) ?_
    rw [← hn]
    exact kk H locs ls iv hl hL
  case aload_n k =>
    obtain ⟨hd, hn⟩ := chk_pl (code := code) (j := j) hch rfl
    dsimp only [ilen] at hd hn
    simp only [prim, Option.bind_eq_some_iff] at hex
    obtain ⟨x, hx1, hex⟩ := hex
    cases hex
    refine lv_aload_n hx hb hd rfl (hL.rf hx1) ?_
    rw [← hn]
    exact kk H locs ls iv hl hL
  case aload k =>
    obtain ⟨hd, hn⟩ := chk_pl (code := code) (j := j) hch rfl
    dsimp only [ilen] at hd hn
    simp only [prim, Option.bind_eq_some_iff] at hex
    obtain ⟨x, hx1, hex⟩ := hex
    cases hex
    refine lv_aload hx hb hd (hL.rf hx1) ?_
    rw [← hn]
    exact kk H locs ls iv hl hL
  case istore_n k =>
    obtain ⟨hd, hn⟩ := chk_pl (code := code) (j := j) hch rfl
    dsimp only [ilen] at hd hn
    simp only [prim] at hex
    split at hex
    · rename_i x r
      split at hex
      · rename_i hk
        cases hex
        refine lv_istore_n hx hb hd rfl hL.has (by rw [← hL.1]; exact hk) rfl (fun ls' hl' => ?_)
        rw [← hn]
        exact kk H locs ls' iv hl (hL.set rfl hl')
      · cases hex
    · cases hex
  case istore k =>
    obtain ⟨hd, hn⟩ := chk_pl (code := code) (j := j) hch rfl
    dsimp only [ilen] at hd hn
    simp only [prim] at hex
    split at hex
    · rename_i x r
      split at hex
      · rename_i hk
        cases hex
        refine lv_istore hx hb hd hL.has (by rw [← hL.1]; exact hk) rfl (fun ls' hl' => ?_)
        rw [← hn]
        exact kk H locs ls' iv hl (hL.set rfl hl')
      · cases hex
    · cases hex
  case astore_n k =>
    obtain ⟨hd, hn⟩ := chk_pl (code := code) (j := j) hch rfl
    dsimp only [ilen] at hd hn
    simp only [prim] at hex
    split at hex
    · rename_i x r
      split at hex
      · rename_i hk
        cases hex
        refine lv_astore_n hx hb hd rfl hL.has (by rw [← hL.1]; exact hk) rfl (fun ls' hl' => ?_)
        rw [← hn]
        exact kk H locs ls' iv hl (hL.set rfl hl')
      · cases hex
    · cases hex
  case astore k =>
    obtain ⟨hd, hn⟩ := chk_pl (code := code) (j := j) hch rfl
    dsimp only [ilen] at hd hn
    simp only [prim] at hex
    split at hex
    · rename_i x r
      split at hex
      · rename_i hk
        cases hex
        refine lv_astore hx hb hd hL.has (by rw [← hL.1]; exact hk) rfl (fun ls' hl' => ?_)
        rw [← hn]
        exact kk H locs ls' iv hl (hL.set rfl hl')
      · cases hex
    · cases hex
  case iconst n =>
    obtain ⟨hd, hn⟩ := chk_pl (code := code) (j := j) hch rfl
    dsimp only [ilen] at hd hn
    simp only [prim] at hex
    cases hex
    refine lv_iconst hx hb hd rfl ?_
    rw [← hn]
    exact kk H locs ls iv hl hL
  case bipush n =>
    obtain ⟨hd, hn⟩ := chk_pl (code := code) (j := j) hch rfl
    dsimp only [ilen] at hd hn
    simp only [prim] at hex
    cases hex
    refine lv_bipush hx hb hd rfl ?_
    rw [← hn]
    exact kk H locs ls iv hl hL
  case sipush n =>
    obtain ⟨hd, hn⟩ := chk_pl (code := code) (j := j) hch rfl
    dsimp only [ilen] at hd hn
    simp only [prim] at hex
    cases hex
    refine lv_sipush hx hb hd rfl ?_
    rw [← hn]
    exact kk H locs ls iv hl hL
  case ldc n =>
    obtain ⟨hd, hn⟩ := chk_pl (code := code) (j := j) hch rfl
    dsimp only [ilen] at hd hn
    simp only [prim] at hex
    cases hex
    refine lv_ldc hx hb hown (hts _ hlk) hd ?_
    rw [← hn]
    exact kk H locs ls iv hl hL
  case ldc_w n =>
    obtain ⟨hd, hn⟩ := chk_pl (code := code) (j := j) hch rfl
    dsimp only [ilen] at hd hn
    simp only [prim] at hex
    cases hex
    refine lv_ldcw hx hb hown (hts _ hlk) hd ?_
    rw [← hn]
    exact kk H locs ls iv hl hL
  case iinc k n =>
    obtain ⟨hd, hn⟩ := chk_pl (code := code) (j := j) hch rfl
    dsimp only [ilen] at hd hn
    simp only [prim, Option.bind_eq_some_iff] at hex
    obtain ⟨x, hx1, hex⟩ := hex
    split at hex
    · rename_i hk
      cases hex
      have hv : L[k]? = some (some (.int x)) := by
        unfold locI at hx1
        split at hx1
        · rename_i z hz
          cases hx1
          exact hz
        · cases hx1
      obtain ⟨i, hi⟩ := List.getElem?_of_mem (lvOf_mem (base := base) (sb := sb) hv)
      refine lv_iinc hx hb hd hL.has hi rfl (by rw [← hL.1]; exact hk) rfl (fun ls' hl' => ?_)
      rw [← hn]
      exact kk H locs ls' iv hl (hL.set rfl hl')
    · cases hex
  case iadd =>
    obtain ⟨hd, hn⟩ := chk_pl (code := code) (j := j) hch rfl
    dsimp only [ilen] at hd hn
    simp only [prim] at hex
    split at hex
    · cases hex
      refine lv_iadd hx hb hd ?_
      rw [← hn]
      exact kk H locs ls iv hl hL
    · cases hex
  case isub =>
    obtain ⟨hd, hn⟩ := chk_pl (code := code) (j := j) hch rfl
    dsimp only [ilen] at hd hn
    simp only [prim] at hex
    split at hex
    · cases hex
      refine lv_isub hx hb hd ?_
      rw [← hn]
      exact kk H locs ls iv hl hL
    · cases hex
  case imul =>
    obtain ⟨hd, hn⟩ := chk_pl (code := code) (j := j) hch rfl
    dsimp only [ilen] at hd hn
    simp only [prim] at hex
    split at hex
    · cases hex
      refine lv_imul hx hb hd ?_
      rw [← hn]
      exact kk H locs ls iv hl hL
    · cases hex
  case iand =>
    obtain ⟨hd, hn⟩ := chk_pl (code := code) (j := j) hch rfl
    dsimp only [ilen] at hd hn
    simp only [prim] at hex
    split at hex
    · cases hex
      refine lv_iand hx hb hd ?_
      rw [← hn]
      exact kk H locs ls iv hl hL
    · cases hex
  case ior =>
    obtain ⟨hd, hn⟩ := chk_pl (code := code) (j := j) hch rfl
    dsimp only [ilen] at hd hn
    simp only [prim] at hex
    split at hex
    · cases hex
      refine lv_ior hx hb hd ?_
      rw [← hn]
      exact kk H locs ls iv hl hL
    · cases hex
  case ixor =>
    obtain ⟨hd, hn⟩ := chk_pl (code := code) (j := j) hch rfl
    dsimp only [ilen] at hd hn
    simp only [prim] at hex
    split at hex
    · cases hex
      refine lv_ixor hx hb hd ?_
      rw [← hn]
      exact kk H locs ls iv hl hL
    · cases hex
  case ishl =>
    obtain ⟨hd, hn⟩ := chk_pl (code := code) (j := j) hch rfl
    dsimp only [ilen] at hd hn
    simp only [prim] at hex
    split at hex
    · cases hex
      refine lv_ishl hx hb hd ?_
      rw [← hn]
      exact kk H locs ls iv hl hL
    · cases hex
  case ishr =>
    obtain ⟨hd, hn⟩ := chk_pl (code := code) (j := j) hch rfl
    dsimp only [ilen] at hd hn
    simp only [prim] at hex
    split at hex
    · cases hex
      refine lv_ishr hx hb hd ?_
      rw [← hn]
      exact kk H locs ls iv hl hL
    · cases hex
  case iushr =>
    obtain ⟨hd, hn⟩ := chk_pl (code := code) (j := j) hch rfl
    dsimp only [ilen] at hd hn
    simp only [prim] at hex
    split at hex
    · cases hex
      refine lv_iushr hx hb hd rfl ?_
      rw [← hn]
      exact kk H locs ls iv hl hL
    · cases hex
  case ineg =>
    obtain ⟨hd, hn⟩ := chk_pl (code := code) (j := j) hch rfl
    dsimp only [ilen] at hd hn
    simp only [prim] at hex
    split at hex
    · cases hex
      refine lv_ineg hx hb hd ?_
      rw [← hn]
      exact kk H locs ls iv hl hL
    · cases hex
  case idiv =>
    obtain ⟨hd, hn⟩ := chk_pl (code := code) (j := j) hch rfl
    dsimp only [ilen] at hd hn
    simp only [prim] at hex
    split at hex
    · split at hex
      · cases hex
      · rename_i hne
        cases hex
        refine lv_idiv hx hb hd hne ?_
        rw [← hn]
        exact kk H locs ls iv hl hL
    · cases hex
  case irem =>
    obtain ⟨hd, hn⟩ := chk_pl (code := code) (j := j) hch rfl
    dsimp only [ilen] at hd hn
    simp only [prim] at hex
    split at hex
    · split at hex
      · cases hex
      · rename_i hne
        cases hex
        refine lv_irem hx hb hd hne ?_
        rw [← hn]
        exact kk H locs ls iv hl hL
    · cases hex
  case dup =>
    obtain ⟨hd, hn⟩ := chk_pl (code := code) (j := j) hch rfl
    dsimp only [ilen] at hd hn
    simp only [prim] at hex
    split at hex
    · cases hex
      refine lv_dup hx hb hd rfl ?_
      rw [← hn]
      exact kk H locs ls iv hl hL
    · cases hex
      refine lv_dup hx hb hd rfl ?_
      rw [← hn]
      exact kk H locs ls iv hl hL
    · cases hex
  case dup2 =>
    obtain ⟨hd, hn⟩ := chk_pl (code := code) (j := j) hch rfl
    dsimp only [ilen] at hd hn
    simp only [prim] at hex
    split at hex
    · cases hex
      refine lv_dup2_11 hx hb hd rfl rfl ?_
      rw [← hn]
      exact kk H locs ls iv hl hL
    · cases hex
  case pop =>
    obtain ⟨hd, hn⟩ := chk_pl (code := code) (j := j) hch rfl
    dsimp only [ilen] at hd hn
    simp only [prim] at hex
    split at hex
    · cases hex
      refine lv_pop hx hb hd rfl ?_
      rw [← hn]
      exact kk H locs ls iv hl hL
    · cases hex
      refine lv_pop hx hb hd rfl ?_
      rw [← hn]
      exact kk H locs ls iv hl hL
    · cases hex
  case goto off =>
    simp only [chkE, Bool.and_eq_true, decide_eq_true_eq] at hch
    obtain ⟨hd, ht⟩ := hch
    simp only [prim] at hex
    cases hex
    exact lv_goto hx hb hd ht (kk H locs ls iv hl hL)
  case ifCond cnd0 off =>
    simp only [chkE, Bool.and_eq_true, decide_eq_true_eq] at hch
    obtain ⟨⟨hd, ht⟩, hn⟩ := hch
    simp only [prim] at hex
    split at hex
    · cases hex
      cases cnd0
      case eq =>
        refine lv_if_eq hx hb hd ht (fun hc => ?_) (fun hc => ?_)
        · have k := kk H locs ls iv hl hL
          simp only [cnd, hc, decide_true, if_true, not_true_eq_false, not_false_eq_true] at k
          exact k
        · have k := kk H locs ls iv hl hL
          simp only [cnd, hc, decide_false, Bool.false_eq_true, if_false, not_true_eq_false, not_false_eq_true, hn] at k
          exact k
      case ne =>
        refine lv_if_ne hx hb hd ht (fun hc => ?_) (fun hc => ?_)
        · have k := kk H locs ls iv hl hL
          simp only [cnd, hc, decide_true, if_true, not_true_eq_false, not_false_eq_true] at k
          exact k
        · have k := kk H locs ls iv hl hL
          simp only [cnd, hc, decide_false, Bool.false_eq_true, if_false, not_true_eq_false, not_false_eq_true, hn] at k
          exact k
      case lt =>
        refine lv_if_lt hx hb hd ht (fun hc => ?_) (fun hc => ?_)
        · have k := kk H locs ls iv hl hL
          simp only [cnd, hc, decide_true, if_true, not_true_eq_false, not_false_eq_true] at k
          exact k
        · have k := kk H locs ls iv hl hL
          simp only [cnd, hc, decide_false, Bool.false_eq_true, if_false, not_true_eq_false, not_false_eq_true, hn] at k
          exact k
      case ge =>
        refine lv_if_ge hx hb hd ht (fun hc => ?_) (fun hc => ?_)
        · have k := kk H locs ls iv hl hL
          simp only [cnd, hc, decide_true, if_true, not_true_eq_false, not_false_eq_true] at k
          exact k
        · have k := kk H locs ls iv hl hL
          simp only [cnd, hc, decide_false, Bool.false_eq_true, if_false, not_true_eq_false, not_false_eq_true, hn] at k
          exact k
      case gt =>
        refine lv_if_gt hx hb hd ht (fun hc => ?_) (fun hc => ?_)
        · have k := kk H locs ls iv hl hL
          simp only [cnd, hc, decide_true, if_true, not_true_eq_false, not_false_eq_true] at k
          exact k
        · have k := kk H locs ls iv hl hL
          simp only [cnd, hc, decide_false, Bool.false_eq_true, if_false, not_true_eq_false, not_false_eq_true, hn] at k
          exact k
      case le =>
        refine lv_if_le hx hb hd ht (fun hc => ?_) (fun hc => ?_)
        · have k := kk H locs ls iv hl hL
          simp only [cnd, hc, decide_true, if_true, not_true_eq_false, not_false_eq_true] at k
          exact k
        · have k := kk H locs ls iv hl hL
          simp only [cnd, hc, decide_false, Bool.false_eq_true, if_false, not_true_eq_false, not_false_eq_true, hn] at k
          exact k
    · cases hex
  case if_icmp cnd0 off =>
    simp only [chkE, Bool.and_eq_true, decide_eq_true_eq] at hch
    obtain ⟨⟨hd, ht⟩, hn⟩ := hch
    simp only [prim] at hex
    split at hex
    · cases hex
      cases cnd0
      case eq =>
        refine lv_icmp_eq hx hb hd ht (fun hc => ?_) (fun hc => ?_)
        · have k := kk H locs ls iv hl hL
          simp only [cnd, hc, decide_true, if_true, not_true_eq_false, not_false_eq_true] at k
          exact k
        · have k := kk H locs ls iv hl hL
          simp only [cnd, hc, decide_false, Bool.false_eq_true, if_false, not_true_eq_false, not_false_eq_true, hn] at k
          exact k
      case ne =>
        refine lv_icmp_ne hx hb hd ht (fun hc => ?_) (fun hc => ?_)
        · have k := kk H locs ls iv hl hL
          simp only [cnd, hc, decide_true, if_true, not_true_eq_false, not_false_eq_true] at k
          exact k
        · have k := kk H locs ls iv hl hL
          simp only [cnd, hc, decide_false, Bool.false_eq_true, if_false, not_true_eq_false, not_false_eq_true, hn] at k
          exact k
      case lt =>
        refine lv_icmp_lt hx hb hd ht (fun hc => ?_) (fun hc => ?_)
        · have k := kk H locs ls iv hl hL
          simp only [cnd, hc, decide_true, if_true, not_true_eq_false, not_false_eq_true] at k
          exact k
        · have k := kk H locs ls iv hl hL
          simp only [cnd, hc, decide_false, Bool.false_eq_true, if_false, not_true_eq_false, not_false_eq_true, hn] at k
          exact k
      case ge =>
        refine lv_icmp_ge hx hb hd ht (fun hc => ?_) (fun hc => ?_)
        · have k := kk H locs ls iv hl hL
          simp only [cnd, hc, decide_true, if_true, not_true_eq_false, not_false_eq_true] at k
          exact k
        · have k := kk H locs ls iv hl hL
          simp only [cnd, hc, decide_false, Bool.false_eq_true, if_false, not_true_eq_false, not_false_eq_true, hn] at k
          exact k
      case gt =>
        refine lv_icmp_gt hx hb hd ht (fun hc => ?_) (fun hc => ?_)
        · have k := kk H locs ls iv hl hL
          simp only [cnd, hc, decide_true, if_true, not_true_eq_false, not_false_eq_true] at k
          exact k
        · have k := kk H locs ls iv hl hL
          simp only [cnd, hc, decide_false, Bool.false_eq_true, if_false, not_true_eq_false, not_false_eq_true, hn] at k
          exact k
      case le =>
        refine lv_icmp_le hx hb hd ht (fun hc => ?_) (fun hc => ?_)
        · have k := kk H locs ls iv hl hL
          simp only [cnd, hc, decide_true, if_true, not_true_eq_false, not_false_eq_true] at k
          exact k
        · have k := kk H locs ls iv hl hL
          simp only [cnd, hc, decide_false, Bool.false_eq_true, if_false, not_true_eq_false, not_false_eq_true, hn] at k
          exact k
    · cases hex
  case tableswitch d lo hi offs =>
    simp only [chkE, Bool.and_eq_true, decide_eq_true_eq] at hch
    obtain ⟨⟨hd0, hlo, hsz⟩, ht⟩ := hch
    have hd : ∃ len, decode bs pc = .ok (.tableswitch d lo hi offs, len) := by
      split at hd0
      · rename_i z hz
        exact ⟨z.2, by rw [hz]; rw [← of_decide_eq_true hd0]⟩
      · cases hd0
    obtain ⟨len, hd⟩ := hd
    simp only [prim] at hex
    split at hex
    · rename_i x r
      simp only [Option.bind_eq_some_iff] at hex
      obtain ⟨t, ht1, hex⟩ := hex
      cases hex
      unfold switchTo at ht1
      have hat : ∀ (k t : Nat), ts[k]? = some t → (d :: offs.toList)[k]?.map (fun o => (pc : Int) + o) = some (pcAt code t : Int) := by
        intro k t h
        have := congrArg (fun z => z[k]?) ht
        simp only [List.getElem?_map] at this
        rw [this, h]
        rfl
      split at ht1
      · rename_i hout
        have := hat _ _ ht1
        simp only [List.getElem?_cons_zero, Option.map_some, Option.some.injEq] at this
        exact lv_tableOut hx hb hd hout this (kk H locs ls iv hl hL)
      · rename_i hin
        have h2 := hat _ _ ht1
        rw [List.getElem?_cons_succ] at h2
        simp only [Option.map_eq_some_iff] at h2
        obtain ⟨off, ho, h3⟩ := h2
        exact lv_tableIn hx hb hd (fun z => hin (Or.inl z)) (fun z => hin (Or.inr z)) (by rw [← Array.getElem?_toList]; exact ho) h3 (kk H locs ls iv hl hL)
    · cases hex
  case lookupswitch d ps =>
    simp only [chkE, Bool.and_eq_true, decide_eq_true_eq] at hch
    obtain ⟨⟨hd0, hso⟩, ht⟩ := hch
    have hd : ∃ len, decode bs pc = .ok (.lookupswitch d ps, len) := by
      split at hd0
      · rename_i z hz
        exact ⟨z.2, by rw [hz]; rw [← of_decide_eq_true hd0]⟩
      · cases hd0
    obtain ⟨len, hd⟩ := hd
    simp only [prim] at hex
    split at hex
    · rename_i x r
      simp only [Option.bind_eq_some_iff] at hex
      obtain ⟨t, ht1, hex⟩ := hex
      cases hex
      exact lv_lookup hx hb hd hso rfl (lk_to ht ht1) (kk H locs ls iv hl hL)
    · cases hex
  case getfield idx =>
    obtain ⟨hd, hn⟩ := chk_pl (code := code) (j := j) hch rfl
    dsimp only [ilen] at hd hn
    simp only [prim] at hex
    split at hex
    · rename_i o r
      split at hex
      · rename_i ho
        cases hex
        show W p l e0 rm s m args below meth c H locs cs sl Q (F0 m pc ls (tr base sb (.ref o) :: r.map (tr base sb)))
        rw [tr_ref ho.2]
        refine s_get hcl fx iv ho.1 hlk hd ?_
        rw [← hn, ← tr_fval (sb := sb) iv.2.2.1]
        exact kk H locs ls iv hl hL
      · cases hex
    · cases hex
  case putfield idx =>
    obtain ⟨hd, hn⟩ := chk_pl (code := code) (j := j) hch rfl
    dsimp only [ilen] at hd hn
    simp only [prim] at hex
    split at hex
    · rename_i v o r
      split at hex
      · rename_i ho
        cases hex
        show W p l e0 rm s m args below meth c H locs cs sl Q (F0 m pc ls (.int v :: tr base sb (.ref o) :: r.map (tr base sb)))
        rw [tr_ref ho.1.2]
        refine s_put (hp' := (setR hp.1 o (upd (hp.1 o) b v), hp.2)) hcl fx iv ho.1.1 hlk.1 hlk.2 hd ?_ hl iv.2.2.1 (fun i hi => setR_ne _ _ hi) (fun _ _ => rfl) ?_ (fun H' locs' iv' hl' => ?_)
        · rcases ho.2 with h | ⟨h, rfl | rfl⟩
          · exact Or.inl ⟨h, v, rfl⟩
          · exact Or.inr (Or.inl ⟨h, Or.inl rfl⟩)
          · exact Or.inr (Or.inl ⟨h, Or.inr rfl⟩)
        · intro k
          simp only [fvl, setR_eq, updV, upd]
          by_cases hkb : k = b
          · subst hkb
            rw [if_neg (by rcases ho.2 with h | ⟨h, -⟩ <;> omega)]
            simp
          · simp [hkb]
        · rw [← hn]
          exact kk H' locs' ls iv' hl' hL
      · cases hex
    · rename_i v o r
      split at hex
      · rename_i ho
        cases hex
        show W p l e0 rm s m args below meth c H locs cs sl Q (F0 m pc ls (tr base sb (.ref v) :: tr base sb (.ref o) :: r.map (tr base sb)))
        rw [tr_ref ho.1.2, tr_ref ho.2.2]
        refine s_put (hp' := (hp.1, setR hp.2 o (va_up (hp.2 o) b (some v)))) hcl fx iv ho.1.1 hlk.1 hlk.2 hd ?_ hl (noS_setR iv.2.2.1 (noS_up iv.2.2.1 ho.2.2) _) (fun _ _ => rfl) (fun i hi => setR_ne _ _ hi) ?_ (fun H' locs' iv' hl' => ?_)
        · exact Or.inr (Or.inr ⟨ho.2.1, _, rfl⟩)
        · intro k
          simp only [fvl, setR_eq, updV, va_up]
          by_cases hkb : k = b
          · subst hkb
            simp [ho.2.1, trv, va_rf]
          · simp [hkb]
        · rw [← hn]
          exact kk H' locs' ls iv' hl' hL
      · cases hex
    · cases hex
  case new idx =>
    obtain ⟨hd, hn⟩ := chk_pl (code := code) (j := j) hch rfl
    dsimp only [ilen] at hd hn
    simp only [prim] at hex
    split at hex
    · rename_i hc
      cases hex
      refine s_new hcl fx iv hlk hc.2.2 hc.1 hc.2.1 hd (fun H' iv' => ?_)
      rw [← hn, ← tr_ref (sb := sb) (Nat.ne_of_lt hc.2.2)]
      exact kk H' locs ls iv' hl hL
    · cases hex
  case newarray aty =>
    obtain ⟨hd, hn⟩ := chk_pl (code := code) (j := j) hch rfl
    dsimp only [ilen] at hd hn
    simp only [prim] at hex
    have haty : aty = .int := hlk
    subst haty
    split at hex
    · split at hex
      · rename_i hc
        cases hex
        refine s_newa hgl fx iv hc.1 hc.2.1 hc.2.2.2.2 hc.2.2.1 hc.2.2.2.1 hd (fun H' iv' => ?_)
        rw [← hn, ← tr_ref (sb := sb) (Nat.ne_of_lt hc.2.2.2.2)]
        exact kk H' locs ls iv' hl hL
      · cases hex
    · cases hex
  case anewarray idx =>
    obtain ⟨hd, hn⟩ := chk_pl (code := code) (j := j) hch rfl
    dsimp only [ilen] at hd hn
    simp only [prim] at hex
    split at hex
    · split at hex
      · rename_i hc
        cases hex
        refine s_newr hgl fx iv hlk hc.1 hc.2.1 hc.2.2.2.2 hc.2.2.1 hc.2.2.2.1 hd (fun H' iv' => ?_)
        rw [← hn, ← tr_ref (sb := sb) (Nat.ne_of_lt hc.2.2.2.2)]
        exact kk H' locs ls iv' hl hL
      · cases hex
    · cases hex
  case iaload =>
    obtain ⟨hd, hn⟩ := chk_pl (code := code) (j := j) hch rfl
    dsimp only [ilen] at hd hn
    simp only [prim] at hex
    split at hex
    · rename_i i o r
      show W p l e0 rm s m args below meth c H locs cs sl Q (F0 m pc ls (.int i :: tr base sb (.ref o) :: r.map (tr base sb)))
      split at hex
      · rename_i hoS
        simp only [Option.bind_eq_some_iff] at hex
        obtain ⟨z, hz, hex⟩ := hex
        split at hex
        · rename_i hin
          cases hex
          obtain ⟨⟨scell, h1, h2, h3, h4, h5⟩, hsb⟩ := sx _ hz
          rw [show tr base sb (.ref o) = .ref sb from by rw [hoS]; simp [tr]]
          refine W.iald (v := .int (z.2 i.toNatClampNeg)) hx hb (by rw [iv.2.2.2.2 _ hsb]; exact h1) h2 h3 (by rw [h4]; exact hin) (h5 _ (Nat.not_le.mp fun w => hin (Or.inr w))) rfl rfl hd ?_
          have k := kk H locs ls iv hl hL
          rw [hn] at k
          exact k
        · cases hex
      · rename_i hoS
        split at hex
        · rename_i n ho
          split at hex
          · rename_i hin
            cases hex
            rw [tr_ref hoS]
            refine W.iald (v := .int (hp.1 o i.toNatClampNeg)) hx hb (cell_int (iv.2.2.2.1 o (sh_lt ho)) ho) ((fx.2.2.2.2.2.1.2 0 _ rfl).1 n _) (fun w => by cases w) (by show ¬ (i < 0 ∨ (arrV _ _ _).slots.size ≤ _); rw [arrV_size]; exact hin) (by show (arrV _ _ _).slots[_]? = _; rw [arrV_read _ _ (Nat.not_le.mp fun w => hin (Or.inr w))]) rfl rfl hd ?_
            have k := kk H locs ls iv hl hL
            rw [hn] at k
            exact k
          · cases hex
        · cases hex
    · cases hex
  case iastore =>
    obtain ⟨hd, hn⟩ := chk_pl (code := code) (j := j) hch rfl
    dsimp only [ilen] at hd hn
    simp only [prim] at hex
    split at hex
    · rename_i x i o r
      split at hex
      · cases hex
      · rename_i hoS
        split at hex
        · rename_i n ho
          split at hex
          · rename_i hin
            cases hex
            show W p l e0 rm s m args below meth c H locs cs sl Q (F0 m pc ls (.int x :: .int i :: tr base sb (.ref o) :: r.map (tr base sb)))
            rw [tr_ref hoS]
            refine s_iast fx iv ho hin hd hl (fun H' locs' iv' hl' => ?_)
            rw [← hn]
            exact kk H' locs' ls iv' hl' hL
          · cases hex
        · cases hex
    · cases hex
  case aaload =>
    obtain ⟨hd, hn⟩ := chk_pl (code := code) (j := j) hch rfl
    dsimp only [ilen] at hd hn
    simp only [prim] at hex
    split at hex
    · rename_i i o r
      split at hex
      · cases hex
      · rename_i hoS
        split at hex
        · rename_i n ho
          split at hex
          · rename_i hin
            cases hex
            show W p l e0 rm s m args below meth c H locs cs sl Q (F0 m pc ls (.int i :: tr base sb (.ref o) :: r.map (tr base sb)))
            rw [tr_ref hoS]
            refine W.aald (v := trv base (hp.2 o i.toNatClampNeg)) (ty := .object RX0) hx hb (cell_ref (iv.2.2.2.1 o (sh_lt ho)) ho) ((fx.2.2.2.2.2.1.2 1 _ rfl).1 n _) rfl (fun w => by cases w) (by show ¬ (i < 0 ∨ (arrV _ _ _).slots.size ≤ _); rw [arrV_size]; exact hin) (by show (arrV _ _ _).slots[_]? = _; rw [arrV_read _ _ (Nat.not_le.mp fun w => hin (Or.inr w))]) rfl rfl hd ?_
            have k := kk H locs ls iv hl hL
            rw [hn] at k
            rw [← tr_rv base sb _ (iv.2.2.1 _ _)]
            exact k
          · cases hex
        · cases hex
    · cases hex
  case aastore =>
    obtain ⟨hd, hn⟩ := chk_pl (code := code) (j := j) hch rfl
    dsimp only [ilen] at hd hn
    simp only [prim] at hex
    split at hex
    · rename_i v i o r
      split at hex
      · cases hex
      · rename_i hoS
        have h1 : ¬ o = SCR := fun w => hoS (Or.inl w)
        have h2 : ¬ v = SCR := fun w => hoS (Or.inr (Or.inl w))
        have h3 : sh[v]? = some (0, 0) := Decidable.byContradiction fun w => hoS (Or.inr (Or.inr w))
        split at hex
        · rename_i n ho
          split at hex
          · rename_i hin
            cases hex
            show W p l e0 rm s m args below meth c H locs cs sl Q (F0 m pc ls (tr base sb (.ref v) :: .int i :: tr base sb (.ref o) :: r.map (tr base sb)))
            rw [tr_ref h1, tr_ref h2]
            refine s_aast fx iv ho h3 h2 hin hd hl (fun H' locs' iv' hl' => ?_)
            rw [← hn]
            exact kk H' locs' ls iv' hl' hL
          · cases hex
        · cases hex
    · cases hex
  case arraylength =>
    obtain ⟨hd, hn⟩ := chk_pl (code := code) (j := j) hch rfl
    dsimp only [ilen] at hd hn
    simp only [prim] at hex
    split at hex
    · rename_i o r
      show W p l e0 rm s m args below meth c H locs cs sl Q (F0 m pc ls (tr base sb (.ref o) :: r.map (tr base sb)))
      split at hex
      · rename_i hoS
        simp only [Option.bind_eq_some_iff] at hex
        obtain ⟨z, hz, hex⟩ := hex
        cases hex
        obtain ⟨⟨scell, h1, h2, h3, h4, h5⟩, hsb⟩ := sx _ hz
        rw [show tr base sb (.ref o) = .ref sb from by rw [hoS]; simp [tr]]
        refine W.alen (n := Int32.ofNat z.1) hx hb (by rw [iv.2.2.2.2 _ hsb]; exact h1) h2 (by rw [h4] <;> rfl) rfl rfl hd ?_
        have k := kk H locs ls iv hl hL
        rw [hn] at k
        exact k
      · rename_i hoS
        rw [tr_ref hoS]
        split at hex
        · rename_i n ho
          cases hex
          refine W.alen (n := Int32.ofNat n) hx hb (cell_int (iv.2.2.2.1 o (sh_lt ho)) ho) ((fx.2.2.2.2.2.1.2 0 _ rfl).1 n _) (by rw [arrV_size] <;> rfl) rfl rfl hd ?_
          have k := kk H locs ls iv hl hL
          rw [hn] at k
          exact k
        · rename_i n ho
          cases hex
          refine W.alen (n := Int32.ofNat n) hx hb (cell_ref (iv.2.2.2.1 o (sh_lt ho)) ho) ((fx.2.2.2.2.2.1.2 1 _ rfl).1 n _) (by rw [arrV_size] <;> rfl) rfl rfl hd ?_
          have k := kk H locs ls iv hl hL
          rw [hn] at k
          exact k
        · cases hex
    · cases hex
  case invokespecial idx =>
    obtain ⟨hd, hn⟩ := chk_pl (code := code) (j := j) hch rfl
    dsimp only [ilen] at hd hn
    simp only [prim] at hex
    split at hex
    · rename_i o r
      split at hex
      · rename_i hc
        cases hex
        refine W.objInit hx hb hown (hts _ (hlk.1 hc.1)) (hts _ hgl.2.2.1) (hts _ hgl.2.2.2.1) rfl (by rw [fx.2.2.1]; exact hL.2.1) rfl hd hc.2.1 (by
          have := tr_sum base sb r
          show 2 * 0 + ((r.map (tr base sb)).map fun v => v.category).sum + 12 ≤ _
          omega) ?_
        have k := kk H locs ls iv hl hL
        rw [hn] at k
        exact k
      · cases hex
    · cases hex
  case invokestatic idx =>
    obtain ⟨hd, hn⟩ := chk_pl (code := code) (j := j) hch rfl
    dsimp only [ilen] at hd hn
    simp only [prim] at hex
    split at hex
    · rename_i n dp d sp o r
      split at hex
      · rename_i n0 n1 ho hd1
        split at hex
        · rename_i hc
          cases hex
          show W p l e0 rm s m args below meth c H locs cs sl Q (F0 m pc ls (.int n :: .int dp :: tr base sb (.ref d) :: .int sp :: tr base sb (.ref o) :: r.map (tr base sb)))
          rw [tr_ref hc.2.1.1, tr_ref hc.2.1.2]
          refine s_copy hgl fx iv (hlk.1 hc.1) hL.2.1 ho hd1 hc.2.2.1 hc.2.2.2.1 hc.2.2.2.2.1 hc.2.2.2.2.2.1 hc.2.2.2.2.2.2.1 hc.2.2.2.2.2.2.2.1 (by rw [tr_sum]; exact hc.2.2.2.2.2.2.2.2) hd hl (fun H' locs' iv' hl' => ?_)
          rw [← hn]
          exact kk H' locs' ls iv' hl' hL
        · cases hex
      · cases hex
    · cases hex
  all_goals (simp only [prim] at hex; cases hex)
end PRIM3
end
section
/-! METHODS: a run of the abstract machine is a run of the machine -/
abbrev mWs (me : ME) : List Cond := Cond.code (mName me) (mBytes me) (mLoc me) (mRet me) :: tbG
def MeOK (ms : List ME) (me : ME) : Prop := chkC (mBytes me) (mCode me) ∧ (∀ e ∈ mCode me, LinkOK ms (mName me) e.2.1 e.2.2.1 e.2.2.2.1) ∧ Cond.code (mName me) (mBytes me) (mLoc me) (mRet me) ∈ tbG ∧ plainName (mName me).cls = true ∧
  ((mName me).cls ≠ "java/lang/invoke/MethodHandle" ∧ (mName me).cls ≠ "java/lang/invoke/VarHandle") ∧ (∃ np, (parseMethodDescriptor (mName me).desc).map (fun d => d.parameters.length) = some np ∧ mArgs me = if mCls me = 99 then np else np + 1) ∧
  (¬ mCls me = 99 → (vwCl[mCls me]?).map (·.1) = some (mName me).cls)
def BodyOK (ms : List ME) (me : ME) : Prop := chkC (mBytes me) (mCode me) ∧ ∀ e ∈ mCode me, LinkOK ms (mName me) e.2.1 e.2.2.1 e.2.2.2.1
def va_KK (D : va_G) (cI cF : ClassId) (U : State) : Prop := va_K D vwCl [(cI, .int), (cF, .object RX0)] U
def Ct (l : Launch) (base sb : Nat) (Hb : Heap) (D : va_G) (cI cF : ClassId) (me : ME) (as : List Value) (sh : SH) (hp : HP) (res : RS) : Prop :=
  Met l (mName me) (mWs me) (mRoom me) (va_Pc (as.map (tr base sb)) (fun U => Iv base Hb D cI cF U.heap sh hp ∧ va_KK D cI cF U ∧ Nw U)) (fun _ _ o t => o = .returned (res.1.map (tr base sb)) ∧ Iv base Hb D cI cF t.heap res.2.2.2.1 res.2.2.2.2) (mRoom me).cells (mRoom me).slots (fun q => base ≤ q)
section RUN
variable {p : Program} {l : Launch} {e0 : Env} {rm : Room} {s : State} {m : MethodId} {args : Array Value} {below : List Frame} {meth : Method} {c : Code} {H : Heap} {locs : List Loc} {Q : State → Prop} {cells slots mc mss : Nat}
theorem my_call {rv : Option Value} {P : Heap → Prop} {free : Addr → Prop} {g : JFrame} {rest : List Value} (hr : va_Run p l e0 rm s m args below meth c H locs cells slots mc mss g rest (fun _ o t => o = .returned rv ∧ P t.heap) free)
    (kk : ∀ (H1 : Heap) (locs1 : List Loc), P H1 → (∀ z ∈ locs1, z ∈ locs ∨ free z.base) → W p l e0 rm s m args below meth c H1 locs1 (cells + mc) (slots + mss) Q { g with pc := g.pc + 3, stack := rv.toList ++ rest }) : W p l e0 rm s m args below meth c H locs cells slots Q g := by
  intro T hT X
  obtain ⟨v, st₀, t, T', L, h0, X', hL, e1, e2, ⟨ho, hP⟩, st⟩ := hr T hT X
  cases ho
  obtain ⟨t2, a1, b1⟩ := kk T'.heap (locs ++ L) (by rw [e1]; exact hP) (fun z hz => (List.mem_append.mp hz).imp id (hL z)) T' rfl X'
  exact ⟨t2, st t2 a1, b1⟩
theorem ct_blind (base sb : Nat) (Hb : Heap) (D : va_G) (cI cF : ClassId) (as : List Value) (sh : SH) (hp : HP) : FrameBlind (va_Pc (as.map (tr base sb)) (fun U => Iv base Hb D cI cF U.heap sh hp ∧ va_KK D cI cF U ∧ Nw U)) := by
  intro a U g mk q
  obtain ⟨q1, q2, q3, q4⟩ := q
  exact ⟨q1, q2, va_K.moved (u := U) (U := U.calling g mk a) (Vm.Alike.refl U.vm) q3, Nw.same (U := U.calling g mk a) rfl q4⟩
theorem pc_at {code : List EI} {j : Nat} {e : EI} (h : code[j]? = some e) : pcAt code j = e.1 := by
  unfold pcAt
  rw [h]
theorem chk_at {bs : ByteArray} {code : List EI} (h : chkC bs code) {j : Nat} {e : EI} (hj : code[j]? = some e) : chkE bs code (pcAt code (j + 1)) e = true := h.2 j e hj
theorem ls_entry {base sb : Nat} {as : List Value} {n : Nat} (hc : ∀ v ∈ as, v.category = 1) (hn : as.length ≤ n) : LsOk base sb n ((lg_sl (as.map (tr base sb)) ++ List.replicate (n - (lg_sl (as.map (tr base sb))).length) Slot.unset).toArray) (as.map some ++ List.replicate (n - as.length) none) := by
  have hsl : lg_sl (as.map (tr base sb)) = as.map (fun v => Slot.val (tr base sb v)) := by
    clear hn
    induction as with
    | nil => rfl
    | cons v vs ih =>
      have hv : (tr base sb v).category = 1 := by rw [tr_cat]; exact hc v List.mem_cons_self
      have ih' := ih (fun w hw => hc w (List.mem_cons_of_mem _ hw))
      simp only [lg_sl, List.map_cons, List.flatMap_cons, hv] at ih' ⊢
      rw [ih']
      rfl
  have hlen : (lg_sl (as.map (tr base sb))).length = as.length := by rw [hsl, List.length_map]
  have he := lv_entry (as.map (tr base sb)) (n := n) (by rw [hlen]; exact hn)
  refine ⟨by simp; omega, he.1, he.2.1, fun i v hi => ?_⟩
  by_cases hil : i < as.length
  · rw [List.getElem?_append_left (by rw [List.length_map]; exact hil), List.getElem?_map] at hi
    obtain ⟨w, hw, hwv⟩ := Option.map_eq_some_iff.mp hi
    cases hwv
    refine ⟨?_, hc _ (List.mem_of_getElem? hw)⟩
    rw [hsl]
    have e := (List.getElem?_eq_some_iff.mp hw).2
    simp [hil, List.getElem?_append_left, e]
  · rw [List.getElem?_append_right (by rw [List.length_map]; omega), List.getElem?_replicate] at hi
    split at hi <;> cases hi
end RUN
end
section
section RUN2
variable {p : Program} {l : Launch} {e0 : Env} {rm : Room} {s : State} {m : MethodId} {args : Array Value} {below : List Frame} {meth : Method} {c : Code} {H : Heap} {locs : List Loc} {Q : State → Prop} {cells slots mc mss : Nat}
variable {sh : SH} {hp : HP} {base sb : Nat} {Hb : Heap} {D : va_G} {cI cF : ClassId} {ms : List ME}
/-- a contract's words, out of the tables -/
theorem ws_warm (hts : ∀ w ∈ tbG, w.before args s = true) {me : ME} (hc : Cond.code (mName me) (mBytes me) (mLoc me) (mRet me) ∈ tbG) : ∀ w ∈ mWs me, ∀ (a' : Array Value) (U : State), s.WarmedH U.vm → w.before a' U = true := by
  intro w hw a' U hW
  have hw2 : w ∈ tbG := by
    rcases List.mem_cons.mp hw with h | h
    · rw [h]; exact hc
    · exact h
  exact word_at hW (good_of_word (List.mem_filter.mp hw2).2) (hts w hw2)
set_option maxHeartbeats 4000000 in
/-- a contract's proof: the body's run -/
theorem ct_of {me : ME} {as : List Value} {res : RS} (ho : MeOK ms me) (hcat : ∀ v ∈ as, v.category = 1) (hlen : as.length = mArgs me) (hle : mArgs me ≤ mLoc me)
    (body : ∀ {p : Program} {e0 : Env} {s : State} {m : MethodId} {args : Array Value} {below : List Frame} {meth : Method} {c : Code} {H : Heap} {locs : List Loc} {Q : State → Prop} {ls : Array Slot}, Fx p s m args meth c (mName me) (mBytes me) (mLoc me) D cI cF → Iv base Hb D cI cF H sh hp → (∀ z ∈ locs, base ≤ z.base) →
      LsOk base sb (mLoc me) ls (as.map some ++ List.replicate (mLoc me - mArgs me) none) →
      (∀ (e : EI) (st' : List Value) (H' : Heap) (locs' : List Loc) (ls' : Array Slot), e ∈ mCode me → decode (mBytes me) e.1 = .ok (e.2.1, 1) → retTo (mRet me) (mRoom me) e.2.1 st' res.2.1 res.2.2.1 res.2.2.2.1 res.2.2.2.2 = some res → Iv base Hb D cI cF H' res.2.2.2.1 res.2.2.2.2 → (∀ z ∈ locs', base ≤ z.base) →
        W p l e0 (mRoom me) s m args below meth c H' locs' res.2.1 res.2.2.1 Q (F0 m e.1 ls' (st'.map (tr base sb)))) →
      W p l e0 (mRoom me) s m args below meth c H locs 0 0 Q (F0 m 0 ls [])) : Ct l base sb Hb D cI cF me as sh hp res := by
  unfold Ct
  refine Met.ofW (cc := mBytes me) (maxL := mLoc me) (ret := mRet me) ho.2.2.2.1 rfl ?_
  intro p e s m args below meth c s₁ B hml hv
  obtain ⟨rfl, hI, hK, hN⟩ := hv
  have hts := atoms_spec (ws := mWs me) B.pre
  have hown : s.vm.findClass (mName me).cls = some m.cls := findClass_of_methodNamed B.named
  have hlocks := B.notSynchronized
  have hr := B.returns
  have fx : Fx p s m (as.map (tr base sb)).toArray meth c (mName me) (mBytes me) (mLoc me) D cI cF := ⟨B.exec, B.bytes, hml, hown, fun w hw => hts w (List.mem_cons_of_mem _ hw), hK, fun h => (name_of_methodNamed B.named B.method).1.trans h, hN⟩
  rw [lg_entry_eq]
  refine body fx hI (fun z hz => by cases hz) (by rw [← hlen]; exact ls_entry hcat (by omega)) ?_
  intro e st' H' locs' ls' he hde hret hI' hl'
  unfold retTo at hret
  split at hret
  · rename_i hle2
    refine W.widen (k := (mRoom me).cells) (n := (mRoom me).slots) hle2.1 hle2.2 ?_
    split at hret
    · rename_i v hi
      split at hret
      · rename_i hty
        rw [hi] at hde
        rcases hty with h | ⟨h, hv⟩
        · refine W.iret B.exec B.bytes (hr.trans h) (fun t ht hW => ?_) hl' hde
          rw [← (Option.some.inj hret)]
          exact ⟨rfl, by rw [ht, ← Option.some.inj hret]; exact hI'⟩
        · refine W.zret B.exec B.bytes (hr.trans h) (by rcases hv with rfl | rfl <;> decide) (fun t ht hW => ?_) hl' hde
          rw [← (Option.some.inj hret)]
          exact ⟨rfl, by rw [ht, ← Option.some.inj hret]; exact hI'⟩
      · cases hret
    · rename_i o hi
      split at hret
      · rename_i n hty
        rw [hi] at hde
        refine W.aret (rt := .object n) B.exec B.bytes (hr.trans hty) (Or.inl ⟨n, rfl⟩) (Or.inr ⟨_, rfl⟩) (fun t ht hW => ?_) hl' hde
        rw [← (Option.some.inj hret)]
        exact ⟨rfl, by rw [ht, ← Option.some.inj hret]; exact hI'⟩
      · cases hret
    · rename_i hi
      split at hret
      · rename_i hty
        rw [hi] at hde
        refine W.vret B.exec B.bytes (hr.trans hty) (fun t ht hW => ?_) hl' hde
        rw [← (Option.some.inj hret)]
        exact ⟨rfl, by rw [ht, ← Option.some.inj hret]; exact hI'⟩
      · cases hret
    · cases hret
  · cases hret
end RUN2
end
section
section RUN3
variable {p : Program} {l : Launch} {e0 : Env} {rm : Room} {s : State} {m : MethodId} {args : Array Value} {below : List Frame} {meth : Method} {c : Code} {H : Heap} {locs : List Loc} {Q : State → Prop} {cs sl : Nat}
variable {sh : SH} {hp : HP} {base sb : Nat} {Hb : Heap} {D : va_G} {cI cF : ClassId} {ms : List ME} {y : MethodName} {bs : ByteArray} {nL : Nat}
theorem np_sig {me : ME} {np : Nat} (h : (parseMethodDescriptor (mName me).desc).map (fun d => d.parameters.length) = some np) : ∀ sig, parseMethodDescriptor (mName me).desc = some sig → np = sig.parameters.length := by
  intro sig hs
  rw [hs] at h
  exact (Option.some.inj h).symm
theorem getLast_split {α : Type} {l : List α} {x : α} (h : l.getLast? = some x) : ∃ init, l = init ++ [x] := by
  refine ⟨l.dropLast, ?_⟩
  have hne : l ≠ [] := by
    intro h0
    rw [h0] at h
    cases h
  rw [List.getLast?_eq_some_getLast hne] at h
  cases h
  exact (List.dropLast_concat_getLast hne).symm
set_option maxHeartbeats 8000000 in
/-- a call, whichever its kind -/
theorem call_sound (fx : Fx p s m args meth c y bs nL D cI cF) (iv : Iv base Hb D cI cF H sh hp) (hl : ∀ z ∈ locs, base ≤ z.base) {i : Instr} {a pc : Nat} {me' : ME} (hme : ms[a]? = some me') (ho : MeOK ms me') {st : List Value} {ls : Array Slot} (hls : ls.size = nL) {res : RS}
    (hok : callOk rm i me' st cs sl sh = true) (hi : (∃ idx, i = .invokevirtual idx ∧ LinkOK ms y i a 0) ∨ (∃ idx, i = .invokespecial idx ∧ LinkOK ms y i a 0) ∨ ∃ idx, i = .invokestatic idx ∧ LinkOK ms y i a 0)
    (hM : Ct l base sb Hb D cI cF me' (args0 me' st) sh hp res) (hdg : decode bs pc = .ok (i, 3))
    (kk : ∀ (H' : Heap) (locs' : List Loc), Iv base Hb D cI cF H' res.2.2.2.1 res.2.2.2.2 → (∀ z ∈ locs', base ≤ z.base) → W p l e0 rm s m args below meth c H' locs' (cs + (mRoom me').cells) (sl + (mRoom me').slots) Q (F0 m (pc + 3) ls ((res.1.toList ++ st.drop (mArgs me')).map (tr base sb)))) :
    W p l e0 rm s m args below meth c H locs cs sl Q (F0 m pc ls (st.map (tr base sb))) := by
  obtain ⟨hx, hb, hml, hown, hts, hK, hini, hN⟩ := fx
  simp only [callOk, Bool.and_eq_true, decide_eq_true_eq] at hok
  obtain ⟨⟨⟨⟨⟨⟨⟨⟨k1, k2⟩, k3⟩, k4⟩, k5⟩, k6⟩, k7⟩, k8⟩, k9⟩ := hok
  obtain ⟨o1, o2, o3, o4, o5, ⟨np, o6, o7⟩, o8⟩ := ho
  have hww := ws_warm (s := s) (args := args) hts o3
  have hcode : (Cond.code (mName me') (mBytes me') (mLoc me') (mRet me')).before args s = true := hts _ o3
  have hst : st.map (tr base sb) = (st.take (mArgs me')).map (tr base sb) ++ (st.drop (mArgs me')).map (tr base sb) := by rw [← List.map_append, List.take_append_drop]
  have hrest : 2 * (F0 m pc ls (st.map (tr base sb))).monitorRoom + (((st.drop (mArgs me')).map (tr base sb)).map fun v => v.category).sum ≤ 8 := lv_room (by rw [tr_sum]; exact k4)
  have hback : ∀ (H1 : Heap) (locs1 : List Loc), Iv base Hb D cI cF H1 res.2.2.2.1 res.2.2.2.2 → (∀ z ∈ locs1, z ∈ locs ∨ base ≤ z.base) →
      W p l e0 rm s m args below meth c H1 locs1 (cs + (mRoom me').cells) (sl + (mRoom me').slots) Q { F0 m pc ls (st.map (tr base sb)) with pc := pc + 3, stack := (res.1.map (tr base sb)).toList ++ (st.drop (mArgs me')).map (tr base sb) } := by
    intro H1 locs1 hI hz
    have := kk H1 locs1 hI (fun z hz1 => (hz z hz1).elim (hl z) id)
    rw [List.map_append] at this
    have e : (res.1.map (tr base sb)).toList = res.1.toList.map (tr base sb) := by cases res.1 <;> rfl
    rw [e]
    exact this
  have hpc : ∀ U : State, U.heap = H → s.WarmedH U.vm → va_Pc ((args0 me' st).map (tr base sb)) (fun U => Iv base Hb D cI cF U.heap sh hp ∧ va_KK D cI cF U ∧ Nw U) ((args0 me' st).map (tr base sb)).toArray U := fun U hU hW => ⟨rfl, by rw [hU]; exact iv, va_K.moved hW.alike hK, hN.warm hW⟩
  have htl : (st.take (mArgs me')).length = mArgs me' := by rw [List.length_take]; omega
  have hlk : ∀ {own : String} {idx : Nat}, LinkNOK own idx (mName me') → (Cond.methodLink own idx (mName me')).before args s = true ∨ ∃ host, (Cond.methodLinkNest own idx (mName me') host).before args s = true := by
    intro own idx h
    rcases h with h | ⟨host, h⟩
    · exact Or.inl (hts _ h)
    · exact Or.inr ⟨host, va_Nw.use rfl (hN.1 _ _ _ _ h)⟩
  rcases hi with ⟨idx, rfl, hL⟩ | ⟨idx, rfl, hL⟩ | ⟨idx, rfl, hL⟩
  · obtain ⟨⟨me2, hm2, hlink, hinit⟩, hrow⟩ := hL
    cases hme.symm.trans hm2
    obtain ⟨r1, r2, r3⟩ := hrow _ hme
    rw [if_neg r3] at o7
    simp only [recvOk] at k9
    split at k9
    · rename_i o hlast
      have k9 := of_decide_eq_true k9
      obtain ⟨init, hinit2⟩ := getLast_split hlast
      have hil : init.length = np := by
        have := congrArg List.length hinit2
        rw [htl, List.length_append, List.length_singleton] at this
        omega
      have hargs : args0 me' st = .ref o :: init.reverse := by
        unfold args0
        rw [hinit2]
        simp
      have hcls := o8 r3
      obtain ⟨r, hr, hrc⟩ := Option.map_eq_some_iff.mp hcls
      have hcell := cell_obj (iv.2.2.2.1 o (sh_lt k9.2)) k9.2 hr
      obtain ⟨cell, q1, q2, q3, -⟩ := hcell
      have hfc := (hK.1 _ _ hr).2.1
      have hbase : tr base sb (.ref o) = .ref (base + o) := tr_ref k9.1
      have hargs2 : (args0 me' st).map (tr base sb) = .ref (base + o) :: (init.reverse).map (tr base sb) := by rw [hargs, List.map_cons, hbase]
      have hpre : PreV s H (mName me').cls (base + o) (va_Pc ((args0 me' st).map (tr base sb)) (fun U => Iv base Hb D cI cF U.heap sh hp ∧ va_KK D cI cF U ∧ Nw U)) ((init.reverse).map (tr base sb)) :=
        ⟨ct_blind base sb Hb D cI cF _ sh hp, ⟨cell, q1, by rw [q3]; rfl, by rw [q2, ← hrc]; exact hfc⟩, fun U hU hW => by rw [← hargs2]; exact hpc U hU hW⟩
      have hstk : (F0 m pc ls (st.map (tr base sb))).stack = ((init.reverse).map (tr base sb)).reverse ++ .ref (base + o) :: (st.drop (mArgs me')).map (tr base sb) := by
        show st.map (tr base sb) = _
        rw [hst, hinit2]
        simp [hbase]
      rcases hlk hlink with h | ⟨host, h⟩
      · exact my_call (va_runV (C := (mName me').cls) (n := np) (Ts := tbG) ⟨hx, hb, hml, hown, hts⟩ hM ⟨⟨rfl, rfl, k5, k6, hww, List.mem_cons_self, hcode, hts _ hinit, o5, np_sig o6, h⟩, hts _ r1, hts _ r2⟩ hpre rfl (by simp [hil]) hls hstk hrest hdg ⟨k7, k8⟩) hback
      · exact my_call (va_runVN (C := (mName me').cls) (n := np) (Ts := tbG) ⟨hx, hb, hml, hown, hts⟩ hM ⟨⟨⟨rfl, rfl, k5, k6, hww, List.mem_cons_self⟩, hcode, hts _ hinit, o5, np_sig o6, h⟩, hts _ r1, hts _ r2⟩ hpre rfl (by simp [hil]) hls hstk hrest hdg ⟨k7, k8⟩) hback
    · cases k9
  · obtain ⟨⟨me2, hm2, hlink, hinit⟩, hrow⟩ := hL.2 rfl
    cases hme.symm.trans hm2
    obtain ⟨r1, r2, r4, r3⟩ := hrow _ hme
    rw [if_neg r3] at o7
    simp only [recvOk] at k9
    split at k9
    · rename_i o hlast
      obtain ⟨init, hinit2⟩ := getLast_split hlast
      have hil : init.length = np := by
        have := congrArg List.length hinit2
        rw [htl, List.length_append, List.length_singleton] at this
        omega
      have hargs : args0 me' st = .ref o :: init.reverse := by
        unfold args0
        rw [hinit2]
        simp
      have hbase : tr base sb (.ref o) = .ref (if o = SCR then sb else base + o) := rfl
      have hargs2 : (args0 me' st).map (tr base sb) = .ref (if o = SCR then sb else base + o) :: (init.reverse).map (tr base sb) := by rw [hargs, List.map_cons, hbase]
      have hpre : PreS s H (va_Pc ((args0 me' st).map (tr base sb)) (fun U => Iv base Hb D cI cF U.heap sh hp ∧ va_KK D cI cF U ∧ Nw U)) (.ref (if o = SCR then sb else base + o) :: (init.reverse).map (tr base sb)) :=
        ⟨ct_blind base sb Hb D cI cF _ sh hp, fun U hU hW => by rw [← hargs2]; exact hpc U hU hW⟩
      have hstk : (F0 m pc ls (st.map (tr base sb))).stack = ((init.reverse).map (tr base sb)).reverse ++ .ref (if o = SCR then sb else base + o) :: (st.drop (mArgs me')).map (tr base sb) := by
        show st.map (tr base sb) = _
        rw [hst, hinit2]
        simp [hbase]
      rw [r4] at hcode
      have hM' := hM
      unfold Ct at hM'
      have hmem : Cond.code (mName me') (mBytes me') (mLoc me') none ∈ mWs me' := by rw [← r4]; exact List.mem_cons_self
      have hww2 := ws_warm (s := s) (args := args) hts o3
      rcases hlk hlink with h | ⟨host, h⟩
      · exact my_call (va_runI (n := np) (Ts := tbG) ⟨hx, hb, hml, hown, hts⟩ hM' ⟨⟨rfl, rfl, k5, k6, hww2, hmem, hcode, hts _ hinit, o5, np_sig o6, h⟩, r2, hts _ r1⟩ hpre rfl (by simp [hil]) hls hstk hrest hdg ⟨k7, k8⟩) hback
      · exact my_call (va_runIN (n := np) (Ts := tbG) ⟨hx, hb, hml, hown, hts⟩ hM' ⟨⟨⟨rfl, rfl, k5, k6, hww2, hmem⟩, hcode, hts _ hinit, o5, np_sig o6, h⟩, r2, hts _ r1⟩ hpre rfl (by simp [hil]) hls hstk hrest hdg ⟨k7, k8⟩) hback
    · cases k9
  · obtain ⟨⟨me2, hm2, hlink, hinit⟩, hrow⟩ := hL.2 rfl
    cases hme.symm.trans hm2
    obtain ⟨r1, r3⟩ := hrow _ hme
    rw [if_pos r3] at o7
    have hpre : PreS s H (va_Pc ((args0 me' st).map (tr base sb)) (fun U => Iv base Hb D cI cF U.heap sh hp ∧ va_KK D cI cF U ∧ Nw U)) ((args0 me' st).map (tr base sb)) := ⟨ct_blind base sb Hb D cI cF _ sh hp, hpc⟩
    have hstk : (F0 m pc ls (st.map (tr base sb))).stack = ((args0 me' st).map (tr base sb)).reverse ++ (st.drop (mArgs me')).map (tr base sb) := by
      show st.map (tr base sb) = _
      rw [hst]
      simp [args0]
    have hal : ((args0 me' st).map (tr base sb)).length = np := by
      rw [List.length_map]
      unfold args0
      rw [List.length_reverse, htl, o7]
    rcases hlk hlink with h | ⟨host, h⟩
    · exact my_call (va_runS (n := np) (Ts := tbG) ⟨hx, hb, hml, hown, hts⟩ hM ⟨⟨rfl, rfl, k5, k6, hww, List.mem_cons_self, hcode, hts _ hinit, o5, np_sig o6, h⟩, hts _ r1⟩ hpre rfl hal hls hstk hrest hdg ⟨k7, k8⟩) hback
    · exact my_call (va_runSN (n := np) (Ts := tbG) ⟨hx, hb, hml, hown, hts⟩ hM ⟨⟨⟨rfl, rfl, k5, k6, hww, List.mem_cons_self⟩, hcode, hts _ hinit, o5, np_sig o6, h⟩, hts _ r1, trivial⟩ hpre rfl hal hls hstk hrest hdg ⟨k7, k8⟩) hback
end RUN3
end
section
section RUN4
variable {Hb : Heap} {ms : List ME}
set_option maxHeartbeats 8000000 in
/-- THE ABSTRACT MACHINE'S RUN OF A METHOD IS THE MACHINE'S -/
theorem exF_sound (hcl : ClOK) (hgl : GlOK) (hms : ∀ (i : Nat) (me : ME), ms[i]? = some me → MeOK ms me) (base sb : Nat) (Hb : Heap) (D : va_G) (cI cF : ClassId) : ∀ (n : Nat) (scr : Option (Nat × (Nat → Int32))) (me : ME) (j : Nat) (L : List (Option Value)) (st : List Value) (cs sl : Nat) (sh : SH) (hp : HP) (res : RS), exF ms n scr me j L st cs sl sh hp = some res → BodyOK ms me →
    ∀ {p : Program} {l : Launch} {e0 : Env} {s : State} {m : MethodId} {args : Array Value} {below : List Frame} {meth : Method} {c : Code} {H : Heap} {locs : List Loc} {Q : State → Prop} {ls : Array Slot}, Fx p s m args meth c (mName me) (mBytes me) (mLoc me) D cI cF → Sx s base sb Hb scr → Iv base Hb D cI cF H sh hp → (∀ z ∈ locs, base ≤ z.base) → LsOk base sb (mLoc me) ls L →
      (∀ (e : EI) (st' : List Value) (H' : Heap) (locs' : List Loc) (ls' : Array Slot), e ∈ mCode me → decode (mBytes me) e.1 = .ok (e.2.1, 1) → retTo (mRet me) (mRoom me) e.2.1 st' res.2.1 res.2.2.1 res.2.2.2.1 res.2.2.2.2 = some res → Iv base Hb D cI cF H' res.2.2.2.1 res.2.2.2.2 → (∀ z ∈ locs', base ≤ z.base) →
        W p l e0 (mRoom me) s m args below meth c H' locs' res.2.1 res.2.2.1 Q (F0 m e.1 ls' (st'.map (tr base sb)))) →
      W p l e0 (mRoom me) s m args below meth c H locs cs sl Q (F0 m (pcAt (mCode me) j) ls (st.map (tr base sb))) := by
  intro n
  induction n with
  | zero =>
    intro scr me j L st cs sl sh hp res h
    cases h
  | succ n ih =>
    intro scr me j L st cs sl sh hp res h ho p l e0 s m args below meth c H locs Q ls fx sx iv hl hL kk
    simp only [exF, Option.bind_eq_some_iff] at h
    obtain ⟨e, he, h⟩ := h
    have hmem := List.mem_of_getElem? he
    have hch := chk_at ho.1 he
    have hlk := ho.2 e hmem
    rw [pc_at he]
    split at h
    · rename_i hret
      have hde : decode (mBytes me) e.1 = .ok (e.2.1, 1) := by
        obtain ⟨pc, ins, a, b, ts⟩ := e
        cases ins <;> first | (cases hret; done) | (simp only [chkE, ilen, Bool.and_eq_true] at hch; exact of_decide_eq_true hch.1)
      have hrs : cs = res.2.1 ∧ sl = res.2.2.1 ∧ sh = res.2.2.2.1 ∧ hp = res.2.2.2.2 := by
        unfold retTo at h
        split at h
        · split at h
          · split at h
            · cases h; exact ⟨rfl, rfl, rfl, rfl⟩
            · cases h
          · split at h
            · cases h; exact ⟨rfl, rfl, rfl, rfl⟩
            · cases h
          · split at h
            · cases h; exact ⟨rfl, rfl, rfl, rfl⟩
            · cases h
          · cases h
        · cases h
      obtain ⟨rfl, rfl, rfl, rfl⟩ := hrs
      exact kk e st H locs ls hmem hde h iv hl
    · rename_i hret
      have hret : isRet e.2.1 = false := by simpa using hret
      split at h
      · rename_i hcall
        simp only [Option.bind_eq_some_iff] at h
        obtain ⟨me', hme, h⟩ := h
        split at h
        · rename_i hok
          simp only [Option.bind_eq_some_iff] at h
          obtain ⟨r1, h1, h2⟩ := h
          have ho' := hms _ _ hme
          have hok2 := hok
          simp only [callOk, Bool.and_eq_true, decide_eq_true_eq] at hok2
          obtain ⟨⟨⟨⟨⟨⟨⟨⟨k1, k2⟩, k3⟩, k4⟩, k5⟩, k6⟩, k7⟩, k8⟩, k9⟩ := hok2
          have hcat : ∀ v ∈ args0 me' st, v.category = 1 := by
            intro v hv
            unfold args0 at hv
            have := List.all_eq_true.mp k3 v (List.mem_reverse.mp hv)
            simpa using this
          have hlen : (args0 me' st).length = mArgs me' := by
            unfold args0
            rw [List.length_reverse, List.length_take]
            omega
          have hpc0 : pcAt (mCode me') 0 = 0 := ho'.1.1
          have hM : Ct l base sb Hb D cI cF me' (args0 me' st) sh hp r1 := by
            refine ct_of ho' hcat hlen k2 ?_
            intro p e0 s m args below meth c H locs Q ls fx' iv' hl' hL' kk'
            have := ih none me' 0 (loc0 me' st) [] 0 0 sh hp r1 h1 ⟨ho'.1, ho'.2.1⟩ (p := p) (l := l) (e0 := e0) (s := s) (m := m) (args := args) (below := below) (meth := meth) (c := c) (H := H) (locs := locs) (Q := Q) (ls := ls) fx' (fun q hq => by cases hq) iv' hl' hL' kk'
            rw [hpc0] at this
            exact this
          obtain ⟨pc, ins, a, b, ts⟩ := e
          have hplain : decode (mBytes me) pc = .ok (ins, 3) ∧ pcAt (mCode me) (j + 1) = pc + 3 := by
            cases ins <;> first | (cases hcall; done) | exact chk_pl hch rfl
          refine call_sound fx iv hl hme ho' hL.2.1 hok ?_ hM hplain.1 ?_
          · cases ins <;> first | (cases hcall; done) | exact Or.inl ⟨_, rfl, hlk⟩ | (have hb : b = 0 := (by simpa [isCall] using hcall); subst hb; first | exact Or.inr (Or.inl ⟨_, rfl, hlk⟩) | exact Or.inr (Or.inr ⟨_, rfl, hlk⟩))
          · intro H' locs' iv' hl'
            rw [← hplain.2]
            exact ih scr me (j + 1) L _ _ _ _ _ res h2 ho fx sx iv' hl' hL kk
        · cases h
      · rename_i hcall
        simp only [Option.bind_eq_some_iff] at h
        obtain ⟨q, h1, h2⟩ := h
        refine prim_sound hcl hgl fx sx h1 hch hlk iv hl hL ?_
        intro H' locs' ls' iv' hl' hL'
        exact ih scr me q.1 q.2.1 q.2.2.1 q.2.2.2.1 q.2.2.2.2.1 q.2.2.2.2.2.1 q.2.2.2.2.2.2 res h2 ho fx sx iv' hl' hL' kk
end RUN4
end
section
/-! THE CODE: each method as the abstract machine has it; printed by a program of mine out of NAMES and the tables -/
def kX0_init : List EI := [(0, .aload_n 0, 0, 0, []), (1, .invokespecial 3, 0, 1, []), (4, .aload_n 0, 0, 0, []), (5, .bipush 7, 0, 0, []), (7, .newarray .int, 0, 0, []), (9, .putfield 9, 0, 3, []), (12, .aload_n 0, 0, 0, []), (13, .bipush 7, 0, 0, []), (15, .newarray .int, 0, 0, []), (17, .putfield 15, 0, 4, []), (20, .aload_n 0, 0, 0, []), (21, .bipush 7, 0, 0, []), (23, .newarray .int, 0, 0, []), (25, .putfield 18, 0, 5, []), (28, .aload_n 0, 0, 0, []), (29, .bipush 7, 0, 0, []), (31, .newarray .int, 0, 0, []), (33, .putfield 21, 0, 6, []), (36, .aload_n 0, 0, 0, []), (37, .bipush 7, 0, 0, []), (39, .newarray .int, 0, 0, []), (41, .putfield 24, 0, 7, []), (44, .aload_n 0, 0, 0, []), (45, .bipush 7, 0, 0, []), (47, .newarray .int, 0, 0, []), (49, .putfield 27, 0, 8, []), (52, .return_, 0, 0, [])]
def eX0_init : ME := (yX0_init, cX0_init, 1, none, { frames := 1, cells := 6, slots := 42, locals := 20 }, 1, 0, kX0_init)
def kX0_copyFrom : List EI := [(0, .aload_n 0, 0, 0, []), (1, .aload_n 1, 0, 0, []), (2, .getfield 30, 0, 0, []), (5, .putfield 30, 0, 0, []), (8, .aload_n 0, 0, 0, []), (9, .aload_n 1, 0, 0, []), (10, .getfield 34, 0, 1, []), (13, .putfield 34, 0, 1, []), (16, .aload_n 1, 0, 0, []), (17, .getfield 9, 0, 3, []), (20, .iconst 0, 0, 0, []), (21, .aload_n 0, 0, 0, []), (22, .getfield 9, 0, 3, []), (25, .iconst 0, 0, 0, []), (26, .bipush 7, 0, 0, []), (28, .invokestatic 37, 0, 2, []), (31, .aload_n 1, 0, 0, []), (32, .getfield 15, 0, 4, []), (35, .iconst 0, 0, 0, []), (36, .aload_n 0, 0, 0, []), (37, .getfield 15, 0, 4, []), (40, .iconst 0, 0, 0, []), (41, .bipush 7, 0, 0, []), (43, .invokestatic 37, 0, 2, []), (46, .aload_n 1, 0, 0, []), (47, .getfield 18, 0, 5, []), (50, .iconst 0, 0, 0, []), (51, .aload_n 0, 0, 0, []), (52, .getfield 18, 0, 5, []), (55, .iconst 0, 0, 0, []), (56, .bipush 7, 0, 0, []), (58, .invokestatic 37, 0, 2, []), (61, .aload_n 1, 0, 0, []), (62, .getfield 21, 0, 6, []), (65, .iconst 0, 0, 0, []), (66, .aload_n 0, 0, 0, []), (67, .getfield 21, 0, 6, []), (70, .iconst 0, 0, 0, []), (71, .bipush 7, 0, 0, []), (73, .invokestatic 37, 0, 2, []), (76, .aload_n 1, 0, 0, []), (77, .getfield 24, 0, 7, []), (80, .iconst 0, 0, 0, []), (81, .aload_n 0, 0, 0, []), (82, .getfield 24, 0, 7, []), (85, .iconst 0, 0, 0, []), (86, .bipush 7, 0, 0, []), (88, .invokestatic 37, 0, 2, []), (91, .return_, 0, 0, [])]
def eX0_copyFrom : ME := (yX0_copyFrom, cX0_copyFrom, 2, none, { frames := 1, cells := 0, slots := 0, locals := 48 }, 2, 0, kX0_copyFrom)
def kX0_has : List EI := [(0, .iload_n 1, 0, 0, []), (1, .ifCond .lt 15, 8, 0, []), (4, .iload_n 1, 0, 0, []), (5, .aload_n 0, 0, 0, []), (6, .getfield 30, 0, 0, []), (9, .if_icmp .ge 7, 8, 0, []), (12, .iconst 1, 0, 0, []), (13, .goto 4, 9, 0, []), (16, .iconst 0, 0, 0, []), (17, .ireturn, 0, 0, [])]
def eX0_has : ME := (yX0_has, cX0_has, 2, (some .boolean), { frames := 0, cells := 0, slots := 0, locals := 0 }, 2, 0, kX0_has)
def kX0_everybody : List EI := [(0, .iconst 1, 0, 0, []), (1, .aload_n 0, 0, 0, []), (2, .getfield 30, 0, 0, []), (5, .ishl, 0, 0, []), (6, .iconst 1, 0, 0, []), (7, .isub, 0, 0, []), (8, .ireturn, 0, 0, [])]
def eX0_everybody : ME := (yX0_everybody, cX0_everybody, 1, (some .int), { frames := 0, cells := 0, slots := 0, locals := 0 }, 1, 0, kX0_everybody)
def kX0_others : List EI := [(0, .aload_n 0, 0, 0, []), (1, .invokevirtual 43, 3, 0, []), (4, .iconst 1, 0, 0, []), (5, .iload_n 1, 0, 0, []), (6, .ishl, 0, 0, []), (7, .iconst (-1), 0, 0, []), (8, .ixor, 0, 0, []), (9, .iand, 0, 0, []), (10, .ireturn, 0, 0, [])]
def eX0_others : ME := (yX0_others, cX0_others, 2, (some .int), { frames := 1, cells := 0, slots := 0, locals := 20 }, 2, 0, kX0_others)
def kX0_add : List EI := [(0, .aload_n 0, 0, 0, []), (1, .getfield 30, 0, 0, []), (4, .bipush 7, 0, 0, []), (6, .if_icmp .lt 6, 6, 0, []), (9, .bipush (-9), 0, 0, []), (11, .ireturn, 0, 0, []), (12, .aload_n 0, 0, 0, []), (13, .getfield 9, 0, 3, []), (16, .aload_n 0, 0, 0, []), (17, .getfield 30, 0, 0, []), (20, .iload_n 1, 0, 0, []), (21, .iastore, 0, 0, []), (22, .aload_n 0, 0, 0, []), (23, .getfield 15, 0, 4, []), (26, .aload_n 0, 0, 0, []), (27, .getfield 30, 0, 0, []), (30, .iload_n 2, 0, 0, []), (31, .iastore, 0, 0, []), (32, .aload_n 0, 0, 0, []), (33, .getfield 18, 0, 5, []), (36, .aload_n 0, 0, 0, []), (37, .getfield 30, 0, 0, []), (40, .iload_n 3, 0, 0, []), (41, .iastore, 0, 0, []), (42, .aload_n 0, 0, 0, []), (43, .getfield 21, 0, 6, []), (46, .aload_n 0, 0, 0, []), (47, .getfield 30, 0, 0, []), (50, .iload_n 3, 0, 0, []), (51, .iastore, 0, 0, []), (52, .aload_n 0, 0, 0, []), (53, .getfield 24, 0, 7, []), (56, .aload_n 0, 0, 0, []), (57, .getfield 30, 0, 0, []), (60, .iconst 0, 0, 0, []), (61, .iastore, 0, 0, []), (62, .aload_n 0, 0, 0, []), (63, .dup, 0, 0, []), (64, .getfield 30, 0, 0, []), (67, .iconst 1, 0, 0, []), (68, .iadd, 0, 0, []), (69, .putfield 30, 0, 0, []), (72, .aload_n 0, 0, 0, []), (73, .getfield 30, 0, 0, []), (76, .iconst 1, 0, 0, []), (77, .isub, 0, 0, []), (78, .ireturn, 0, 0, [])]
def eX0_add : ME := (yX0_add, cX0_add, 4, (some .int), { frames := 0, cells := 0, slots := 0, locals := 0 }, 4, 0, kX0_add)
def kX0_word : List EI := [(0, .iload_n 2, 0, 0, []), (1, .aload_n 0, 0, 0, []), (2, .getfield 15, 0, 4, []), (5, .iload_n 1, 0, 0, []), (6, .iaload, 0, 0, []), (7, .iadd, 0, 0, []), (8, .bipush 99, 0, 0, []), (10, .if_icmp .le 8, 10, 0, []), (13, .bipush 99, 0, 0, []), (15, .goto 11, 16, 0, []), (18, .iload_n 2, 0, 0, []), (19, .aload_n 0, 0, 0, []), (20, .getfield 15, 0, 4, []), (23, .iload_n 1, 0, 0, []), (24, .iaload, 0, 0, []), (25, .iadd, 0, 0, []), (26, .istore_n 3, 0, 0, []), (27, .iconst 2, 0, 0, []), (28, .aload_n 0, 0, 0, []), (29, .getfield 15, 0, 4, []), (32, .iload_n 1, 0, 0, []), (33, .iaload, 0, 0, []), (34, .imul, 0, 0, []), (35, .istore 4, 0, 0, []), (37, .aload_n 0, 0, 0, []), (38, .getfield 9, 0, 3, []), (41, .iload_n 1, 0, 0, []), (42, .iaload, 0, 0, []), (43, .tableswitch 91 1 5 #[33, 35, 50, 61, 86], 0, 0, [68, 29, 31, 40, 49, 64]), (76, .iload_n 3, 0, 0, []), (77, .ireturn, 0, 0, []), (78, .iload_n 2, 0, 0, []), (79, .iload 4, 0, 0, []), (81, .if_icmp .ge 7, 36, 0, []), (84, .iconst 0, 0, 0, []), (85, .goto 7, 39, 0, []), (88, .iload_n 2, 0, 0, []), (89, .iload 4, 0, 0, []), (91, .isub, 0, 0, []), (92, .ireturn, 0, 0, []), (93, .iload_n 3, 0, 0, []), (94, .aload_n 0, 0, 0, []), (95, .getfield 21, 0, 6, []), (98, .iload_n 1, 0, 0, []), (99, .iaload, 0, 0, []), (100, .iadd, 0, 0, []), (101, .iconst 2, 0, 0, []), (102, .idiv, 0, 0, []), (103, .ireturn, 0, 0, []), (104, .aload_n 0, 0, 0, []), (105, .getfield 21, 0, 6, []), (108, .iload_n 1, 0, 0, []), (109, .iaload, 0, 0, []), (110, .iload 4, 0, 0, []), (112, .if_icmp .ge 7, 57, 0, []), (115, .iconst 0, 0, 0, []), (116, .goto 12, 63, 0, []), (119, .aload_n 0, 0, 0, []), (120, .getfield 21, 0, 6, []), (123, .iload_n 1, 0, 0, []), (124, .iaload, 0, 0, []), (125, .iload 4, 0, 0, []), (127, .isub, 0, 0, []), (128, .ireturn, 0, 0, []), (129, .bipush 99, 0, 0, []), (131, .iload_n 2, 0, 0, []), (132, .isub, 0, 0, []), (133, .ireturn, 0, 0, []), (134, .iload_n 2, 0, 0, []), (135, .ireturn, 0, 0, [])]
def eX0_word : ME := (yX0_word, cX0_word, 5, (some .int), { frames := 0, cells := 0, slots := 0, locals := 0 }, 3, 0, kX0_word)
def kX0_mean : List EI := [(0, .iconst 0, 0, 0, []), (1, .istore_n 3, 0, 0, []), (2, .iconst 0, 0, 0, []), (3, .istore 4, 0, 0, []), (5, .iconst 0, 0, 0, []), (6, .istore 5, 0, 0, []), (8, .iload 5, 0, 0, []), (10, .aload_n 0, 0, 0, []), (11, .getfield 30, 0, 0, []), (14, .if_icmp .ge 31, 24, 0, []), (17, .iload_n 1, 0, 0, []), (18, .iload 5, 0, 0, []), (20, .invokestatic 47, 66, 0, []), (23, .ifCond .eq 16, 22, 0, []), (26, .iload_n 3, 0, 0, []), (27, .aload_n 0, 0, 0, []), (28, .iload 5, 0, 0, []), (30, .iload_n 2, 0, 0, []), (31, .invokevirtual 51, 6, 0, []), (34, .iadd, 0, 0, []), (35, .istore_n 3, 0, 0, []), (36, .iinc 4 1, 0, 0, []), (39, .iinc 5 1, 0, 0, []), (42, .goto (-34), 6, 0, []), (45, .iload 4, 0, 0, []), (47, .ifCond .ne 8, 28, 0, []), (50, .bipush (-9), 0, 0, []), (52, .goto 7, 31, 0, []), (55, .iload_n 3, 0, 0, []), (56, .iload 4, 0, 0, []), (58, .idiv, 0, 0, []), (59, .ireturn, 0, 0, [])]
def eX0_mean : ME := (yX0_mean, cX0_mean, 6, (some .int), { frames := 1, cells := 0, slots := 0, locals := 24 }, 3, 0, kX0_mean)
def kX0_passWeek : List EI := [(0, .iconst 0, 0, 0, []), (1, .istore_n 1, 0, 0, []), (2, .iload_n 1, 0, 0, []), (3, .aload_n 0, 0, 0, []), (4, .getfield 30, 0, 0, []), (7, .if_icmp .ge 49, 32, 0, []), (10, .aload_n 0, 0, 0, []), (11, .getfield 27, 0, 8, []), (14, .iload_n 1, 0, 0, []), (15, .aload_n 0, 0, 0, []), (16, .getfield 24, 0, 7, []), (19, .iload_n 1, 0, 0, []), (20, .iaload, 0, 0, []), (21, .ifCond .ne 12, 19, 0, []), (24, .aload_n 0, 0, 0, []), (25, .getfield 21, 0, 6, []), (28, .iload_n 1, 0, 0, []), (29, .iaload, 0, 0, []), (30, .goto 19, 29, 0, []), (33, .aload_n 0, 0, 0, []), (34, .aload_n 0, 0, 0, []), (35, .getfield 24, 0, 7, []), (38, .iload_n 1, 0, 0, []), (39, .iaload, 0, 0, []), (40, .aload_n 0, 0, 0, []), (41, .getfield 18, 0, 5, []), (44, .iload_n 1, 0, 0, []), (45, .iaload, 0, 0, []), (46, .invokevirtual 55, 7, 0, []), (49, .iastore, 0, 0, []), (50, .iinc 1 1, 0, 0, []), (53, .goto (-51), 2, 0, []), (56, .iconst 0, 0, 0, []), (57, .istore_n 1, 0, 0, []), (58, .aload_n 0, 0, 0, []), (59, .iconst 0, 0, 0, []), (60, .putfield 58, 0, 2, []), (63, .iconst 0, 0, 0, []), (64, .istore_n 2, 0, 0, []), (65, .iload_n 2, 0, 0, []), (66, .aload_n 0, 0, 0, []), (67, .getfield 30, 0, 0, []), (70, .if_icmp .ge 62, 78, 0, []), (73, .aload_n 0, 0, 0, []), (74, .getfield 27, 0, 8, []), (77, .iload_n 2, 0, 0, []), (78, .iaload, 0, 0, []), (79, .aload_n 0, 0, 0, []), (80, .getfield 21, 0, 6, []), (83, .iload_n 2, 0, 0, []), (84, .iaload, 0, 0, []), (85, .isub, 0, 0, []), (86, .invokestatic 61, 261, 0, []), (89, .istore_n 3, 0, 0, []), (90, .aload_n 0, 0, 0, []), (91, .aload_n 0, 0, 0, []), (92, .getfield 58, 0, 2, []), (95, .iload_n 3, 0, 0, []), (96, .invokestatic 67, 262, 0, []), (99, .putfield 58, 0, 2, []), (102, .iload_n 1, 0, 0, []), (103, .iload_n 3, 0, 0, []), (104, .ifCond .ne 7, 65, 0, []), (107, .iconst 0, 0, 0, []), (108, .goto 4, 66, 0, []), (111, .iconst 1, 0, 0, []), (112, .iadd, 0, 0, []), (113, .istore_n 1, 0, 0, []), (114, .aload_n 0, 0, 0, []), (115, .getfield 21, 0, 6, []), (118, .iload_n 2, 0, 0, []), (119, .aload_n 0, 0, 0, []), (120, .getfield 27, 0, 8, []), (123, .iload_n 2, 0, 0, []), (124, .iaload, 0, 0, []), (125, .iastore, 0, 0, []), (126, .iinc 2 1, 0, 0, []), (129, .goto (-64), 39, 0, []), (132, .aload_n 0, 0, 0, []), (133, .dup, 0, 0, []), (134, .getfield 34, 0, 1, []), (137, .iconst 1, 0, 0, []), (138, .iadd, 0, 0, []), (139, .putfield 34, 0, 1, []), (142, .iload_n 1, 0, 0, []), (143, .ireturn, 0, 0, [])]
def eX0_passWeek : ME := (yX0_passWeek, cX0_passWeek, 4, (some .int), { frames := 2, cells := 0, slots := 0, locals := 49 }, 1, 0, kX0_passWeek)
def kX0_passWeeks : List EI := [(0, .iconst 0, 0, 0, []), (1, .istore_n 2, 0, 0, []), (2, .iload_n 2, 0, 0, []), (3, .iload_n 1, 0, 0, []), (4, .if_icmp .ge 14, 10, 0, []), (7, .aload_n 0, 0, 0, []), (8, .invokevirtual 70, 8, 0, []), (11, .pop, 0, 0, []), (12, .iinc 2 1, 0, 0, []), (15, .goto (-13), 2, 0, []), (18, .return_, 0, 0, [])]
def eX0_passWeeks : ME := (yX0_passWeeks, cX0_passWeeks, 3, none, { frames := 3, cells := 0, slots := 0, locals := 72 }, 2, 0, kX0_passWeeks)
def kX0_unlike : List EI := [(0, .iconst 0, 0, 0, []), (1, .istore_n 2, 0, 0, []), (2, .iconst 0, 0, 0, []), (3, .istore_n 3, 0, 0, []), (4, .iload_n 3, 0, 0, []), (5, .aload_n 0, 0, 0, []), (6, .getfield 30, 0, 0, []), (9, .if_icmp .ge 32, 25, 0, []), (12, .iload_n 2, 0, 0, []), (13, .aload_n 0, 0, 0, []), (14, .getfield 21, 0, 6, []), (17, .iload_n 3, 0, 0, []), (18, .iaload, 0, 0, []), (19, .aload_n 1, 0, 0, []), (20, .getfield 21, 0, 6, []), (23, .iload_n 3, 0, 0, []), (24, .iaload, 0, 0, []), (25, .if_icmp .ne 7, 20, 0, []), (28, .iconst 0, 0, 0, []), (29, .goto 4, 21, 0, []), (32, .iconst 1, 0, 0, []), (33, .iadd, 0, 0, []), (34, .istore_n 2, 0, 0, []), (35, .iinc 3 1, 0, 0, []), (38, .goto (-34), 4, 0, []), (41, .iload_n 2, 0, 0, []), (42, .ireturn, 0, 0, [])]
def eX0_unlike : ME := (yX0_unlike, cX0_unlike, 4, (some .int), { frames := 0, cells := 0, slots := 0, locals := 0 }, 2, 0, kX0_unlike)
def kX0_allErrors : List EI := [(0, .iconst 0, 0, 0, []), (1, .istore_n 1, 0, 0, []), (2, .iconst 0, 0, 0, []), (3, .istore_n 2, 0, 0, []), (4, .iload_n 2, 0, 0, []), (5, .aload_n 0, 0, 0, []), (6, .getfield 30, 0, 0, []), (9, .if_icmp .ge 28, 23, 0, []), (12, .iload_n 1, 0, 0, []), (13, .aload_n 0, 0, 0, []), (14, .getfield 21, 0, 6, []), (17, .iload_n 2, 0, 0, []), (18, .iaload, 0, 0, []), (19, .aload_n 0, 0, 0, []), (20, .getfield 18, 0, 5, []), (23, .iload_n 2, 0, 0, []), (24, .iaload, 0, 0, []), (25, .isub, 0, 0, []), (26, .invokestatic 61, 261, 0, []), (29, .iadd, 0, 0, []), (30, .istore_n 1, 0, 0, []), (31, .iinc 2 1, 0, 0, []), (34, .goto (-30), 4, 0, []), (37, .iload_n 1, 0, 0, []), (38, .ireturn, 0, 0, [])]
def eX0_allErrors : ME := (yX0_allErrors, cX0_allErrors, 3, (some .int), { frames := 1, cells := 0, slots := 0, locals := 20 }, 1, 0, kX0_allErrors)
def kX0_fooledBy : List EI := [(0, .iconst 0, 0, 0, []), (1, .istore_n 2, 0, 0, []), (2, .iconst 0, 0, 0, []), (3, .istore_n 3, 0, 0, []), (4, .iload_n 3, 0, 0, []), (5, .aload_n 0, 0, 0, []), (6, .getfield 30, 0, 0, []), (9, .if_icmp .ge 35, 28, 0, []), (12, .aload_n 0, 0, 0, []), (13, .getfield 21, 0, 6, []), (16, .iload_n 3, 0, 0, []), (17, .iaload, 0, 0, []), (18, .aload_n 0, 0, 0, []), (19, .getfield 18, 0, 5, []), (22, .iload_n 3, 0, 0, []), (23, .iaload, 0, 0, []), (24, .isub, 0, 0, []), (25, .invokestatic 61, 261, 0, []), (28, .iload_n 1, 0, 0, []), (29, .if_icmp .le 9, 26, 0, []), (32, .iload_n 2, 0, 0, []), (33, .iconst 1, 0, 0, []), (34, .iload_n 3, 0, 0, []), (35, .ishl, 0, 0, []), (36, .ior, 0, 0, []), (37, .istore_n 2, 0, 0, []), (38, .iinc 3 1, 0, 0, []), (41, .goto (-37), 4, 0, []), (44, .iload_n 2, 0, 0, []), (45, .ireturn, 0, 0, [])]
def eX0_fooledBy : ME := (yX0_fooledBy, cX0_fooledBy, 4, (some .int), { frames := 1, cells := 0, slots := 0, locals := 20 }, 2, 0, kX0_fooledBy)
def kX0_apart : List EI := [(0, .aload_n 0, 0, 0, []), (1, .getfield 21, 0, 6, []), (4, .iload_n 1, 0, 0, []), (5, .iaload, 0, 0, []), (6, .aload_n 0, 0, 0, []), (7, .getfield 21, 0, 6, []), (10, .iload_n 2, 0, 0, []), (11, .iaload, 0, 0, []), (12, .isub, 0, 0, []), (13, .invokestatic 61, 261, 0, []), (16, .ireturn, 0, 0, [])]
def eX0_apart : ME := (yX0_apart, cX0_apart, 3, (some .int), { frames := 1, cells := 0, slots := 0, locals := 20 }, 3, 0, kX0_apart)
def kX0_width : List EI := [(0, .aload_n 0, 0, 0, []), (1, .getfield 30, 0, 0, []), (4, .ifCond .ne 5, 5, 0, []), (7, .iconst 0, 0, 0, []), (8, .ireturn, 0, 0, []), (9, .aload_n 0, 0, 0, []), (10, .getfield 21, 0, 6, []), (13, .iconst 0, 0, 0, []), (14, .iaload, 0, 0, []), (15, .istore_n 1, 0, 0, []), (16, .aload_n 0, 0, 0, []), (17, .getfield 21, 0, 6, []), (20, .iconst 0, 0, 0, []), (21, .iaload, 0, 0, []), (22, .istore_n 2, 0, 0, []), (23, .iconst 1, 0, 0, []), (24, .istore_n 3, 0, 0, []), (25, .iload_n 3, 0, 0, []), (26, .aload_n 0, 0, 0, []), (27, .getfield 30, 0, 0, []), (30, .if_icmp .ge 31, 37, 0, []), (33, .iload_n 1, 0, 0, []), (34, .aload_n 0, 0, 0, []), (35, .getfield 21, 0, 6, []), (38, .iload_n 3, 0, 0, []), (39, .iaload, 0, 0, []), (40, .invokestatic 73, 263, 0, []), (43, .istore_n 1, 0, 0, []), (44, .iload_n 2, 0, 0, []), (45, .aload_n 0, 0, 0, []), (46, .getfield 21, 0, 6, []), (49, .iload_n 3, 0, 0, []), (50, .iaload, 0, 0, []), (51, .invokestatic 67, 262, 0, []), (54, .istore_n 2, 0, 0, []), (55, .iinc 3 1, 0, 0, []), (58, .goto (-33), 17, 0, []), (61, .iload_n 2, 0, 0, []), (62, .iload_n 1, 0, 0, []), (63, .isub, 0, 0, []), (64, .ireturn, 0, 0, [])]
def eX0_width : ME := (yX0_width, cX0_width, 4, (some .int), { frames := 1, cells := 0, slots := 0, locals := 21 }, 1, 0, kX0_width)
def kX0_sources : List EI := [(0, .aload_n 0, 0, 0, []), (1, .getfield 24, 0, 7, []), (4, .aload_n 0, 0, 0, []), (5, .getfield 24, 0, 7, []), (8, .iload_n 1, 0, 0, []), (9, .iaload, 0, 0, []), (10, .iconst (-1), 0, 0, []), (11, .invokestatic 76, 35, 0, []), (14, .ireturn, 0, 0, [])]
def eX0_sources : ME := (yX0_sources, cX0_sources, 2, (some .int), { frames := 3, cells := 0, slots := 0, locals := 68 }, 2, 0, kX0_sources)
def kX0_allAskEachOther : List EI := [(0, .iconst 0, 0, 0, []), (1, .istore_n 2, 0, 0, []), (2, .iload_n 2, 0, 0, []), (3, .aload_n 0, 0, 0, []), (4, .getfield 30, 0, 0, []), (7, .if_icmp .ge 40, 31, 0, []), (10, .iload_n 1, 0, 0, []), (11, .iconst 1, 0, 0, []), (12, .iload_n 2, 0, 0, []), (13, .ishl, 0, 0, []), (14, .iconst (-1), 0, 0, []), (15, .ixor, 0, 0, []), (16, .iand, 0, 0, []), (17, .istore_n 3, 0, 0, []), (18, .iload_n 1, 0, 0, []), (19, .iload_n 2, 0, 0, []), (20, .invokestatic 47, 66, 0, []), (23, .ifCond .eq 18, 29, 0, []), (26, .iload_n 3, 0, 0, []), (27, .aload_n 0, 0, 0, []), (28, .getfield 24, 0, 7, []), (31, .iload_n 2, 0, 0, []), (32, .iaload, 0, 0, []), (33, .iconst (-1), 0, 0, []), (34, .ixor, 0, 0, []), (35, .iand, 0, 0, []), (36, .ifCond .eq 5, 29, 0, []), (39, .iconst 0, 0, 0, []), (40, .ireturn, 0, 0, []), (41, .iinc 2 1, 0, 0, []), (44, .goto (-42), 2, 0, []), (47, .iconst 1, 0, 0, []), (48, .ireturn, 0, 0, [])]
def eX0_allAskEachOther : ME := (yX0_allAskEachOther, cX0_allAskEachOther, 4, (some .boolean), { frames := 1, cells := 0, slots := 0, locals := 21 }, 2, 0, kX0_allAskEachOther)
def kX0_untruth : List EI := [(0, .iconst 0, 0, 0, []), (1, .istore_n 2, 0, 0, []), (2, .iconst 0, 0, 0, []), (3, .istore_n 3, 0, 0, []), (4, .iload_n 3, 0, 0, []), (5, .aload_n 0, 0, 0, []), (6, .getfield 30, 0, 0, []), (9, .if_icmp .ge 38, 29, 0, []), (12, .iload_n 3, 0, 0, []), (13, .iload_n 1, 0, 0, []), (14, .if_icmp .eq 27, 27, 0, []), (17, .iload_n 2, 0, 0, []), (18, .aload_n 0, 0, 0, []), (19, .iload_n 1, 0, 0, []), (20, .aload_n 0, 0, 0, []), (21, .getfield 18, 0, 5, []), (24, .iload_n 3, 0, 0, []), (25, .iaload, 0, 0, []), (26, .invokevirtual 51, 6, 0, []), (29, .aload_n 0, 0, 0, []), (30, .getfield 18, 0, 5, []), (33, .iload_n 3, 0, 0, []), (34, .iaload, 0, 0, []), (35, .isub, 0, 0, []), (36, .invokestatic 61, 261, 0, []), (39, .iadd, 0, 0, []), (40, .istore_n 2, 0, 0, []), (41, .iinc 3 1, 0, 0, []), (44, .goto (-40), 4, 0, []), (47, .iload_n 2, 0, 0, []), (48, .ireturn, 0, 0, [])]
def eX0_untruth : ME := (yX0_untruth, cX0_untruth, 4, (some .int), { frames := 1, cells := 0, slots := 0, locals := 24 }, 2, 0, kX0_untruth)
def kX0_askByLot : List EI := [(0, .iload_n 1, 0, 0, []), (1, .istore_n 2, 0, 0, []), (2, .iconst 0, 0, 0, []), (3, .istore_n 3, 0, 0, []), (4, .iload_n 3, 0, 0, []), (5, .aload_n 0, 0, 0, []), (6, .getfield 30, 0, 0, []), (9, .if_icmp .ge 45, 33, 0, []), (12, .iload_n 2, 0, 0, []), (13, .ldc 82, 1103515245, 0, []), (15, .imul, 0, 0, []), (16, .sipush 12345, 0, 0, []), (19, .iadd, 0, 0, []), (20, .istore_n 2, 0, 0, []), (21, .iload_n 2, 0, 0, []), (22, .ldc 83, 2147483647, 0, []), (24, .iand, 0, 0, []), (25, .ldc 84, 65536, 0, []), (27, .idiv, 0, 0, []), (28, .sipush 128, 0, 0, []), (31, .irem, 0, 0, []), (32, .istore 4, 0, 0, []), (34, .aload_n 0, 0, 0, []), (35, .getfield 24, 0, 7, []), (38, .iload_n 3, 0, 0, []), (39, .iload 4, 0, 0, []), (41, .aload_n 0, 0, 0, []), (42, .iload_n 3, 0, 0, []), (43, .invokevirtual 85, 4, 0, []), (46, .iand, 0, 0, []), (47, .iastore, 0, 0, []), (48, .iinc 3 1, 0, 0, []), (51, .goto (-47), 4, 0, []), (54, .iload_n 2, 0, 0, []), (55, .ireturn, 0, 0, [])]
def eX0_askByLot : ME := (yX0_askByLot, cX0_askByLot, 5, (some .int), { frames := 2, cells := 0, slots := 0, locals := 41 }, 2, 0, kX0_askByLot)
def kX0_sum : List EI := [(0, .iconst 0, 0, 0, []), (1, .istore_n 2, 0, 0, []), (2, .iconst 0, 0, 0, []), (3, .istore_n 3, 0, 0, []), (4, .iload_n 3, 0, 0, []), (5, .aload_n 0, 0, 0, []), (6, .getfield 30, 0, 0, []), (9, .if_icmp .ge 21, 20, 0, []), (12, .iload_n 3, 0, 0, []), (13, .aload_n 1, 0, 0, []), (14, .arraylength, 0, 0, []), (15, .if_icmp .ge 15, 20, 0, []), (18, .iload_n 2, 0, 0, []), (19, .aload_n 1, 0, 0, []), (20, .iload_n 3, 0, 0, []), (21, .iaload, 0, 0, []), (22, .iadd, 0, 0, []), (23, .istore_n 2, 0, 0, []), (24, .iinc 3 1, 0, 0, []), (27, .goto (-23), 4, 0, []), (30, .iload_n 2, 0, 0, []), (31, .ireturn, 0, 0, [])]
def eX0_sum : ME := (yX0_sum, cX0_sum, 4, (some .int), { frames := 0, cells := 0, slots := 0, locals := 0 }, 2, 0, kX0_sum)
def kX1_init : List EI := [(0, .aload_n 0, 0, 0, []), (1, .invokespecial 3, 0, 1, []), (4, .aload_n 0, 0, 0, []), (5, .bipush 96, 0, 0, []), (7, .newarray .int, 0, 0, []), (9, .putfield 9, 1, 1, []), (12, .return_, 0, 0, [])]
def eX1_init : ME := (yX1_init, cX1_init, 1, none, { frames := 1, cells := 1, slots := 96, locals := 20 }, 1, 1, kX1_init)
def kX1_add : List EI := [(0, .aload_n 0, 0, 0, []), (1, .getfield 15, 1, 0, []), (4, .bipush 96, 0, 0, []), (6, .if_icmp .ge 23, 16, 0, []), (9, .aload_n 0, 0, 0, []), (10, .getfield 9, 1, 1, []), (13, .aload_n 0, 0, 0, []), (14, .getfield 15, 1, 0, []), (17, .iload_n 1, 0, 0, []), (18, .iastore, 0, 0, []), (19, .aload_n 0, 0, 0, []), (20, .dup, 0, 0, []), (21, .getfield 15, 1, 0, []), (24, .iconst 1, 0, 0, []), (25, .iadd, 0, 0, []), (26, .putfield 15, 1, 0, []), (29, .aload_n 0, 0, 0, []), (30, .getfield 15, 1, 0, []), (33, .ireturn, 0, 0, [])]
def eX1_add : ME := (yX1_add, cX1_add, 2, (some .int), { frames := 0, cells := 0, slots := 0, locals := 0 }, 2, 1, kX1_add)
def kX1_read : List EI := [(0, .aload_n 0, 0, 0, []), (1, .invokevirtual 19, 24, 0, []), (4, .istore_n 2, 0, 0, []), (5, .iload_n 2, 0, 0, []), (6, .ifCond .lt 9, 9, 0, []), (9, .sipush (-1000), 0, 0, []), (12, .iload_n 2, 0, 0, []), (13, .isub, 0, 0, []), (14, .ireturn, 0, 0, []), (15, .iconst 0, 0, 0, []), (16, .istore_n 3, 0, 0, []), (17, .iconst 0, 0, 0, []), (18, .istore 4, 0, 0, []), (20, .iload 4, 0, 0, []), (22, .aload_n 0, 0, 0, []), (23, .getfield 15, 1, 0, []), (26, .if_icmp .ge 70, 52, 0, []), (29, .iload 4, 0, 0, []), (31, .ifCond .eq 17, 27, 0, []), (34, .aload_n 0, 0, 0, []), (35, .getfield 9, 1, 1, []), (38, .iload 4, 0, 0, []), (40, .iconst 1, 0, 0, []), (41, .isub, 0, 0, []), (42, .iaload, 0, 0, []), (43, .bipush 59, 0, 0, []), (45, .if_icmp .ne 7, 29, 0, []), (48, .iconst 1, 0, 0, []), (49, .goto 4, 30, 0, []), (52, .iconst 0, 0, 0, []), (53, .istore 5, 0, 0, []), (55, .iload 5, 0, 0, []), (57, .ifCond .eq 20, 42, 0, []), (60, .aload_n 0, 0, 0, []), (61, .iload 4, 0, 0, []), (63, .aload_n 1, 0, 0, []), (64, .invokevirtual 23, 27, 0, []), (67, .ifCond .ne 10, 42, 0, []), (70, .sipush (-2000), 0, 0, []), (73, .iload 4, 0, 0, []), (75, .isub, 0, 0, []), (76, .ireturn, 0, 0, []), (77, .iload_n 3, 0, 0, []), (78, .iload 5, 0, 0, []), (80, .ifCond .eq 7, 47, 0, []), (83, .iconst 1, 0, 0, []), (84, .goto 4, 48, 0, []), (87, .iconst 0, 0, 0, []), (88, .iadd, 0, 0, []), (89, .istore_n 3, 0, 0, []), (90, .iinc 4 1, 0, 0, []), (93, .goto (-73), 13, 0, []), (96, .iload_n 3, 0, 0, []), (97, .ireturn, 0, 0, [])]
def eX1_read : ME := (yX1_read, cX1_read, 6, (some .int), { frames := 5, cells := 0, slots := 0, locals := 116 }, 2, 1, kX1_read)
def kX1_digitsBehind : List EI := [(0, .iload_n 0, 0, 0, []), (1, .lookupswitch 67 #[(97, 63), (98, 61), (103, 63), (110, 65), (112, 59), (119, 63)], 0, 0, [6, 4, 6, 8, 2, 6, 10]), (60, .iconst 4, 0, 0, []), (61, .ireturn, 0, 0, []), (62, .iconst 3, 0, 0, []), (63, .ireturn, 0, 0, []), (64, .iconst 2, 0, 0, []), (65, .ireturn, 0, 0, []), (66, .iconst 1, 0, 0, []), (67, .ireturn, 0, 0, []), (68, .bipush (-9), 0, 0, []), (70, .ireturn, 0, 0, [])]
def eX1_digitsBehind : ME := (yX1_digitsBehind, cX1_digitsBehind, 1, (some .int), { frames := 0, cells := 0, slots := 0, locals := 0 }, 1, 99, kX1_digitsBehind)
def kX1_faultOfForm : List EI := [(0, .aload_n 0, 0, 0, []), (1, .getfield 15, 1, 0, []), (4, .ifCond .ne 5, 5, 0, []), (7, .iconst 0, 0, 0, []), (8, .ireturn, 0, 0, []), (9, .iconst 0, 0, 0, []), (10, .istore_n 1, 0, 0, []), (11, .iconst 0, 0, 0, []), (12, .istore_n 2, 0, 0, []), (13, .iconst 0, 0, 0, []), (14, .istore_n 3, 0, 0, []), (15, .iload_n 3, 0, 0, []), (16, .aload_n 0, 0, 0, []), (17, .getfield 15, 1, 0, []), (20, .if_icmp .ge 77, 54, 0, []), (23, .aload_n 0, 0, 0, []), (24, .getfield 9, 1, 1, []), (27, .iload_n 3, 0, 0, []), (28, .iaload, 0, 0, []), (29, .istore 4, 0, 0, []), (31, .iload_n 2, 0, 0, []), (32, .ifCond .ne 22, 33, 0, []), (35, .iload 4, 0, 0, []), (37, .invokestatic 27, 23, 0, []), (40, .istore_n 1, 0, 0, []), (41, .iload_n 1, 0, 0, []), (42, .bipush (-9), 0, 0, []), (44, .if_icmp .ne 5, 30, 0, []), (47, .iload_n 3, 0, 0, []), (48, .ireturn, 0, 0, []), (49, .iconst 1, 0, 0, []), (50, .istore_n 2, 0, 0, []), (51, .goto 40, 52, 0, []), (54, .iload_n 1, 0, 0, []), (55, .ifCond .le 25, 45, 0, []), (58, .iload 4, 0, 0, []), (60, .bipush 48, 0, 0, []), (62, .if_icmp .lt 10, 41, 0, []), (65, .iload 4, 0, 0, []), (67, .bipush 57, 0, 0, []), (69, .if_icmp .le 5, 43, 0, []), (72, .iload_n 3, 0, 0, []), (73, .ireturn, 0, 0, []), (74, .iinc 1 (-1), 0, 0, []), (77, .goto 14, 52, 0, []), (80, .iload 4, 0, 0, []), (82, .bipush 59, 0, 0, []), (84, .if_icmp .eq 5, 50, 0, []), (87, .iload_n 3, 0, 0, []), (88, .ireturn, 0, 0, []), (89, .iconst 0, 0, 0, []), (90, .istore_n 2, 0, 0, []), (91, .iinc 3 1, 0, 0, []), (94, .goto (-79), 11, 0, []), (97, .iload_n 2, 0, 0, []), (98, .ifCond .eq 10, 59, 0, []), (101, .aload_n 0, 0, 0, []), (102, .getfield 15, 1, 0, []), (105, .goto 5, 60, 0, []), (108, .bipush (-9), 0, 0, []), (110, .ireturn, 0, 0, [])]
def eX1_faultOfForm : ME := (yX1_faultOfForm, cX1_faultOfForm, 5, (some .int), { frames := 1, cells := 0, slots := 0, locals := 20 }, 1, 1, kX1_faultOfForm)
def kX1_digit : List EI := [(0, .iload_n 1, 0, 0, []), (1, .aload_n 0, 0, 0, []), (2, .getfield 15, 1, 0, []), (5, .if_icmp .ge 15, 11, 0, []), (8, .aload_n 0, 0, 0, []), (9, .getfield 9, 1, 1, []), (12, .iload_n 1, 0, 0, []), (13, .iaload, 0, 0, []), (14, .bipush 48, 0, 0, []), (16, .isub, 0, 0, []), (17, .goto 4, 12, 0, []), (20, .iconst 0, 0, 0, []), (21, .ireturn, 0, 0, [])]
def eX1_digit : ME := (yX1_digit, cX1_digit, 2, (some .int), { frames := 0, cells := 0, slots := 0, locals := 0 }, 2, 1, kX1_digit)
def kX1_twoDigits : List EI := [(0, .bipush 10, 0, 0, []), (2, .aload_n 0, 0, 0, []), (3, .iload_n 1, 0, 0, []), (4, .invokevirtual 31, 25, 0, []), (7, .imul, 0, 0, []), (8, .aload_n 0, 0, 0, []), (9, .iload_n 1, 0, 0, []), (10, .iconst 1, 0, 0, []), (11, .iadd, 0, 0, []), (12, .invokevirtual 31, 25, 0, []), (15, .iadd, 0, 0, []), (16, .ireturn, 0, 0, [])]
def eX1_twoDigits : ME := (yX1_twoDigits, cX1_twoDigits, 2, (some .int), { frames := 1, cells := 0, slots := 0, locals := 21 }, 2, 1, kX1_twoDigits)
def kX1_comesTrue : List EI := [(0, .aload_n 0, 0, 0, []), (1, .getfield 9, 1, 1, []), (4, .iload_n 1, 0, 0, []), (5, .iaload, 0, 0, []), (6, .lookupswitch 148 #[(97, 60), (98, 82), (103, 126), (112, 50), (119, 104)], 0, 0, [11, 25, 53, 5, 39, 67]), (56, .aload_n 0, 0, 0, []), (57, .iload_n 1, 0, 0, []), (58, .aload_n 2, 0, 0, []), (59, .getfield 34, 4, 0, []), (62, .invokevirtual 40, 28, 0, []), (65, .ireturn, 0, 0, []), (66, .aload_n 2, 0, 0, []), (67, .getfield 34, 4, 0, []), (70, .aload_n 0, 0, 0, []), (71, .iload_n 1, 0, 0, []), (72, .iconst 1, 0, 0, []), (73, .iadd, 0, 0, []), (74, .invokevirtual 31, 25, 0, []), (77, .aload_n 0, 0, 0, []), (78, .iload_n 1, 0, 0, []), (79, .iconst 2, 0, 0, []), (80, .iadd, 0, 0, []), (81, .invokevirtual 31, 25, 0, []), (84, .invokestatic 44, 29, 0, []), (87, .ireturn, 0, 0, []), (88, .aload_n 2, 0, 0, []), (89, .getfield 34, 4, 0, []), (92, .aload_n 0, 0, 0, []), (93, .iload_n 1, 0, 0, []), (94, .iconst 1, 0, 0, []), (95, .iadd, 0, 0, []), (96, .invokevirtual 31, 25, 0, []), (99, .aload_n 0, 0, 0, []), (100, .iload_n 1, 0, 0, []), (101, .iconst 2, 0, 0, []), (102, .iadd, 0, 0, []), (103, .invokevirtual 48, 26, 0, []), (106, .invokestatic 51, 30, 0, []), (109, .ireturn, 0, 0, []), (110, .aload_n 2, 0, 0, []), (111, .getfield 54, 4, 1, []), (114, .aload_n 0, 0, 0, []), (115, .iload_n 1, 0, 0, []), (116, .iconst 1, 0, 0, []), (117, .iadd, 0, 0, []), (118, .invokevirtual 31, 25, 0, []), (121, .aload_n 0, 0, 0, []), (122, .iload_n 1, 0, 0, []), (123, .iconst 2, 0, 0, []), (124, .iadd, 0, 0, []), (125, .invokevirtual 31, 25, 0, []), (128, .invokestatic 58, 31, 0, []), (131, .ireturn, 0, 0, []), (132, .aload_n 2, 0, 0, []), (133, .getfield 54, 4, 1, []), (136, .aload_n 0, 0, 0, []), (137, .iload_n 1, 0, 0, []), (138, .iconst 1, 0, 0, []), (139, .iadd, 0, 0, []), (140, .invokevirtual 31, 25, 0, []), (143, .aload_n 0, 0, 0, []), (144, .iload_n 1, 0, 0, []), (145, .iconst 2, 0, 0, []), (146, .iadd, 0, 0, []), (147, .invokevirtual 31, 25, 0, []), (150, .invokestatic 62, 32, 0, []), (153, .ireturn, 0, 0, []), (154, .aload_n 2, 0, 0, []), (155, .getfield 34, 4, 0, []), (158, .aload_n 0, 0, 0, []), (159, .iload_n 1, 0, 0, []), (160, .iconst 1, 0, 0, []), (161, .iadd, 0, 0, []), (162, .invokevirtual 31, 25, 0, []), (165, .invokestatic 65, 33, 0, []), (168, .ireturn, 0, 0, [])]
def eX1_comesTrue : ME := (yX1_comesTrue, cX1_comesTrue, 3, (some .boolean), { frames := 4, cells := 0, slots := 0, locals := 94 }, 3, 1, kX1_comesTrue)
def kX1_onePersonMore : List EI := [(0, .aload_n 0, 0, 0, []), (1, .iload_n 1, 0, 0, []), (2, .iconst 1, 0, 0, []), (3, .iadd, 0, 0, []), (4, .invokevirtual 31, 25, 0, []), (7, .istore_n 3, 0, 0, []), (8, .iload_n 3, 0, 0, []), (9, .bipush 6, 0, 0, []), (11, .if_icmp .ge 12, 13, 0, []), (14, .aload_n 2, 0, 0, []), (15, .getfield 69, 0, 0, []), (18, .bipush 7, 0, 0, []), (20, .if_icmp .lt 5, 15, 0, []), (23, .iconst 0, 0, 0, []), (24, .ireturn, 0, 0, []), (25, .aload_n 2, 0, 0, []), (26, .iload_n 3, 0, 0, []), (27, .aload_n 0, 0, 0, []), (28, .iload_n 1, 0, 0, []), (29, .iconst 2, 0, 0, []), (30, .iadd, 0, 0, []), (31, .invokevirtual 31, 25, 0, []), (34, .aload_n 0, 0, 0, []), (35, .iload_n 1, 0, 0, []), (36, .iconst 3, 0, 0, []), (37, .iadd, 0, 0, []), (38, .invokevirtual 48, 26, 0, []), (41, .invokevirtual 72, 5, 0, []), (44, .pop, 0, 0, []), (45, .iconst 1, 0, 0, []), (46, .ireturn, 0, 0, [])]
def eX1_onePersonMore : ME := (yX1_onePersonMore, cX1_onePersonMore, 4, (some .boolean), { frames := 2, cells := 0, slots := 0, locals := 42 }, 3, 1, kX1_onePersonMore)
def kX1_oneAsks : List EI := [(0, .aload_n 0, 0, 0, []), (1, .iload_n 1, 0, 0, []), (2, .invokevirtual 76, 2, 0, []), (5, .ifCond .eq 16, 11, 0, []), (8, .aload_n 0, 0, 0, []), (9, .iload_n 2, 0, 0, []), (10, .invokevirtual 76, 2, 0, []), (13, .ifCond .eq 8, 11, 0, []), (16, .iload_n 1, 0, 0, []), (17, .iload_n 2, 0, 0, []), (18, .if_icmp .ne 5, 13, 0, []), (21, .iconst 0, 0, 0, []), (22, .ireturn, 0, 0, []), (23, .aload_n 0, 0, 0, []), (24, .getfield 80, 0, 7, []), (27, .iload_n 1, 0, 0, []), (28, .dup2, 0, 0, []), (29, .iaload, 0, 0, []), (30, .iconst 1, 0, 0, []), (31, .iload_n 2, 0, 0, []), (32, .ishl, 0, 0, []), (33, .ixor, 0, 0, []), (34, .iastore, 0, 0, []), (35, .iconst 1, 0, 0, []), (36, .ireturn, 0, 0, [])]
def eX1_oneAsks : ME := (yX1_oneAsks, cX1_oneAsks, 3, (some .boolean), { frames := 1, cells := 0, slots := 0, locals := 21 }, 3, 99, kX1_oneAsks)
def kX1_oneBelieves : List EI := [(0, .aload_n 0, 0, 0, []), (1, .iload_n 1, 0, 0, []), (2, .invokevirtual 76, 2, 0, []), (5, .ifCond .ne 5, 6, 0, []), (8, .iconst 0, 0, 0, []), (9, .ireturn, 0, 0, []), (10, .aload_n 0, 0, 0, []), (11, .getfield 83, 0, 6, []), (14, .iload_n 1, 0, 0, []), (15, .iload_n 2, 0, 0, []), (16, .iastore, 0, 0, []), (17, .iconst 1, 0, 0, []), (18, .ireturn, 0, 0, [])]
def eX1_oneBelieves : ME := (yX1_oneBelieves, cX1_oneBelieves, 3, (some .boolean), { frames := 1, cells := 0, slots := 0, locals := 21 }, 3, 99, kX1_oneBelieves)
def kX1_wayGoes : List EI := [(0, .iload_n 1, 0, 0, []), (1, .invokestatic 86, 65, 0, []), (4, .ifCond .eq 15, 9, 0, []), (7, .iload_n 2, 0, 0, []), (8, .invokestatic 86, 65, 0, []), (11, .ifCond .eq 8, 9, 0, []), (14, .iload_n 1, 0, 0, []), (15, .iload_n 2, 0, 0, []), (16, .if_icmp .ne 5, 11, 0, []), (19, .iconst 0, 0, 0, []), (20, .ireturn, 0, 0, []), (21, .aload_n 0, 0, 0, []), (22, .iload_n 1, 0, 0, []), (23, .iload_n 2, 0, 0, []), (24, .invokevirtual 89, 44, 0, []), (27, .pop, 0, 0, []), (28, .iconst 1, 0, 0, []), (29, .ireturn, 0, 0, [])]
def eX1_wayGoes : ME := (yX1_wayGoes, cX1_wayGoes, 3, (some .boolean), { frames := 1, cells := 0, slots := 0, locals := 22 }, 3, 99, kX1_wayGoes)
def kX1_thingHangs : List EI := [(0, .iload_n 1, 0, 0, []), (1, .invokestatic 86, 65, 0, []), (4, .ifCond .eq 8, 6, 0, []), (7, .iload_n 2, 0, 0, []), (8, .iconst 4, 0, 0, []), (9, .if_icmp .lt 5, 8, 0, []), (12, .iconst 0, 0, 0, []), (13, .ireturn, 0, 0, []), (14, .aload_n 0, 0, 0, []), (15, .getfield 95, 3, 1, []), (18, .iload_n 1, 0, 0, []), (19, .iload_n 2, 0, 0, []), (20, .iastore, 0, 0, []), (21, .iconst 1, 0, 0, []), (22, .ireturn, 0, 0, [])]
def eX1_thingHangs : ME := (yX1_thingHangs, cX1_thingHangs, 3, (some .boolean), { frames := 1, cells := 0, slots := 0, locals := 20 }, 3, 99, kX1_thingHangs)
def kX1_weeksPass : List EI := [(0, .aload_n 0, 0, 0, []), (1, .getfield 98, 0, 1, []), (4, .iload_n 1, 0, 0, []), (5, .iadd, 0, 0, []), (6, .sipush 999, 0, 0, []), (9, .if_icmp .le 5, 8, 0, []), (12, .iconst 0, 0, 0, []), (13, .ireturn, 0, 0, []), (14, .iconst 0, 0, 0, []), (15, .istore_n 2, 0, 0, []), (16, .iload_n 2, 0, 0, []), (17, .iload_n 1, 0, 0, []), (18, .if_icmp .ge 14, 18, 0, []), (21, .aload_n 0, 0, 0, []), (22, .invokevirtual 101, 8, 0, []), (25, .pop, 0, 0, []), (26, .iinc 2 1, 0, 0, []), (29, .goto (-13), 10, 0, []), (32, .iconst 1, 0, 0, []), (33, .ireturn, 0, 0, [])]
def eX1_weeksPass : ME := (yX1_weeksPass, cX1_weeksPass, 3, (some .boolean), { frames := 3, cells := 0, slots := 0, locals := 72 }, 2, 99, kX1_weeksPass)
def kX2_next : List EI := [(0, .iconst 0, 0, 0, []), (1, .istore_n 2, 0, 0, []), (2, .iconst 0, 0, 0, []), (3, .istore_n 3, 0, 0, []), (4, .iload_n 3, 0, 0, []), (5, .aload_n 0, 0, 0, []), (6, .arraylength, 0, 0, []), (7, .if_icmp .ge 23, 20, 0, []), (10, .iload_n 1, 0, 0, []), (11, .iload_n 3, 0, 0, []), (12, .invokestatic 9, 66, 0, []), (15, .ifCond .eq 9, 18, 0, []), (18, .iload_n 2, 0, 0, []), (19, .aload_n 0, 0, 0, []), (20, .iload_n 3, 0, 0, []), (21, .iaload, 0, 0, []), (22, .ior, 0, 0, []), (23, .istore_n 2, 0, 0, []), (24, .iinc 3 1, 0, 0, []), (27, .goto (-23), 4, 0, []), (30, .iload_n 2, 0, 0, []), (31, .ireturn, 0, 0, [])]
def eX2_next : ME := (yX2_next, cX2_next, 4, (some .int), { frames := 1, cells := 0, slots := 0, locals := 21 }, 2, 99, kX2_next)
def kX2_reach : List EI := [(0, .iload_n 1, 0, 0, []), (1, .istore_n 3, 0, 0, []), (2, .iconst 0, 0, 0, []), (3, .istore 4, 0, 0, []), (5, .iload 4, 0, 0, []), (7, .aload_n 0, 0, 0, []), (8, .arraylength, 0, 0, []), (9, .if_icmp .ge 19, 18, 0, []), (12, .iload_n 3, 0, 0, []), (13, .aload_n 0, 0, 0, []), (14, .iload_n 3, 0, 0, []), (15, .invokestatic 13, 34, 0, []), (18, .iload_n 2, 0, 0, []), (19, .iand, 0, 0, []), (20, .ior, 0, 0, []), (21, .istore_n 3, 0, 0, []), (22, .iinc 4 1, 0, 0, []), (25, .goto (-20), 4, 0, []), (28, .iload_n 3, 0, 0, []), (29, .ireturn, 0, 0, [])]
def eX2_reach : ME := (yX2_reach, cX2_reach, 5, (some .int), { frames := 2, cells := 0, slots := 0, locals := 44 }, 3, 99, kX2_reach)
def kX2_distance : List EI := [(0, .iconst 1, 0, 0, []), (1, .iload_n 1, 0, 0, []), (2, .ishl, 0, 0, []), (3, .istore_n 3, 0, 0, []), (4, .iconst 0, 0, 0, []), (5, .istore 4, 0, 0, []), (7, .iload 4, 0, 0, []), (9, .aload_n 0, 0, 0, []), (10, .arraylength, 0, 0, []), (11, .if_icmp .ge 28, 24, 0, []), (14, .iload_n 3, 0, 0, []), (15, .iload_n 2, 0, 0, []), (16, .invokestatic 9, 66, 0, []), (19, .ifCond .eq 6, 16, 0, []), (22, .iload 4, 0, 0, []), (24, .ireturn, 0, 0, []), (25, .iload_n 3, 0, 0, []), (26, .aload_n 0, 0, 0, []), (27, .iload_n 3, 0, 0, []), (28, .invokestatic 13, 34, 0, []), (31, .ior, 0, 0, []), (32, .istore_n 3, 0, 0, []), (33, .iinc 4 1, 0, 0, []), (36, .goto (-29), 6, 0, []), (39, .bipush (-9), 0, 0, []), (41, .ireturn, 0, 0, [])]
def eX2_distance : ME := (yX2_distance, cX2_distance, 5, (some .int), { frames := 2, cells := 0, slots := 0, locals := 44 }, 3, 99, kX2_distance)
def kX2_farthest : List EI := [(0, .aload_n 0, 0, 0, []), (1, .iconst 1, 0, 0, []), (2, .iload_n 1, 0, 0, []), (3, .ishl, 0, 0, []), (4, .iconst (-1), 0, 0, []), (5, .invokestatic 19, 35, 0, []), (8, .istore_n 2, 0, 0, []), (9, .iconst 1, 0, 0, []), (10, .iload_n 1, 0, 0, []), (11, .ishl, 0, 0, []), (12, .istore_n 3, 0, 0, []), (13, .iconst 0, 0, 0, []), (14, .istore 4, 0, 0, []), (16, .iconst 1, 0, 0, []), (17, .istore 5, 0, 0, []), (19, .iload 5, 0, 0, []), (21, .aload_n 0, 0, 0, []), (22, .arraylength, 0, 0, []), (23, .if_icmp .ge 26, 32, 0, []), (26, .iload_n 3, 0, 0, []), (27, .iload_n 2, 0, 0, []), (28, .if_icmp .eq 21, 32, 0, []), (31, .iload_n 3, 0, 0, []), (32, .aload_n 0, 0, 0, []), (33, .iload_n 3, 0, 0, []), (34, .invokestatic 13, 34, 0, []), (37, .ior, 0, 0, []), (38, .istore_n 3, 0, 0, []), (39, .iload 5, 0, 0, []), (41, .istore 4, 0, 0, []), (43, .iinc 5 1, 0, 0, []), (46, .goto (-27), 15, 0, []), (49, .iload 4, 0, 0, []), (51, .ireturn, 0, 0, [])]
def eX2_farthest : ME := (yX2_farthest, cX2_farthest, 6, (some .int), { frames := 3, cells := 0, slots := 0, locals := 68 }, 2, 99, kX2_farthest)
def kX3_init : List EI := [(0, .aload_n 0, 0, 0, []), (1, .invokespecial 3, 0, 1, []), (4, .aload_n 0, 0, 0, []), (5, .bipush 8, 0, 0, []), (7, .anewarray 9, 0, 0, []), (10, .putfield 11, 2, 1, []), (13, .iconst 0, 0, 0, []), (14, .istore_n 1, 0, 0, []), (15, .iload_n 1, 0, 0, []), (16, .bipush 8, 0, 0, []), (18, .if_icmp .ge 22, 20, 0, []), (21, .aload_n 0, 0, 0, []), (22, .getfield 11, 2, 1, []), (25, .iload_n 1, 0, 0, []), (26, .new 9, 0, 0, []), (29, .dup, 0, 0, []), (30, .invokespecial 17, 0, 0, []), (33, .aastore, 0, 0, []), (34, .iinc 1 1, 0, 0, []), (37, .goto (-22), 8, 0, []), (40, .return_, 0, 0, [])]
def eX3_init : ME := (yX3_init, cX3_init, 2, none, { frames := 2, cells := 57, slots := 416, locals := 40 }, 1, 2, kX3_init)
def kX3_keep : List EI := [(0, .aload_n 0, 0, 0, []), (1, .getfield 18, 2, 0, []), (4, .bipush 8, 0, 0, []), (6, .if_icmp .lt 7, 6, 0, []), (9, .aload_n 0, 0, 0, []), (10, .invokevirtual 22, 40, 0, []), (13, .aload_n 0, 0, 0, []), (14, .getfield 11, 2, 1, []), (17, .aload_n 0, 0, 0, []), (18, .getfield 18, 2, 0, []), (21, .aaload, 0, 0, []), (22, .aload_n 1, 0, 0, []), (23, .invokevirtual 25, 1, 0, []), (26, .aload_n 0, 0, 0, []), (27, .dup, 0, 0, []), (28, .getfield 18, 2, 0, []), (31, .iconst 1, 0, 0, []), (32, .iadd, 0, 0, []), (33, .putfield 18, 2, 0, []), (36, .return_, 0, 0, [])]
def eX3_keep : ME := (yX3_keep, cX3_keep, 2, none, { frames := 2, cells := 0, slots := 0, locals := 69 }, 2, 2, kX3_keep)
def kX3_dropOldest : List EI := [(0, .aload_n 0, 0, 0, []), (1, .getfield 11, 2, 1, []), (4, .iconst 0, 0, 0, []), (5, .aaload, 0, 0, []), (6, .astore_n 1, 0, 0, []), (7, .iconst 1, 0, 0, []), (8, .istore_n 2, 0, 0, []), (9, .iload_n 2, 0, 0, []), (10, .bipush 8, 0, 0, []), (12, .if_icmp .ge 23, 22, 0, []), (15, .aload_n 0, 0, 0, []), (16, .getfield 11, 2, 1, []), (19, .iload_n 2, 0, 0, []), (20, .iconst 1, 0, 0, []), (21, .isub, 0, 0, []), (22, .aload_n 0, 0, 0, []), (23, .getfield 11, 2, 1, []), (26, .iload_n 2, 0, 0, []), (27, .aaload, 0, 0, []), (28, .aastore, 0, 0, []), (29, .iinc 2 1, 0, 0, []), (32, .goto (-23), 7, 0, []), (35, .aload_n 0, 0, 0, []), (36, .getfield 11, 2, 1, []), (39, .bipush 7, 0, 0, []), (41, .aload_n 1, 0, 0, []), (42, .aastore, 0, 0, []), (43, .aload_n 0, 0, 0, []), (44, .bipush 7, 0, 0, []), (46, .putfield 18, 2, 0, []), (49, .return_, 0, 0, [])]
def eX3_dropOldest : ME := (yX3_dropOldest, cX3_dropOldest, 3, none, { frames := 0, cells := 0, slots := 0, locals := 0 }, 1, 2, kX3_dropOldest)
def kX3_takeBack : List EI := [(0, .aload_n 0, 0, 0, []), (1, .getfield 18, 2, 0, []), (4, .ifCond .le 26, 16, 0, []), (7, .aload_n 0, 0, 0, []), (8, .dup, 0, 0, []), (9, .getfield 18, 2, 0, []), (12, .iconst 1, 0, 0, []), (13, .isub, 0, 0, []), (14, .putfield 18, 2, 0, []), (17, .aload_n 1, 0, 0, []), (18, .aload_n 0, 0, 0, []), (19, .getfield 11, 2, 1, []), (22, .aload_n 0, 0, 0, []), (23, .getfield 18, 2, 0, []), (26, .aaload, 0, 0, []), (27, .invokevirtual 25, 1, 0, []), (30, .aload_n 0, 0, 0, []), (31, .getfield 18, 2, 0, []), (34, .ireturn, 0, 0, [])]
def eX3_takeBack : ME := (yX3_takeBack, cX3_takeBack, 2, (some .int), { frames := 2, cells := 0, slots := 0, locals := 69 }, 2, 2, kX3_takeBack)
def kX4_init : List EI := [(0, .aload_n 0, 0, 0, []), (1, .invokespecial 3, 0, 1, []), (4, .aload_n 0, 0, 0, []), (5, .bipush 8, 0, 0, []), (7, .newarray .int, 0, 0, []), (9, .putfield 9, 3, 0, []), (12, .aload_n 0, 0, 0, []), (13, .bipush 8, 0, 0, []), (15, .newarray .int, 0, 0, []), (17, .putfield 15, 3, 1, []), (20, .aload_n 0, 0, 0, []), (21, .bipush 8, 0, 0, []), (23, .newarray .int, 0, 0, []), (25, .putfield 18, 3, 2, []), (28, .return_, 0, 0, [])]
def eX4_init : ME := (yX4_init, cX4_init, 1, none, { frames := 1, cells := 3, slots := 24, locals := 20 }, 1, 3, kX4_init)
def kX4_copyFrom : List EI := [(0, .aload_n 1, 0, 0, []), (1, .getfield 9, 3, 0, []), (4, .iconst 0, 0, 0, []), (5, .aload_n 0, 0, 0, []), (6, .getfield 9, 3, 0, []), (9, .iconst 0, 0, 0, []), (10, .bipush 8, 0, 0, []), (12, .invokestatic 21, 0, 2, []), (15, .aload_n 1, 0, 0, []), (16, .getfield 15, 3, 1, []), (19, .iconst 0, 0, 0, []), (20, .aload_n 0, 0, 0, []), (21, .getfield 15, 3, 1, []), (24, .iconst 0, 0, 0, []), (25, .bipush 8, 0, 0, []), (27, .invokestatic 21, 0, 2, []), (30, .return_, 0, 0, [])]
def eX4_copyFrom : ME := (yX4_copyFrom, cX4_copyFrom, 2, none, { frames := 1, cells := 0, slots := 0, locals := 48 }, 2, 3, kX4_copyFrom)
def kX4_join : List EI := [(0, .aload_n 0, 0, 0, []), (1, .getfield 9, 3, 0, []), (4, .iload_n 1, 0, 0, []), (5, .dup2, 0, 0, []), (6, .iaload, 0, 0, []), (7, .iconst 1, 0, 0, []), (8, .iload_n 2, 0, 0, []), (9, .ishl, 0, 0, []), (10, .ixor, 0, 0, []), (11, .iastore, 0, 0, []), (12, .aload_n 0, 0, 0, []), (13, .getfield 9, 3, 0, []), (16, .iload_n 2, 0, 0, []), (17, .dup2, 0, 0, []), (18, .iaload, 0, 0, []), (19, .iconst 1, 0, 0, []), (20, .iload_n 1, 0, 0, []), (21, .ishl, 0, 0, []), (22, .ixor, 0, 0, []), (23, .iastore, 0, 0, []), (24, .aload_n 0, 0, 0, []), (25, .getfield 9, 3, 0, []), (28, .iload_n 1, 0, 0, []), (29, .iaload, 0, 0, []), (30, .iload_n 2, 0, 0, []), (31, .ishr, 0, 0, []), (32, .iconst 1, 0, 0, []), (33, .iand, 0, 0, []), (34, .ireturn, 0, 0, [])]
def eX4_join : ME := (yX4_join, cX4_join, 3, (some .int), { frames := 0, cells := 0, slots := 0, locals := 0 }, 3, 3, kX4_join)
def kX4_countWays : List EI := [(0, .iconst 0, 0, 0, []), (1, .istore_n 1, 0, 0, []), (2, .iconst 0, 0, 0, []), (3, .istore_n 2, 0, 0, []), (4, .iload_n 2, 0, 0, []), (5, .bipush 8, 0, 0, []), (7, .if_icmp .ge 21, 17, 0, []), (10, .iload_n 1, 0, 0, []), (11, .aload_n 0, 0, 0, []), (12, .getfield 9, 3, 0, []), (15, .iload_n 2, 0, 0, []), (16, .iaload, 0, 0, []), (17, .invokestatic 27, 260, 0, []), (20, .iadd, 0, 0, []), (21, .istore_n 1, 0, 0, []), (22, .iinc 2 1, 0, 0, []), (25, .goto (-21), 4, 0, []), (28, .iload_n 1, 0, 0, []), (29, .iconst 2, 0, 0, []), (30, .idiv, 0, 0, []), (31, .ireturn, 0, 0, [])]
def eX4_countWays : ME := (yX4_countWays, cX4_countWays, 3, (some .int), { frames := 1, cells := 0, slots := 0, locals := 20 }, 1, 3, kX4_countWays)
def kX4_glancesAt : List EI := [(0, .aload_n 0, 0, 0, []), (1, .getfield 15, 3, 1, []), (4, .iload_n 1, 0, 0, []), (5, .iaload, 0, 0, []), (6, .istore_n 2, 0, 0, []), (7, .iload_n 2, 0, 0, []), (8, .iconst 3, 0, 0, []), (9, .if_icmp .ne 6, 10, 0, []), (12, .bipush 7, 0, 0, []), (14, .ireturn, 0, 0, []), (15, .iload_n 2, 0, 0, []), (16, .iconst 2, 0, 0, []), (17, .if_icmp .ne 7, 15, 0, []), (20, .iconst 3, 0, 0, []), (21, .goto 4, 16, 0, []), (24, .iload_n 2, 0, 0, []), (25, .ireturn, 0, 0, [])]
def eX4_glancesAt : ME := (yX4_glancesAt, cX4_glancesAt, 3, (some .int), { frames := 0, cells := 0, slots := 0, locals := 0 }, 2, 3, kX4_glancesAt)
def kX4_bare : List EI := [(0, .iconst 0, 0, 0, []), (1, .istore_n 1, 0, 0, []), (2, .iconst 0, 0, 0, []), (3, .istore_n 2, 0, 0, []), (4, .iload_n 2, 0, 0, []), (5, .bipush 8, 0, 0, []), (7, .if_icmp .ge 23, 19, 0, []), (10, .aload_n 0, 0, 0, []), (11, .iload_n 2, 0, 0, []), (12, .invokevirtual 33, 46, 0, []), (15, .ifCond .ne 9, 17, 0, []), (18, .iload_n 1, 0, 0, []), (19, .iconst 1, 0, 0, []), (20, .iload_n 2, 0, 0, []), (21, .ishl, 0, 0, []), (22, .ior, 0, 0, []), (23, .istore_n 1, 0, 0, []), (24, .iinc 2 1, 0, 0, []), (27, .goto (-23), 4, 0, []), (30, .iload_n 1, 0, 0, []), (31, .ireturn, 0, 0, [])]
def eX4_bare : ME := (yX4_bare, cX4_bare, 3, (some .int), { frames := 1, cells := 0, slots := 0, locals := 22 }, 1, 3, kX4_bare)
def kX4_route : List EI := [(0, .aload_n 0, 0, 0, []), (1, .getfield 18, 3, 2, []), (4, .ldc 36, 1000000, 0, []), (6, .invokestatic 37, 264, 0, []), (9, .aload_n 0, 0, 0, []), (10, .getfield 18, 3, 2, []), (13, .iload_n 1, 0, 0, []), (14, .bipush 16, 0, 0, []), (16, .aload_n 0, 0, 0, []), (17, .iload_n 1, 0, 0, []), (18, .invokevirtual 33, 46, 0, []), (21, .imul, 0, 0, []), (22, .iastore, 0, 0, []), (23, .iconst 1, 0, 0, []), (24, .istore_n 3, 0, 0, []), (25, .iload_n 3, 0, 0, []), (26, .bipush 8, 0, 0, []), (28, .if_icmp .ge 31, 30, 0, []), (31, .iconst 0, 0, 0, []), (32, .istore 4, 0, 0, []), (34, .iload 4, 0, 0, []), (36, .bipush 8, 0, 0, []), (38, .if_icmp .ge 15, 28, 0, []), (41, .aload_n 0, 0, 0, []), (42, .iload 4, 0, 0, []), (44, .invokevirtual 43, 49, 0, []), (47, .iinc 4 1, 0, 0, []), (50, .goto (-16), 20, 0, []), (53, .iinc 3 1, 0, 0, []), (56, .goto (-31), 15, 0, []), (59, .aload_n 0, 0, 0, []), (60, .getfield 18, 3, 2, []), (63, .iload_n 2, 0, 0, []), (64, .iaload, 0, 0, []), (65, .ireturn, 0, 0, [])]
def eX4_route : ME := (yX4_route, cX4_route, 5, (some .int), { frames := 2, cells := 0, slots := 0, locals := 45 }, 3, 3, kX4_route)
def kX4_goOnFrom : List EI := [(0, .aload_n 0, 0, 0, []), (1, .getfield 18, 3, 2, []), (4, .iload_n 1, 0, 0, []), (5, .iaload, 0, 0, []), (6, .ldc 36, 1000000, 0, []), (8, .if_icmp .ne 4, 7, 0, []), (11, .return_, 0, 0, []), (12, .iconst 0, 0, 0, []), (13, .istore_n 2, 0, 0, []), (14, .iload_n 2, 0, 0, []), (15, .bipush 8, 0, 0, []), (17, .if_icmp .ge 56, 44, 0, []), (20, .aload_n 0, 0, 0, []), (21, .getfield 9, 3, 0, []), (24, .iload_n 1, 0, 0, []), (25, .iaload, 0, 0, []), (26, .iload_n 2, 0, 0, []), (27, .invokestatic 47, 66, 0, []), (30, .ifCond .eq 37, 42, 0, []), (33, .aload_n 0, 0, 0, []), (34, .getfield 18, 3, 2, []), (37, .iload_n 1, 0, 0, []), (38, .iaload, 0, 0, []), (39, .bipush 16, 0, 0, []), (41, .aload_n 0, 0, 0, []), (42, .iload_n 2, 0, 0, []), (43, .invokevirtual 33, 46, 0, []), (46, .imul, 0, 0, []), (47, .iadd, 0, 0, []), (48, .iconst 1, 0, 0, []), (49, .iadd, 0, 0, []), (50, .istore_n 3, 0, 0, []), (51, .aload_n 0, 0, 0, []), (52, .getfield 18, 3, 2, []), (55, .iload_n 2, 0, 0, []), (56, .aload_n 0, 0, 0, []), (57, .getfield 18, 3, 2, []), (60, .iload_n 2, 0, 0, []), (61, .iaload, 0, 0, []), (62, .iload_n 3, 0, 0, []), (63, .invokestatic 51, 263, 0, []), (66, .iastore, 0, 0, []), (67, .iinc 2 1, 0, 0, []), (70, .goto (-56), 9, 0, []), (73, .return_, 0, 0, [])]
def eX4_goOnFrom : ME := (yX4_goOnFrom, cX4_goOnFrom, 4, none, { frames := 1, cells := 0, slots := 0, locals := 22 }, 2, 3, kX4_goOnFrom)
def kX4_routeCovered : List EI := [(0, .aload_n 0, 0, 0, []), (1, .getfield 15, 3, 1, []), (4, .iload_n 3, 0, 0, []), (5, .iaload, 0, 0, []), (6, .istore 4, 0, 0, []), (8, .aload_n 0, 0, 0, []), (9, .getfield 15, 3, 1, []), (12, .iload_n 3, 0, 0, []), (13, .iconst 0, 0, 0, []), (14, .iastore, 0, 0, []), (15, .aload_n 0, 0, 0, []), (16, .iload_n 1, 0, 0, []), (17, .iload_n 2, 0, 0, []), (18, .invokevirtual 57, 48, 0, []), (21, .istore 5, 0, 0, []), (23, .aload_n 0, 0, 0, []), (24, .getfield 15, 3, 1, []), (27, .iload_n 3, 0, 0, []), (28, .iload 4, 0, 0, []), (30, .iastore, 0, 0, []), (31, .iload 5, 0, 0, []), (33, .ireturn, 0, 0, [])]
def eX4_routeCovered : ME := (yX4_routeCovered, cX4_routeCovered, 6, (some .int), { frames := 3, cells := 0, slots := 0, locals := 69 }, 4, 3, kX4_routeCovered)
def kX5_init : List EI := [(0, .aload_n 0, 0, 0, []), (1, .invokespecial 1, 0, 1, []), (4, .aload_n 0, 0, 0, []), (5, .new 7, 0, 0, []), (8, .dup, 0, 0, []), (9, .invokespecial 9, 0, 0, []), (12, .putfield 10, 4, 0, []), (15, .aload_n 0, 0, 0, []), (16, .new 16, 3, 0, []), (19, .dup, 0, 0, []), (20, .invokespecial 18, 42, 0, []), (23, .putfield 19, 4, 1, []), (26, .return_, 0, 0, [])]
def eX5_init : ME := (yX5_init, cX5_init, 1, none, { frames := 2, cells := 11, slots := 78, locals := 40 }, 1, 4, kX5_init)
def kX5_copyFrom : List EI := [(0, .aload_n 0, 0, 0, []), (1, .getfield 10, 4, 0, []), (4, .aload_n 1, 0, 0, []), (5, .getfield 10, 4, 0, []), (8, .invokevirtual 23, 1, 0, []), (11, .aload_n 0, 0, 0, []), (12, .getfield 19, 4, 1, []), (15, .aload_n 1, 0, 0, []), (16, .getfield 19, 4, 1, []), (19, .invokevirtual 27, 43, 0, []), (22, .return_, 0, 0, [])]
def eX5_copyFrom : ME := (yX5_copyFrom, cX5_copyFrom, 2, none, { frames := 2, cells := 0, slots := 0, locals := 69 }, 2, 4, kX5_copyFrom)
def kX6_init : List EI := [(0, .aload_n 0, 0, 0, []), (1, .invokespecial 1, 0, 1, []), (4, .aload_n 0, 0, 0, []), (5, .new 7, 4, 0, []), (8, .dup, 0, 0, []), (9, .invokespecial 9, 51, 0, []), (12, .putfield 10, 5, 0, []), (15, .aload_n 0, 0, 0, []), (16, .new 7, 4, 0, []), (19, .dup, 0, 0, []), (20, .invokespecial 9, 51, 0, []), (23, .putfield 16, 5, 1, []), (26, .aload_n 0, 0, 0, []), (27, .new 7, 4, 0, []), (30, .dup, 0, 0, []), (31, .invokespecial 9, 51, 0, []), (34, .putfield 19, 5, 2, []), (37, .aload_n 0, 0, 0, []), (38, .new 22, 0, 0, []), (41, .dup, 0, 0, []), (42, .invokespecial 24, 0, 0, []), (45, .putfield 25, 5, 4, []), (48, .aload_n 0, 0, 0, []), (49, .new 29, 2, 0, []), (52, .dup, 0, 0, []), (53, .invokespecial 31, 38, 0, []), (56, .putfield 32, 5, 5, []), (59, .aload_n 0, 0, 0, []), (60, .new 36, 1, 0, []), (63, .dup, 0, 0, []), (64, .invokespecial 38, 20, 0, []), (67, .putfield 39, 5, 6, []), (70, .aload_n 0, 0, 0, []), (71, .bipush 12, 0, 0, []), (73, .newarray .int, 0, 0, []), (75, .putfield 43, 5, 7, []), (78, .aload_n 0, 0, 0, []), (79, .bipush 7, 0, 0, []), (81, .newarray .int, 0, 0, []), (83, .putfield 47, 5, 9, []), (86, .aload_n 0, 0, 0, []), (87, .bipush 100, 0, 0, []), (89, .newarray .int, 0, 0, []), (91, .putfield 50, 5, 10, []), (94, .aload_n 0, 0, 0, []), (95, .sipush 128, 0, 0, []), (98, .newarray .int, 0, 0, []), (100, .putfield 53, 5, 11, []), (103, .aload_n 0, 0, 0, []), (104, .sipush 256, 0, 0, []), (107, .newarray .int, 0, 0, []), (109, .putfield 56, 5, 12, []), (112, .aload_n 0, 0, 0, []), (113, .sipush 256, 0, 0, []), (116, .newarray .int, 0, 0, []), (118, .putfield 59, 5, 13, []), (121, .return_, 0, 0, [])]
def eX6_init : ME := (yX6_init, cX6_init, 1, none, { frames := 3, cells := 109, slots := 1566, locals := 61 }, 1, 5, kX6_init)
def kX6_refuse : List EI := [(0, .iload_n 1, 0, 0, []), (1, .ineg, 0, 0, []), (2, .istore_n 2, 0, 0, []), (3, .iload_n 2, 0, 0, []), (4, .ifCond .lt 22, 18, 0, []), (7, .iload_n 2, 0, 0, []), (8, .aload_n 0, 0, 0, []), (9, .getfield 47, 5, 9, []), (12, .arraylength, 0, 0, []), (13, .if_icmp .ge 13, 18, 0, []), (16, .aload_n 0, 0, 0, []), (17, .getfield 47, 5, 9, []), (20, .iload_n 2, 0, 0, []), (21, .dup2, 0, 0, []), (22, .iaload, 0, 0, []), (23, .iconst 1, 0, 0, []), (24, .iadd, 0, 0, []), (25, .iastore, 0, 0, []), (26, .iload_n 1, 0, 0, []), (27, .ireturn, 0, 0, [])]
def eX6_refuse : ME := (yX6_refuse, cX6_refuse, 3, (some .int), { frames := 0, cells := 0, slots := 0, locals := 0 }, 2, 5, kX6_refuse)
def kX6_first : List EI := [(0, .iload_n 0, 0, 0, []), (1, .ifCond .eq 7, 4, 0, []), (4, .iload_n 0, 0, 0, []), (5, .goto 4, 5, 0, []), (8, .iload_n 1, 0, 0, []), (9, .ireturn, 0, 0, [])]
def eX6_first : ME := (yX6_first, cX6_first, 2, (some .int), { frames := 0, cells := 0, slots := 0, locals := 0 }, 2, 99, kX6_first)
def kX6_noPerson : List EI := [(0, .aload_n 0, 0, 0, []), (1, .getfield 10, 5, 0, []), (4, .getfield 62, 4, 0, []), (7, .iload_n 1, 0, 0, []), (8, .invokevirtual 65, 2, 0, []), (11, .ifCond .eq 7, 8, 0, []), (14, .iconst 0, 0, 0, []), (15, .goto 4, 9, 0, []), (18, .iconst (-1), 0, 0, []), (19, .ireturn, 0, 0, [])]
def eX6_noPerson : ME := (yX6_noPerson, cX6_noPerson, 2, (some .int), { frames := 1, cells := 0, slots := 0, locals := 21 }, 2, 5, kX6_noPerson)
def kX6_noTwo : List EI := [(0, .aload_n 0, 0, 0, []), (1, .getfield 10, 5, 0, []), (4, .getfield 62, 4, 0, []), (7, .iload_n 1, 0, 0, []), (8, .invokevirtual 65, 2, 0, []), (11, .ifCond .eq 26, 17, 0, []), (14, .aload_n 0, 0, 0, []), (15, .getfield 10, 5, 0, []), (18, .getfield 62, 4, 0, []), (21, .iload_n 2, 0, 0, []), (22, .invokevirtual 65, 2, 0, []), (25, .ifCond .eq 12, 17, 0, []), (28, .iload_n 1, 0, 0, []), (29, .iload_n 2, 0, 0, []), (30, .if_icmp .eq 7, 17, 0, []), (33, .iconst 0, 0, 0, []), (34, .goto 4, 18, 0, []), (37, .iconst (-1), 0, 0, []), (38, .ireturn, 0, 0, [])]
def eX6_noTwo : ME := (yX6_noTwo, cX6_noTwo, 3, (some .int), { frames := 1, cells := 0, slots := 0, locals := 21 }, 3, 5, kX6_noTwo)
def kX6_noPlace : List EI := [(0, .iload_n 0, 0, 0, []), (1, .invokestatic 69, 65, 0, []), (4, .ifCond .eq 7, 5, 0, []), (7, .iconst 0, 0, 0, []), (8, .goto 4, 6, 0, []), (11, .iconst (-1), 0, 0, []), (12, .ireturn, 0, 0, [])]
def eX6_noPlace : ME := (yX6_noPlace, cX6_noPlace, 1, (some .int), { frames := 1, cells := 0, slots := 0, locals := 20 }, 1, 99, kX6_noPlace)
def kX6_noPlaces : List EI := [(0, .iload_n 0, 0, 0, []), (1, .invokestatic 69, 65, 0, []), (4, .ifCond .eq 14, 8, 0, []), (7, .iload_n 1, 0, 0, []), (8, .invokestatic 69, 65, 0, []), (11, .ifCond .eq 7, 8, 0, []), (14, .iconst 0, 0, 0, []), (15, .goto 4, 9, 0, []), (18, .iconst (-1), 0, 0, []), (19, .ireturn, 0, 0, [])]
def eX6_noPlaces : ME := (yX6_noPlaces, cX6_noPlaces, 2, (some .int), { frames := 1, cells := 0, slots := 0, locals := 20 }, 2, 99, kX6_noPlaces)
def kX6_noChoice : List EI := [(0, .iload_n 0, 0, 0, []), (1, .ifCond .lt 12, 7, 0, []), (4, .iload_n 0, 0, 0, []), (5, .iload_n 1, 0, 0, []), (6, .if_icmp .ge 7, 7, 0, []), (9, .iconst 0, 0, 0, []), (10, .goto 5, 8, 0, []), (13, .bipush (-2), 0, 0, []), (15, .ireturn, 0, 0, [])]
def eX6_noChoice : ME := (yX6_noChoice, cX6_noChoice, 2, (some .int), { frames := 0, cells := 0, slots := 0, locals := 0 }, 2, 99, kX6_noChoice)
def kX6_outside : List EI := [(0, .iload_n 0, 0, 0, []), (1, .iload_n 1, 0, 0, []), (2, .if_icmp .ge 6, 5, 0, []), (5, .bipush (-4), 0, 0, []), (7, .ireturn, 0, 0, []), (8, .iload_n 0, 0, 0, []), (9, .iload_n 2, 0, 0, []), (10, .if_icmp .le 8, 10, 0, []), (13, .bipush (-6), 0, 0, []), (15, .goto 4, 11, 0, []), (18, .iconst 0, 0, 0, []), (19, .ireturn, 0, 0, [])]
def eX6_outside : ME := (yX6_outside, cX6_outside, 3, (some .int), { frames := 0, cells := 0, slots := 0, locals := 0 }, 3, 99, kX6_outside)
def kX6_outside_ : List EI := [(0, .iload_n 0, 0, 0, []), (1, .ifCond .lt 8, 5, 0, []), (4, .iload_n 2, 0, 0, []), (5, .iload_n 3, 0, 0, []), (6, .if_icmp .ge 6, 7, 0, []), (9, .bipush (-4), 0, 0, []), (11, .ireturn, 0, 0, []), (12, .iload_n 0, 0, 0, []), (13, .iload_n 1, 0, 0, []), (14, .if_icmp .gt 9, 13, 0, []), (17, .iload_n 2, 0, 0, []), (18, .iload 4, 0, 0, []), (20, .if_icmp .le 8, 15, 0, []), (23, .bipush (-6), 0, 0, []), (25, .goto 4, 16, 0, []), (28, .iconst 0, 0, 0, []), (29, .ireturn, 0, 0, [])]
def eX6_outside_ : ME := (yX6_outside_, cX6_outside_, 5, (some .int), { frames := 0, cells := 0, slots := 0, locals := 0 }, 5, 99, kX6_outside_)
def kX6_asksNobody : List EI := [(0, .aload_n 0, 0, 0, []), (1, .getfield 10, 5, 0, []), (4, .getfield 62, 4, 0, []), (7, .getfield 72, 0, 7, []), (10, .iload_n 1, 0, 0, []), (11, .iaload, 0, 0, []), (12, .ifCond .ne 8, 9, 0, []), (15, .bipush (-3), 0, 0, []), (17, .goto 4, 10, 0, []), (20, .iconst 0, 0, 0, []), (21, .ireturn, 0, 0, [])]
def eX6_asksNobody : ME := (yX6_asksNobody, cX6_asksNobody, 2, (some .int), { frames := 0, cells := 0, slots := 0, locals := 0 }, 2, 5, kX6_asksNobody)
def kX6_rowTooLong : List EI := [(0, .aload_n 0, 0, 0, []), (1, .getfield 75, 5, 8, []), (4, .aload_n 0, 0, 0, []), (5, .getfield 10, 5, 0, []), (8, .getfield 62, 4, 0, []), (11, .getfield 79, 0, 0, []), (14, .if_icmp .le 8, 9, 0, []), (17, .bipush (-3), 0, 0, []), (19, .goto 4, 10, 0, []), (22, .iconst 0, 0, 0, []), (23, .ireturn, 0, 0, [])]
def eX6_rowTooLong : ME := (yX6_rowTooLong, cX6_rowTooLong, 1, (some .int), { frames := 0, cells := 0, slots := 0, locals := 0 }, 1, 5, kX6_rowTooLong)
def kX6_isPlace : List EI := [(0, .iload_n 0, 0, 0, []), (1, .ifCond .lt 13, 7, 0, []), (4, .iload_n 0, 0, 0, []), (5, .bipush 8, 0, 0, []), (7, .if_icmp .ge 7, 7, 0, []), (10, .iconst 1, 0, 0, []), (11, .goto 4, 8, 0, []), (14, .iconst 0, 0, 0, []), (15, .ireturn, 0, 0, [])]
def eX6_isPlace : ME := (yX6_isPlace, cX6_isPlace, 1, (some .boolean), { frames := 0, cells := 0, slots := 0, locals := 0 }, 1, 99, kX6_isPlace)
def kX6_holds : List EI := [(0, .iload_n 0, 0, 0, []), (1, .iload_n 1, 0, 0, []), (2, .ishr, 0, 0, []), (3, .iconst 1, 0, 0, []), (4, .iand, 0, 0, []), (5, .ifCond .eq 7, 8, 0, []), (8, .iconst 1, 0, 0, []), (9, .goto 4, 9, 0, []), (12, .iconst 0, 0, 0, []), (13, .ireturn, 0, 0, [])]
def eX6_holds : ME := (yX6_holds, cX6_holds, 2, (some .boolean), { frames := 0, cells := 0, slots := 0, locals := 0 }, 2, 99, kX6_holds)
def kX6_fewer : List EI := [(0, .iload_n 0, 0, 0, []), (1, .invokestatic 82, 260, 0, []), (4, .iload_n 1, 0, 0, []), (5, .invokestatic 82, 260, 0, []), (8, .if_icmp .ge 7, 7, 0, []), (11, .iconst 1, 0, 0, []), (12, .goto 4, 8, 0, []), (15, .iconst 0, 0, 0, []), (16, .ireturn, 0, 0, [])]
def eX6_fewer : ME := (yX6_fewer, cX6_fewer, 2, (some .boolean), { frames := 1, cells := 0, slots := 0, locals := 20 }, 2, 99, kX6_fewer)
def kX6_leastOf : List EI := [(0, .iconst 0, 0, 0, []), (1, .istore_n 1, 0, 0, []), (2, .iload_n 1, 0, 0, []), (3, .bipush 7, 0, 0, []), (5, .if_icmp .ge 19, 13, 0, []), (8, .iload_n 0, 0, 0, []), (9, .iload_n 1, 0, 0, []), (10, .invokestatic 88, 66, 0, []), (13, .ifCond .eq 5, 11, 0, []), (16, .iload_n 1, 0, 0, []), (17, .ireturn, 0, 0, []), (18, .iinc 1 1, 0, 0, []), (21, .goto (-19), 2, 0, []), (24, .bipush (-9), 0, 0, []), (26, .ireturn, 0, 0, [])]
def eX6_leastOf : ME := (yX6_leastOf, cX6_leastOf, 2, (some .int), { frames := 1, cells := 0, slots := 0, locals := 21 }, 1, 99, kX6_leastOf)
def kX6_ahead : List EI := [(0, .aload_n 0, 0, 0, []), (1, .getfield 25, 5, 4, []), (4, .aload_n 0, 0, 0, []), (5, .getfield 10, 5, 0, []), (8, .getfield 62, 4, 0, []), (11, .invokevirtual 92, 1, 0, []), (14, .aload_n 0, 0, 0, []), (15, .getfield 25, 5, 4, []), (18, .iload_n 1, 0, 0, []), (19, .invokevirtual 96, 9, 0, []), (22, .aload_n 0, 0, 0, []), (23, .getfield 25, 5, 4, []), (26, .areturn, 0, 0, [])]
def eX6_ahead : ME := (yX6_ahead, cX6_ahead, 2, (some (.object "MirrorsOnStrike$Folk")), { frames := 4, cells := 0, slots := 0, locals := 94 }, 2, 5, kX6_ahead)
def kX6_feed : List EI := [(0, .iload_n 1, 0, 0, []), (1, .iconst 0, 0, 0, []), (2, .sipush 255, 0, 0, []), (5, .invokestatic 100, 61, 0, []), (8, .istore_n 2, 0, 0, []), (9, .iload_n 2, 0, 0, []), (10, .ifCond .ne 18, 14, 0, []), (13, .aload_n 0, 0, 0, []), (14, .getfield 39, 5, 6, []), (17, .getfield 104, 1, 0, []), (20, .bipush 96, 0, 0, []), (22, .if_icmp .lt 6, 14, 0, []), (25, .bipush (-6), 0, 0, []), (27, .istore_n 2, 0, 0, []), (28, .iload_n 2, 0, 0, []), (29, .ifCond .eq 11, 20, 0, []), (32, .aload_n 0, 0, 0, []), (33, .iload_n 2, 0, 0, []), (34, .invokevirtual 105, 54, 0, []), (37, .goto 11, 24, 0, []), (40, .aload_n 0, 0, 0, []), (41, .getfield 39, 5, 6, []), (44, .iload_n 1, 0, 0, []), (45, .invokevirtual 108, 21, 0, []), (48, .ireturn, 0, 0, [])]
def eX6_feed : ME := (yX6_feed, cX6_feed, 3, (some .int), { frames := 1, cells := 0, slots := 0, locals := 22 }, 2, 5, kX6_feed)
def kX6_town : List EI := [(0, .aload_n 0, 0, 0, []), (1, .getfield 16, 5, 1, []), (4, .aload_n 0, 0, 0, []), (5, .getfield 10, 5, 0, []), (8, .invokevirtual 111, 52, 0, []), (11, .aload_n 0, 0, 0, []), (12, .getfield 39, 5, 6, []), (15, .aload_n 0, 0, 0, []), (16, .getfield 16, 5, 1, []), (19, .invokevirtual 114, 22, 0, []), (22, .istore_n 1, 0, 0, []), (23, .aload_n 0, 0, 0, []), (24, .getfield 39, 5, 6, []), (27, .iconst 0, 0, 0, []), (28, .putfield 104, 1, 0, []), (31, .iload_n 1, 0, 0, []), (32, .ifCond .le 22, 26, 0, []), (35, .aload_n 0, 0, 0, []), (36, .getfield 10, 5, 0, []), (39, .aload_n 0, 0, 0, []), (40, .getfield 16, 5, 1, []), (43, .invokevirtual 111, 52, 0, []), (46, .aload_n 0, 0, 0, []), (47, .getfield 32, 5, 5, []), (50, .iconst 0, 0, 0, []), (51, .putfield 118, 2, 0, []), (54, .iload_n 1, 0, 0, []), (55, .ireturn, 0, 0, [])]
def eX6_town : ME := (yX6_town, cX6_town, 2, (some .int), { frames := 6, cells := 0, slots := 0, locals := 141 }, 1, 5, kX6_town)
def kX6_person : List EI := [(0, .aload_n 0, 0, 0, []), (1, .iload_n 1, 0, 0, []), (2, .invokevirtual 119, 56, 0, []), (5, .iload_n 2, 0, 0, []), (6, .iconst 5, 0, 0, []), (7, .invokestatic 122, 60, 0, []), (10, .invokestatic 126, 55, 0, []), (13, .istore_n 3, 0, 0, []), (14, .iload_n 3, 0, 0, []), (15, .ifCond .eq 9, 14, 0, []), (18, .aload_n 0, 0, 0, []), (19, .iload_n 3, 0, 0, []), (20, .invokevirtual 105, 54, 0, []), (23, .ireturn, 0, 0, []), (24, .aload_n 0, 0, 0, []), (25, .getfield 10, 5, 0, []), (28, .getfield 62, 4, 0, []), (31, .astore 4, 0, 0, []), (33, .iload_n 2, 0, 0, []), (34, .tableswitch 62 0 3 #[30, 38, 46, 54], 0, 0, [40, 20, 25, 30, 35]), (64, .aload 4, 0, 0, []), (66, .getfield 129, 0, 3, []), (69, .iload_n 1, 0, 0, []), (70, .iaload, 0, 0, []), (71, .ireturn, 0, 0, []), (72, .aload 4, 0, 0, []), (74, .getfield 132, 0, 4, []), (77, .iload_n 1, 0, 0, []), (78, .iaload, 0, 0, []), (79, .ireturn, 0, 0, []), (80, .aload 4, 0, 0, []), (82, .getfield 135, 0, 5, []), (85, .iload_n 1, 0, 0, []), (86, .iaload, 0, 0, []), (87, .ireturn, 0, 0, []), (88, .aload 4, 0, 0, []), (90, .getfield 138, 0, 6, []), (93, .iload_n 1, 0, 0, []), (94, .iaload, 0, 0, []), (95, .ireturn, 0, 0, []), (96, .aload 4, 0, 0, []), (98, .getfield 72, 0, 7, []), (101, .iload_n 1, 0, 0, []), (102, .iaload, 0, 0, []), (103, .ireturn, 0, 0, [])]
def eX6_person : ME := (yX6_person, cX6_person, 5, (some .int), { frames := 2, cells := 0, slots := 0, locals := 42 }, 3, 5, kX6_person)
def kX6_comes : List EI := [(0, .iload_n 1, 0, 0, []), (1, .bipush 6, 0, 0, []), (3, .invokestatic 122, 60, 0, []), (6, .iload_n 2, 0, 0, []), (7, .bipush 9, 0, 0, []), (9, .iload_n 3, 0, 0, []), (10, .iconst 0, 0, 0, []), (11, .bipush 99, 0, 0, []), (13, .invokestatic 141, 62, 0, []), (16, .invokestatic 126, 55, 0, []), (19, .istore 4, 0, 0, []), (21, .iload 4, 0, 0, []), (23, .ifCond .ne 22, 21, 0, []), (26, .aload_n 0, 0, 0, []), (27, .getfield 10, 5, 0, []), (30, .getfield 62, 4, 0, []), (33, .getfield 79, 0, 0, []), (36, .bipush 7, 0, 0, []), (38, .if_icmp .lt 7, 21, 0, []), (41, .bipush (-6), 0, 0, []), (43, .istore 4, 0, 0, []), (45, .iload 4, 0, 0, []), (47, .ifCond .eq 10, 27, 0, []), (50, .aload_n 0, 0, 0, []), (51, .iload 4, 0, 0, []), (53, .invokevirtual 105, 54, 0, []), (56, .ireturn, 0, 0, []), (57, .aload_n 0, 0, 0, []), (58, .getfield 32, 5, 5, []), (61, .iconst 0, 0, 0, []), (62, .putfield 118, 2, 0, []), (65, .aload_n 0, 0, 0, []), (66, .getfield 10, 5, 0, []), (69, .getfield 62, 4, 0, []), (72, .iload_n 1, 0, 0, []), (73, .iload_n 2, 0, 0, []), (74, .iload_n 3, 0, 0, []), (75, .invokevirtual 144, 5, 0, []), (78, .ireturn, 0, 0, [])]
def eX6_comes : ME := (yX6_comes, cX6_comes, 5, (some .int), { frames := 1, cells := 0, slots := 0, locals := 24 }, 4, 5, kX6_comes)
def kX6_asks : List EI := [(0, .aload_n 0, 0, 0, []), (1, .iload_n 1, 0, 0, []), (2, .iload_n 2, 0, 0, []), (3, .invokevirtual 146, 57, 0, []), (6, .istore_n 3, 0, 0, []), (7, .iload_n 3, 0, 0, []), (8, .ifCond .eq 9, 11, 0, []), (11, .aload_n 0, 0, 0, []), (12, .iload_n 3, 0, 0, []), (13, .invokevirtual 105, 54, 0, []), (16, .ireturn, 0, 0, []), (17, .aload_n 0, 0, 0, []), (18, .getfield 32, 5, 5, []), (21, .aload_n 0, 0, 0, []), (22, .getfield 10, 5, 0, []), (25, .getfield 62, 4, 0, []), (28, .invokevirtual 149, 39, 0, []), (31, .aload_n 0, 0, 0, []), (32, .getfield 10, 5, 0, []), (35, .getfield 62, 4, 0, []), (38, .getfield 72, 0, 7, []), (41, .iload_n 1, 0, 0, []), (42, .dup2, 0, 0, []), (43, .iaload, 0, 0, []), (44, .iconst 1, 0, 0, []), (45, .iload_n 2, 0, 0, []), (46, .ishl, 0, 0, []), (47, .ixor, 0, 0, []), (48, .iastore, 0, 0, []), (49, .aload_n 0, 0, 0, []), (50, .getfield 10, 5, 0, []), (53, .getfield 62, 4, 0, []), (56, .getfield 72, 0, 7, []), (59, .iload_n 1, 0, 0, []), (60, .iaload, 0, 0, []), (61, .iload_n 2, 0, 0, []), (62, .ishr, 0, 0, []), (63, .iconst 1, 0, 0, []), (64, .iand, 0, 0, []), (65, .ireturn, 0, 0, [])]
def eX6_asks : ME := (yX6_asks, cX6_asks, 4, (some .int), { frames := 3, cells := 0, slots := 0, locals := 90 }, 3, 5, kX6_asks)
def kX6_believes : List EI := [(0, .aload_n 0, 0, 0, []), (1, .iload_n 1, 0, 0, []), (2, .invokevirtual 119, 56, 0, []), (5, .iload_n 2, 0, 0, []), (6, .iconst 0, 0, 0, []), (7, .bipush 99, 0, 0, []), (9, .invokestatic 100, 61, 0, []), (12, .invokestatic 126, 55, 0, []), (15, .istore_n 3, 0, 0, []), (16, .iload_n 3, 0, 0, []), (17, .ifCond .eq 9, 15, 0, []), (20, .aload_n 0, 0, 0, []), (21, .iload_n 3, 0, 0, []), (22, .invokevirtual 105, 54, 0, []), (25, .ireturn, 0, 0, []), (26, .aload_n 0, 0, 0, []), (27, .getfield 32, 5, 5, []), (30, .aload_n 0, 0, 0, []), (31, .getfield 10, 5, 0, []), (34, .getfield 62, 4, 0, []), (37, .invokevirtual 149, 39, 0, []), (40, .aload_n 0, 0, 0, []), (41, .getfield 10, 5, 0, []), (44, .getfield 62, 4, 0, []), (47, .getfield 138, 0, 6, []), (50, .iload_n 1, 0, 0, []), (51, .iaload, 0, 0, []), (52, .istore 4, 0, 0, []), (54, .aload_n 0, 0, 0, []), (55, .getfield 10, 5, 0, []), (58, .getfield 62, 4, 0, []), (61, .getfield 138, 0, 6, []), (64, .iload_n 1, 0, 0, []), (65, .iload_n 2, 0, 0, []), (66, .iastore, 0, 0, []), (67, .iload 4, 0, 0, []), (69, .ireturn, 0, 0, [])]
def eX6_believes : ME := (yX6_believes, cX6_believes, 5, (some .int), { frames := 3, cells := 0, slots := 0, locals := 90 }, 3, 5, kX6_believes)
def kX6_kind : List EI := [(0, .aload_n 0, 0, 0, []), (1, .iload_n 1, 0, 0, []), (2, .invokevirtual 119, 56, 0, []), (5, .iload_n 2, 0, 0, []), (6, .bipush 6, 0, 0, []), (8, .invokestatic 122, 60, 0, []), (11, .iload_n 3, 0, 0, []), (12, .iconst 0, 0, 0, []), (13, .bipush 9, 0, 0, []), (15, .invokestatic 100, 61, 0, []), (18, .invokestatic 126, 55, 0, []), (21, .invokestatic 126, 55, 0, []), (24, .istore 4, 0, 0, []), (26, .iload 4, 0, 0, []), (28, .ifCond .eq 10, 19, 0, []), (31, .aload_n 0, 0, 0, []), (32, .iload 4, 0, 0, []), (34, .invokevirtual 105, 54, 0, []), (37, .ireturn, 0, 0, []), (38, .aload_n 0, 0, 0, []), (39, .getfield 32, 5, 5, []), (42, .aload_n 0, 0, 0, []), (43, .getfield 10, 5, 0, []), (46, .getfield 62, 4, 0, []), (49, .invokevirtual 149, 39, 0, []), (52, .bipush 10, 0, 0, []), (54, .aload_n 0, 0, 0, []), (55, .getfield 10, 5, 0, []), (58, .getfield 62, 4, 0, []), (61, .getfield 129, 0, 3, []), (64, .iload_n 1, 0, 0, []), (65, .iaload, 0, 0, []), (66, .imul, 0, 0, []), (67, .aload_n 0, 0, 0, []), (68, .getfield 10, 5, 0, []), (71, .getfield 62, 4, 0, []), (74, .getfield 132, 0, 4, []), (77, .iload_n 1, 0, 0, []), (78, .iaload, 0, 0, []), (79, .iadd, 0, 0, []), (80, .istore 5, 0, 0, []), (82, .aload_n 0, 0, 0, []), (83, .getfield 10, 5, 0, []), (86, .getfield 62, 4, 0, []), (89, .getfield 129, 0, 3, []), (92, .iload_n 1, 0, 0, []), (93, .iload_n 2, 0, 0, []), (94, .iastore, 0, 0, []), (95, .aload_n 0, 0, 0, []), (96, .getfield 10, 5, 0, []), (99, .getfield 62, 4, 0, []), (102, .getfield 132, 0, 4, []), (105, .iload_n 1, 0, 0, []), (106, .iload_n 3, 0, 0, []), (107, .iastore, 0, 0, []), (108, .iload 5, 0, 0, []), (110, .ireturn, 0, 0, [])]
def eX6_kind : ME := (yX6_kind, cX6_kind, 6, (some .int), { frames := 3, cells := 0, slots := 0, locals := 90 }, 4, 5, kX6_kind)
def kX6_way : List EI := [(0, .iload_n 1, 0, 0, []), (1, .iload_n 2, 0, 0, []), (2, .if_icmp .ne 7, 5, 0, []), (5, .iconst (-1), 0, 0, []), (6, .goto 8, 8, 0, []), (9, .iload_n 1, 0, 0, []), (10, .iload_n 2, 0, 0, []), (11, .invokestatic 152, 59, 0, []), (14, .istore_n 3, 0, 0, []), (15, .iload_n 3, 0, 0, []), (16, .ifCond .eq 9, 15, 0, []), (19, .aload_n 0, 0, 0, []), (20, .iload_n 3, 0, 0, []), (21, .invokevirtual 105, 54, 0, []), (24, .ireturn, 0, 0, []), (25, .aload_n 0, 0, 0, []), (26, .getfield 32, 5, 5, []), (29, .iconst 0, 0, 0, []), (30, .putfield 118, 2, 0, []), (33, .aload_n 0, 0, 0, []), (34, .getfield 10, 5, 0, []), (37, .getfield 155, 4, 1, []), (40, .iload_n 1, 0, 0, []), (41, .iload_n 2, 0, 0, []), (42, .invokevirtual 159, 44, 0, []), (45, .ireturn, 0, 0, [])]
def eX6_way : ME := (yX6_way, cX6_way, 4, (some .int), { frames := 2, cells := 0, slots := 0, locals := 41 }, 3, 5, kX6_way)
def kX6_hangs : List EI := [(0, .iload_n 1, 0, 0, []), (1, .invokestatic 164, 58, 0, []), (4, .iload_n 2, 0, 0, []), (5, .iconst 4, 0, 0, []), (6, .invokestatic 122, 60, 0, []), (9, .invokestatic 126, 55, 0, []), (12, .istore_n 3, 0, 0, []), (13, .iload_n 3, 0, 0, []), (14, .ifCond .eq 9, 13, 0, []), (17, .aload_n 0, 0, 0, []), (18, .iload_n 3, 0, 0, []), (19, .invokevirtual 105, 54, 0, []), (22, .ireturn, 0, 0, []), (23, .aload_n 0, 0, 0, []), (24, .getfield 32, 5, 5, []), (27, .iconst 0, 0, 0, []), (28, .putfield 118, 2, 0, []), (31, .aload_n 0, 0, 0, []), (32, .getfield 10, 5, 0, []), (35, .getfield 155, 4, 1, []), (38, .getfield 167, 3, 1, []), (41, .iload_n 1, 0, 0, []), (42, .iaload, 0, 0, []), (43, .istore 4, 0, 0, []), (45, .aload_n 0, 0, 0, []), (46, .getfield 10, 5, 0, []), (49, .getfield 155, 4, 1, []), (52, .getfield 167, 3, 1, []), (55, .iload_n 1, 0, 0, []), (56, .iload_n 2, 0, 0, []), (57, .iastore, 0, 0, []), (58, .iload 4, 0, 0, []), (60, .ireturn, 0, 0, [])]
def eX6_hangs : ME := (yX6_hangs, cX6_hangs, 5, (some .int), { frames := 2, cells := 0, slots := 0, locals := 40 }, 3, 5, kX6_hangs)
def kX6_week : List EI := [(0, .aload_n 0, 0, 0, []), (1, .getfield 10, 5, 0, []), (4, .getfield 62, 4, 0, []), (7, .getfield 170, 0, 1, []), (10, .sipush 999, 0, 0, []), (13, .if_icmp .lt 10, 10, 0, []), (16, .aload_n 0, 0, 0, []), (17, .bipush (-6), 0, 0, []), (19, .invokevirtual 105, 54, 0, []), (22, .ireturn, 0, 0, []), (23, .aload_n 0, 0, 0, []), (24, .getfield 32, 5, 5, []), (27, .aload_n 0, 0, 0, []), (28, .getfield 10, 5, 0, []), (31, .getfield 62, 4, 0, []), (34, .invokevirtual 149, 39, 0, []), (37, .aload_n 0, 0, 0, []), (38, .getfield 10, 5, 0, []), (41, .getfield 62, 4, 0, []), (44, .invokevirtual 173, 8, 0, []), (47, .ireturn, 0, 0, [])]
def eX6_week : ME := (yX6_week, cX6_week, 1, (some .int), { frames := 3, cells := 0, slots := 0, locals := 90 }, 1, 5, kX6_week)
def kX6_back : List EI := [(0, .aload_n 0, 0, 0, []), (1, .getfield 32, 5, 5, []), (4, .getfield 118, 2, 0, []), (7, .ifCond .ne 12, 8, 0, []), (10, .aload_n 0, 0, 0, []), (11, .bipush (-3), 0, 0, []), (13, .invokevirtual 105, 54, 0, []), (16, .goto 17, 14, 0, []), (19, .aload_n 0, 0, 0, []), (20, .getfield 32, 5, 5, []), (23, .aload_n 0, 0, 0, []), (24, .getfield 10, 5, 0, []), (27, .getfield 62, 4, 0, []), (30, .invokevirtual 177, 41, 0, []), (33, .ireturn, 0, 0, [])]
def eX6_back : ME := (yX6_back, cX6_back, 1, (some .int), { frames := 3, cells := 0, slots := 0, locals := 90 }, 1, 5, kX6_back)
def kX6_says : List EI := [(0, .aload_n 0, 0, 0, []), (1, .iload_n 1, 0, 0, []), (2, .iload_n 2, 0, 0, []), (3, .invokevirtual 146, 57, 0, []), (6, .istore_n 3, 0, 0, []), (7, .iload_n 3, 0, 0, []), (8, .ifCond .eq 11, 11, 0, []), (11, .aload_n 0, 0, 0, []), (12, .iload_n 3, 0, 0, []), (13, .invokevirtual 105, 54, 0, []), (16, .goto 26, 22, 0, []), (19, .aload_n 0, 0, 0, []), (20, .getfield 10, 5, 0, []), (23, .getfield 62, 4, 0, []), (26, .iload_n 1, 0, 0, []), (27, .aload_n 0, 0, 0, []), (28, .getfield 10, 5, 0, []), (31, .getfield 62, 4, 0, []), (34, .getfield 135, 0, 5, []), (37, .iload_n 2, 0, 0, []), (38, .iaload, 0, 0, []), (39, .invokevirtual 181, 6, 0, []), (42, .ireturn, 0, 0, [])]
def eX6_says : ME := (yX6_says, cX6_says, 4, (some .int), { frames := 2, cells := 0, slots := 0, locals := 43 }, 3, 5, kX6_says)
def kX6_saysOf : List EI := [(0, .aload_n 0, 0, 0, []), (1, .iload_n 1, 0, 0, []), (2, .invokevirtual 119, 56, 0, []), (5, .iload_n 2, 0, 0, []), (6, .iconst 0, 0, 0, []), (7, .bipush 99, 0, 0, []), (9, .invokestatic 100, 61, 0, []), (12, .invokestatic 126, 55, 0, []), (15, .istore_n 3, 0, 0, []), (16, .iload_n 3, 0, 0, []), (17, .ifCond .eq 11, 15, 0, []), (20, .aload_n 0, 0, 0, []), (21, .iload_n 3, 0, 0, []), (22, .invokevirtual 105, 54, 0, []), (25, .goto 15, 21, 0, []), (28, .aload_n 0, 0, 0, []), (29, .getfield 10, 5, 0, []), (32, .getfield 62, 4, 0, []), (35, .iload_n 1, 0, 0, []), (36, .iload_n 2, 0, 0, []), (37, .invokevirtual 181, 6, 0, []), (40, .ireturn, 0, 0, [])]
def eX6_saysOf : ME := (yX6_saysOf, cX6_saysOf, 4, (some .int), { frames := 2, cells := 0, slots := 0, locals := 42 }, 3, 5, kX6_saysOf)
def kX6_belief : List EI := [(0, .aload_n 0, 0, 0, []), (1, .iload_n 1, 0, 0, []), (2, .invokevirtual 119, 56, 0, []), (5, .iload_n 2, 0, 0, []), (6, .iconst 0, 0, 0, []), (7, .bipush 60, 0, 0, []), (9, .invokestatic 100, 61, 0, []), (12, .invokestatic 126, 55, 0, []), (15, .istore_n 3, 0, 0, []), (16, .iload_n 3, 0, 0, []), (17, .ifCond .eq 11, 15, 0, []), (20, .aload_n 0, 0, 0, []), (21, .iload_n 3, 0, 0, []), (22, .invokevirtual 105, 54, 0, []), (25, .goto 13, 21, 0, []), (28, .aload_n 0, 0, 0, []), (29, .iload_n 2, 0, 0, []), (30, .invokevirtual 184, 69, 0, []), (33, .getfield 138, 0, 6, []), (36, .iload_n 1, 0, 0, []), (37, .iaload, 0, 0, []), (38, .ireturn, 0, 0, [])]
def eX6_belief : ME := (yX6_belief, cX6_belief, 4, (some .int), { frames := 5, cells := 0, slots := 0, locals := 115 }, 3, 5, kX6_belief)
def kX6_fooled : List EI := [(0, .iload_n 1, 0, 0, []), (1, .bipush 60, 0, 0, []), (3, .iload_n 2, 0, 0, []), (4, .iconst 0, 0, 0, []), (5, .bipush 99, 0, 0, []), (7, .invokestatic 141, 62, 0, []), (10, .istore_n 3, 0, 0, []), (11, .iload_n 3, 0, 0, []), (12, .ifCond .eq 11, 13, 0, []), (15, .aload_n 0, 0, 0, []), (16, .iload_n 3, 0, 0, []), (17, .invokevirtual 105, 54, 0, []), (20, .goto 12, 18, 0, []), (23, .aload_n 0, 0, 0, []), (24, .iload_n 1, 0, 0, []), (25, .invokevirtual 184, 69, 0, []), (28, .iload_n 2, 0, 0, []), (29, .invokevirtual 188, 12, 0, []), (32, .ireturn, 0, 0, [])]
def eX6_fooled : ME := (yX6_fooled, cX6_fooled, 4, (some .int), { frames := 5, cells := 0, slots := 0, locals := 115 }, 3, 5, kX6_fooled)
def kX6_error : List EI := [(0, .iload_n 1, 0, 0, []), (1, .iconst 0, 0, 0, []), (2, .bipush 60, 0, 0, []), (4, .invokestatic 100, 61, 0, []), (7, .istore_n 2, 0, 0, []), (8, .iload_n 2, 0, 0, []), (9, .ifCond .eq 11, 11, 0, []), (12, .aload_n 0, 0, 0, []), (13, .iload_n 2, 0, 0, []), (14, .invokevirtual 105, 54, 0, []), (17, .goto 11, 15, 0, []), (20, .aload_n 0, 0, 0, []), (21, .iload_n 1, 0, 0, []), (22, .invokevirtual 184, 69, 0, []), (25, .invokevirtual 191, 11, 0, []), (28, .ireturn, 0, 0, [])]
def eX6_error : ME := (yX6_error, cX6_error, 3, (some .int), { frames := 5, cells := 0, slots := 0, locals := 115 }, 2, 5, kX6_error)
def kX6_clash : List EI := [(0, .iload_n 1, 0, 0, []), (1, .iconst 0, 0, 0, []), (2, .bipush 99, 0, 0, []), (4, .invokestatic 100, 61, 0, []), (7, .iload_n 2, 0, 0, []), (8, .iconst 2, 0, 0, []), (9, .invokestatic 122, 60, 0, []), (12, .invokestatic 126, 55, 0, []), (15, .istore_n 3, 0, 0, []), (16, .iload_n 3, 0, 0, []), (17, .ifCond .eq 9, 15, 0, []), (20, .aload_n 0, 0, 0, []), (21, .iload_n 3, 0, 0, []), (22, .invokevirtual 105, 54, 0, []), (25, .ireturn, 0, 0, []), (26, .aload_n 0, 0, 0, []), (27, .iconst 0, 0, 0, []), (28, .invokevirtual 184, 69, 0, []), (31, .astore 4, 0, 0, []), (33, .iconst 0, 0, 0, []), (34, .istore 5, 0, 0, []), (36, .iload 5, 0, 0, []), (38, .bipush 60, 0, 0, []), (40, .if_icmp .gt 43, 42, 0, []), (43, .aload 4, 0, 0, []), (45, .iload_n 1, 0, 0, []), (46, .invokevirtual 188, 12, 0, []), (49, .istore 6, 0, 0, []), (51, .iload 6, 0, 0, []), (53, .ifCond .eq 18, 37, 0, []), (56, .iload_n 2, 0, 0, []), (57, .ifCond .ne 8, 34, 0, []), (60, .iload 5, 0, 0, []), (62, .goto 8, 36, 0, []), (65, .iload 6, 0, 0, []), (67, .invokestatic 194, 68, 0, []), (70, .ireturn, 0, 0, []), (71, .aload 4, 0, 0, []), (73, .invokevirtual 173, 8, 0, []), (76, .pop, 0, 0, []), (77, .iinc 5 1, 0, 0, []), (80, .goto (-44), 21, 0, []), (83, .bipush (-9), 0, 0, []), (85, .ireturn, 0, 0, [])]
def eX6_clash : ME := (yX6_clash, cX6_clash, 7, (some .int), { frames := 5, cells := 0, slots := 0, locals := 115 }, 3, 5, kX6_clash)
def kX6_settles : List EI := [(0, .aload_n 0, 0, 0, []), (1, .iconst 0, 0, 0, []), (2, .invokevirtual 184, 69, 0, []), (5, .astore_n 1, 0, 0, []), (6, .iconst 0, 0, 0, []), (7, .istore_n 2, 0, 0, []), (8, .iload_n 2, 0, 0, []), (9, .bipush 60, 0, 0, []), (11, .if_icmp .gt 18, 16, 0, []), (14, .aload_n 1, 0, 0, []), (15, .invokevirtual 173, 8, 0, []), (18, .ifCond .ne 5, 14, 0, []), (21, .iload_n 2, 0, 0, []), (22, .ireturn, 0, 0, []), (23, .iinc 2 1, 0, 0, []), (26, .goto (-18), 6, 0, []), (29, .bipush (-9), 0, 0, []), (31, .ireturn, 0, 0, [])]
def eX6_settles : ME := (yX6_settles, cX6_settles, 3, (some .int), { frames := 5, cells := 0, slots := 0, locals := 115 }, 1, 5, kX6_settles)
def kX6_round : List EI := [(0, .aload_n 0, 0, 0, []), (1, .bipush 60, 0, 0, []), (3, .invokevirtual 184, 69, 0, []), (6, .astore_n 1, 0, 0, []), (7, .aload_n 0, 0, 0, []), (8, .getfield 16, 5, 1, []), (11, .getfield 62, 4, 0, []), (14, .aload_n 1, 0, 0, []), (15, .invokevirtual 92, 1, 0, []), (18, .iconst 1, 0, 0, []), (19, .istore_n 2, 0, 0, []), (20, .iload_n 2, 0, 0, []), (21, .bipush 60, 0, 0, []), (23, .if_icmp .gt 30, 27, 0, []), (26, .aload_n 1, 0, 0, []), (27, .invokevirtual 173, 8, 0, []), (30, .pop, 0, 0, []), (31, .aload_n 1, 0, 0, []), (32, .aload_n 0, 0, 0, []), (33, .getfield 16, 5, 1, []), (36, .getfield 62, 4, 0, []), (39, .invokevirtual 197, 10, 0, []), (42, .ifCond .ne 5, 25, 0, []), (45, .iload_n 2, 0, 0, []), (46, .ireturn, 0, 0, []), (47, .iinc 2 1, 0, 0, []), (50, .goto (-30), 11, 0, []), (53, .bipush (-9), 0, 0, []), (55, .ireturn, 0, 0, [])]
def eX6_round : ME := (yX6_round, cX6_round, 3, (some .int), { frames := 5, cells := 0, slots := 0, locals := 115 }, 1, 5, kX6_round)
def kX6_knows : List EI := [(0, .aload_n 0, 0, 0, []), (1, .iload_n 1, 0, 0, []), (2, .invokevirtual 119, 56, 0, []), (5, .istore_n 2, 0, 0, []), (6, .iload_n 2, 0, 0, []), (7, .ifCond .eq 9, 10, 0, []), (10, .aload_n 0, 0, 0, []), (11, .iload_n 2, 0, 0, []), (12, .invokevirtual 105, 54, 0, []), (15, .ireturn, 0, 0, []), (16, .aload_n 0, 0, 0, []), (17, .getfield 10, 5, 0, []), (20, .getfield 62, 4, 0, []), (23, .astore_n 3, 0, 0, []), (24, .aload_n 3, 0, 0, []), (25, .getfield 138, 0, 6, []), (28, .iload_n 1, 0, 0, []), (29, .iaload, 0, 0, []), (30, .aload_n 3, 0, 0, []), (31, .getfield 135, 0, 5, []), (34, .iload_n 1, 0, 0, []), (35, .iaload, 0, 0, []), (36, .if_icmp .ne 5, 25, 0, []), (39, .iconst 0, 0, 0, []), (40, .ireturn, 0, 0, []), (41, .bipush (-9), 0, 0, []), (43, .istore 4, 0, 0, []), (45, .aload_n 3, 0, 0, []), (46, .iload_n 1, 0, 0, []), (47, .invokevirtual 200, 4, 0, []), (50, .istore 5, 0, 0, []), (52, .iconst 1, 0, 0, []), (53, .istore 6, 0, 0, []), (55, .iload 6, 0, 0, []), (57, .iload 5, 0, 0, []), (59, .if_icmp .gt 73, 71, 0, []), (62, .iload 6, 0, 0, []), (64, .iload 5, 0, 0, []), (66, .iconst (-1), 0, 0, []), (67, .ixor, 0, 0, []), (68, .iand, 0, 0, []), (69, .ifCond .ne 28, 56, 0, []), (72, .aload_n 3, 0, 0, []), (73, .iload 6, 0, 0, []), (75, .aload_n 3, 0, 0, []), (76, .getfield 135, 0, 5, []), (79, .iload_n 1, 0, 0, []), (80, .iaload, 0, 0, []), (81, .invokevirtual 203, 7, 0, []), (84, .aload_n 3, 0, 0, []), (85, .getfield 135, 0, 5, []), (88, .iload_n 1, 0, 0, []), (89, .iaload, 0, 0, []), (90, .if_icmp .ne 7, 56, 0, []), (93, .iconst 1, 0, 0, []), (94, .goto 4, 57, 0, []), (97, .iconst 0, 0, 0, []), (98, .istore 7, 0, 0, []), (100, .iload 7, 0, 0, []), (102, .ifCond .eq 24, 69, 0, []), (105, .iload 4, 0, 0, []), (107, .bipush (-9), 0, 0, []), (109, .if_icmp .eq 13, 67, 0, []), (112, .iload 6, 0, 0, []), (114, .iload 4, 0, 0, []), (116, .invokestatic 206, 67, 0, []), (119, .ifCond .eq 7, 69, 0, []), (122, .iload 6, 0, 0, []), (124, .istore 4, 0, 0, []), (126, .iinc 6 1, 0, 0, []), (129, .goto (-74), 33, 0, []), (132, .iload 4, 0, 0, []), (134, .ireturn, 0, 0, [])]
def eX6_knows : ME := (yX6_knows, cX6_knows, 8, (some .int), { frames := 2, cells := 0, slots := 0, locals := 49 }, 2, 5, kX6_knows)
def kX6_nearest : List EI := [(0, .aload_n 0, 0, 0, []), (1, .iload_n 1, 0, 0, []), (2, .invokevirtual 119, 56, 0, []), (5, .iload_n 2, 0, 0, []), (6, .iconst 2, 0, 0, []), (7, .invokestatic 122, 60, 0, []), (10, .invokestatic 126, 55, 0, []), (13, .istore_n 3, 0, 0, []), (14, .iload_n 3, 0, 0, []), (15, .ifCond .eq 9, 14, 0, []), (18, .aload_n 0, 0, 0, []), (19, .iload_n 3, 0, 0, []), (20, .invokevirtual 105, 54, 0, []), (23, .ireturn, 0, 0, []), (24, .bipush (-9), 0, 0, []), (26, .istore 4, 0, 0, []), (28, .bipush (-9), 0, 0, []), (30, .istore 5, 0, 0, []), (32, .aload_n 0, 0, 0, []), (33, .getfield 10, 5, 0, []), (36, .getfield 62, 4, 0, []), (39, .iload_n 1, 0, 0, []), (40, .invokevirtual 200, 4, 0, []), (43, .istore 6, 0, 0, []), (45, .iconst 1, 0, 0, []), (46, .istore 7, 0, 0, []), (48, .iload 7, 0, 0, []), (50, .iload 6, 0, 0, []), (52, .if_icmp .gt 70, 60, 0, []), (55, .iload 7, 0, 0, []), (57, .iload 6, 0, 0, []), (59, .iconst (-1), 0, 0, []), (60, .ixor, 0, 0, []), (61, .iand, 0, 0, []), (62, .ifCond .eq 6, 36, 0, []), (65, .goto 51, 58, 0, []), (68, .aload_n 0, 0, 0, []), (69, .iload_n 1, 0, 0, []), (70, .iload 7, 0, 0, []), (72, .invokevirtual 209, 91, 0, []), (75, .istore 8, 0, 0, []), (77, .iload 4, 0, 0, []), (79, .bipush (-9), 0, 0, []), (81, .if_icmp .eq 27, 54, 0, []), (84, .iload 8, 0, 0, []), (86, .iload 5, 0, 0, []), (88, .if_icmp .lt 20, 54, 0, []), (91, .iload 8, 0, 0, []), (93, .iload 5, 0, 0, []), (95, .if_icmp .ne 21, 58, 0, []), (98, .iload 7, 0, 0, []), (100, .iload 4, 0, 0, []), (102, .invokestatic 206, 67, 0, []), (105, .ifCond .eq 11, 58, 0, []), (108, .iload 7, 0, 0, []), (110, .istore 4, 0, 0, []), (112, .iload 8, 0, 0, []), (114, .istore 5, 0, 0, []), (116, .iinc 7 1, 0, 0, []), (119, .goto (-71), 26, 0, []), (122, .iload_n 2, 0, 0, []), (123, .ifCond .ne 8, 64, 0, []), (126, .iload 4, 0, 0, []), (128, .goto 5, 65, 0, []), (131, .iload 5, 0, 0, []), (133, .ireturn, 0, 0, [])]
def eX6_nearest : ME := (yX6_nearest, cX6_nearest, 9, (some .int), { frames := 3, cells := 0, slots := 0, locals := 72 }, 3, 5, kX6_nearest)
def kX6_errorBySet : List EI := [(0, .aload_n 0, 0, 0, []), (1, .getfield 10, 5, 0, []), (4, .getfield 62, 4, 0, []), (7, .getfield 135, 0, 5, []), (10, .iload_n 1, 0, 0, []), (11, .iaload, 0, 0, []), (12, .istore_n 3, 0, 0, []), (13, .aload_n 0, 0, 0, []), (14, .getfield 10, 5, 0, []), (17, .getfield 62, 4, 0, []), (20, .iload_n 2, 0, 0, []), (21, .iload_n 3, 0, 0, []), (22, .invokevirtual 203, 7, 0, []), (25, .iload_n 3, 0, 0, []), (26, .isub, 0, 0, []), (27, .invokestatic 212, 261, 0, []), (30, .ireturn, 0, 0, [])]
def eX6_errorBySet : ME := (yX6_errorBySet, cX6_errorBySet, 4, (some .int), { frames := 2, cells := 0, slots := 0, locals := 49 }, 3, 5, kX6_errorBySet)
def kX6_fair : List EI := [(0, .aload_n 0, 0, 0, []), (1, .iload_n 1, 0, 0, []), (2, .invokevirtual 119, 56, 0, []), (5, .iload_n 3, 0, 0, []), (6, .bipush 99, 0, 0, []), (8, .iload_n 2, 0, 0, []), (9, .iconst 1, 0, 0, []), (10, .bipush 6, 0, 0, []), (12, .invokestatic 141, 62, 0, []), (15, .invokestatic 126, 55, 0, []), (18, .istore 4, 0, 0, []), (20, .iload 4, 0, 0, []), (22, .ifCond .eq 10, 17, 0, []), (25, .aload_n 0, 0, 0, []), (26, .iload 4, 0, 0, []), (28, .invokevirtual 105, 54, 0, []), (31, .ireturn, 0, 0, []), (32, .iconst 0, 0, 0, []), (33, .istore 5, 0, 0, []), (35, .aload_n 0, 0, 0, []), (36, .getfield 10, 5, 0, []), (39, .getfield 62, 4, 0, []), (42, .iload_n 1, 0, 0, []), (43, .invokevirtual 200, 4, 0, []), (46, .istore 6, 0, 0, []), (48, .iconst 1, 0, 0, []), (49, .istore 7, 0, 0, []), (51, .iload 7, 0, 0, []), (53, .iload 6, 0, 0, []), (55, .if_icmp .gt 54, 55, 0, []), (58, .iload 7, 0, 0, []), (60, .iload 6, 0, 0, []), (62, .iconst (-1), 0, 0, []), (63, .ixor, 0, 0, []), (64, .iand, 0, 0, []), (65, .ifCond .ne 16, 42, 0, []), (68, .iload 7, 0, 0, []), (70, .invokestatic 82, 260, 0, []), (73, .iload_n 2, 0, 0, []), (74, .if_icmp .ne 7, 42, 0, []), (77, .iconst 1, 0, 0, []), (78, .goto 4, 43, 0, []), (81, .iconst 0, 0, 0, []), (82, .istore 8, 0, 0, []), (84, .iload 8, 0, 0, []), (86, .ifCond .eq 17, 53, 0, []), (89, .aload_n 0, 0, 0, []), (90, .iload_n 1, 0, 0, []), (91, .iload 7, 0, 0, []), (93, .invokevirtual 209, 91, 0, []), (96, .iload_n 3, 0, 0, []), (97, .if_icmp .gt 6, 53, 0, []), (100, .iinc 5 1, 0, 0, []), (103, .iinc 7 1, 0, 0, []), (106, .goto (-55), 27, 0, []), (109, .iload 5, 0, 0, []), (111, .ireturn, 0, 0, [])]
def eX6_fair : ME := (yX6_fair, cX6_fair, 9, (some .int), { frames := 3, cells := 0, slots := 0, locals := 72 }, 4, 5, kX6_fair)
def kX6_worth : List EI := [(0, .aload_n 0, 0, 0, []), (1, .iload_n 1, 0, 0, []), (2, .invokevirtual 119, 56, 0, []), (5, .iload_n 2, 0, 0, []), (6, .iconst 0, 0, 0, []), (7, .bipush 60, 0, 0, []), (9, .invokestatic 100, 61, 0, []), (12, .invokestatic 126, 55, 0, []), (15, .istore_n 3, 0, 0, []), (16, .iload_n 3, 0, 0, []), (17, .ifCond .eq 12, 17, 0, []), (20, .ldc 217, 1000000000, 0, []), (22, .aload_n 0, 0, 0, []), (23, .iload_n 3, 0, 0, []), (24, .invokevirtual 105, 54, 0, []), (27, .isub, 0, 0, []), (28, .ireturn, 0, 0, []), (29, .aload_n 0, 0, 0, []), (30, .iload_n 2, 0, 0, []), (31, .invokevirtual 184, 69, 0, []), (34, .invokevirtual 191, 11, 0, []), (37, .istore 4, 0, 0, []), (39, .aload_n 0, 0, 0, []), (40, .getfield 25, 5, 4, []), (43, .aload_n 0, 0, 0, []), (44, .getfield 10, 5, 0, []), (47, .getfield 62, 4, 0, []), (50, .invokevirtual 92, 1, 0, []), (53, .iconst 0, 0, 0, []), (54, .istore 5, 0, 0, []), (56, .iload 5, 0, 0, []), (58, .aload_n 0, 0, 0, []), (59, .getfield 25, 5, 4, []), (62, .getfield 79, 0, 0, []), (65, .if_icmp .ge 27, 50, 0, []), (68, .aload_n 0, 0, 0, []), (69, .getfield 25, 5, 4, []), (72, .getfield 72, 0, 7, []), (75, .iload 5, 0, 0, []), (77, .dup2, 0, 0, []), (78, .iaload, 0, 0, []), (79, .iconst 1, 0, 0, []), (80, .iload_n 1, 0, 0, []), (81, .ishl, 0, 0, []), (82, .iconst (-1), 0, 0, []), (83, .ixor, 0, 0, []), (84, .iand, 0, 0, []), (85, .iastore, 0, 0, []), (86, .iinc 5 1, 0, 0, []), (89, .goto (-33), 30, 0, []), (92, .aload_n 0, 0, 0, []), (93, .getfield 25, 5, 4, []), (96, .iload_n 2, 0, 0, []), (97, .invokevirtual 96, 9, 0, []), (100, .aload_n 0, 0, 0, []), (101, .getfield 25, 5, 4, []), (104, .invokevirtual 191, 11, 0, []), (107, .iload 4, 0, 0, []), (109, .isub, 0, 0, []), (110, .ireturn, 0, 0, [])]
def eX6_worth : ME := (yX6_worth, cX6_worth, 6, (some .int), { frames := 5, cells := 0, slots := 0, locals := 115 }, 3, 5, kX6_worth)
def kX6_newEar : List EI := [(0, .iload_n 1, 0, 0, []), (1, .iconst 0, 0, 0, []), (2, .bipush 60, 0, 0, []), (4, .invokestatic 100, 61, 0, []), (7, .istore_n 2, 0, 0, []), (8, .iload_n 2, 0, 0, []), (9, .ifCond .eq 9, 11, 0, []), (12, .aload_n 0, 0, 0, []), (13, .iload_n 2, 0, 0, []), (14, .invokevirtual 105, 54, 0, []), (17, .ireturn, 0, 0, []), (18, .bipush (-9), 0, 0, []), (20, .istore_n 3, 0, 0, []), (21, .aload_n 0, 0, 0, []), (22, .iload_n 1, 0, 0, []), (23, .invokevirtual 184, 69, 0, []), (26, .invokevirtual 191, 11, 0, []), (29, .istore 4, 0, 0, []), (31, .iconst 0, 0, 0, []), (32, .istore 5, 0, 0, []), (34, .iload 5, 0, 0, []), (36, .aload_n 0, 0, 0, []), (37, .getfield 10, 5, 0, []), (40, .getfield 62, 4, 0, []), (43, .getfield 79, 0, 0, []), (46, .if_icmp .ge 95, 68, 0, []), (49, .iconst 0, 0, 0, []), (50, .istore 6, 0, 0, []), (52, .iload 6, 0, 0, []), (54, .aload_n 0, 0, 0, []), (55, .getfield 10, 5, 0, []), (58, .getfield 62, 4, 0, []), (61, .getfield 79, 0, 0, []), (64, .if_icmp .ge 71, 66, 0, []), (67, .iload 5, 0, 0, []), (69, .iload 6, 0, 0, []), (71, .if_icmp .eq 58, 64, 0, []), (74, .aload_n 0, 0, 0, []), (75, .getfield 10, 5, 0, []), (78, .getfield 62, 4, 0, []), (81, .getfield 72, 0, 7, []), (84, .iload 5, 0, 0, []), (86, .iaload, 0, 0, []), (87, .iload 6, 0, 0, []), (89, .invokestatic 88, 66, 0, []), (92, .ifCond .eq 6, 47, 0, []), (95, .goto 34, 64, 0, []), (98, .aload_n 0, 0, 0, []), (99, .iload 5, 0, 0, []), (101, .iload 6, 0, 0, []), (103, .iload_n 1, 0, 0, []), (104, .invokevirtual 218, 95, 0, []), (107, .istore 7, 0, 0, []), (109, .iload 7, 0, 0, []), (111, .iload 4, 0, 0, []), (113, .if_icmp .ge 16, 64, 0, []), (116, .iload 7, 0, 0, []), (118, .istore 4, 0, 0, []), (120, .bipush 10, 0, 0, []), (122, .iload 5, 0, 0, []), (124, .imul, 0, 0, []), (125, .iload 6, 0, 0, []), (127, .iadd, 0, 0, []), (128, .istore_n 3, 0, 0, []), (129, .iinc 6 1, 0, 0, []), (132, .goto (-80), 28, 0, []), (135, .iinc 5 1, 0, 0, []), (138, .goto (-104), 20, 0, []), (141, .iload_n 3, 0, 0, []), (142, .ireturn, 0, 0, [])]
def eX6_newEar : ME := (yX6_newEar, cX6_newEar, 8, (some .int), { frames := 5, cells := 0, slots := 0, locals := 117 }, 2, 5, kX6_newEar)
def kX6_errorsWithEar : List EI := [(0, .aload_n 0, 0, 0, []), (1, .getfield 25, 5, 4, []), (4, .aload_n 0, 0, 0, []), (5, .getfield 10, 5, 0, []), (8, .getfield 62, 4, 0, []), (11, .invokevirtual 92, 1, 0, []), (14, .aload_n 0, 0, 0, []), (15, .getfield 25, 5, 4, []), (18, .getfield 72, 0, 7, []), (21, .iload_n 1, 0, 0, []), (22, .dup2, 0, 0, []), (23, .iaload, 0, 0, []), (24, .iconst 1, 0, 0, []), (25, .iload_n 2, 0, 0, []), (26, .ishl, 0, 0, []), (27, .ior, 0, 0, []), (28, .iastore, 0, 0, []), (29, .aload_n 0, 0, 0, []), (30, .getfield 25, 5, 4, []), (33, .iload_n 3, 0, 0, []), (34, .invokevirtual 96, 9, 0, []), (37, .aload_n 0, 0, 0, []), (38, .getfield 25, 5, 4, []), (41, .invokevirtual 191, 11, 0, []), (44, .ireturn, 0, 0, [])]
def eX6_errorsWithEar : ME := (yX6_errorsWithEar, cX6_errorsWithEar, 4, (some .int), { frames := 4, cells := 0, slots := 0, locals := 94 }, 4, 5, kX6_errorsWithEar)
def kX6_sisters : List EI := [(0, .aload_n 0, 0, 0, []), (1, .iload_n 1, 0, 0, []), (2, .iload_n 2, 0, 0, []), (3, .invokevirtual 146, 57, 0, []), (6, .iload_n 3, 0, 0, []), (7, .iconst 0, 0, 0, []), (8, .bipush 60, 0, 0, []), (10, .invokestatic 100, 61, 0, []), (13, .iload 4, 0, 0, []), (15, .iconst 2, 0, 0, []), (16, .invokestatic 122, 60, 0, []), (19, .invokestatic 126, 55, 0, []), (22, .invokestatic 126, 55, 0, []), (25, .istore 5, 0, 0, []), (27, .iload 5, 0, 0, []), (29, .ifCond .eq 10, 20, 0, []), (32, .aload_n 0, 0, 0, []), (33, .iload 5, 0, 0, []), (35, .invokevirtual 105, 54, 0, []), (38, .ireturn, 0, 0, []), (39, .aload_n 0, 0, 0, []), (40, .iconst 0, 0, 0, []), (41, .invokevirtual 184, 69, 0, []), (44, .astore 6, 0, 0, []), (46, .aload 6, 0, 0, []), (48, .getfield 72, 0, 7, []), (51, .iload_n 1, 0, 0, []), (52, .iconst 1, 0, 0, []), (53, .iload_n 2, 0, 0, []), (54, .ishl, 0, 0, []), (55, .iastore, 0, 0, []), (56, .aload 6, 0, 0, []), (58, .getfield 72, 0, 7, []), (61, .iload_n 2, 0, 0, []), (62, .iconst 1, 0, 0, []), (63, .iload_n 1, 0, 0, []), (64, .ishl, 0, 0, []), (65, .iastore, 0, 0, []), (66, .aload 6, 0, 0, []), (68, .iload_n 1, 0, 0, []), (69, .iload_n 2, 0, 0, []), (70, .invokevirtual 221, 13, 0, []), (73, .istore 7, 0, 0, []), (75, .iload 7, 0, 0, []), (77, .istore 8, 0, 0, []), (79, .iconst 1, 0, 0, []), (80, .istore 9, 0, 0, []), (82, .iload 9, 0, 0, []), (84, .iload_n 3, 0, 0, []), (85, .if_icmp .gt 33, 64, 0, []), (88, .aload 6, 0, 0, []), (90, .invokevirtual 173, 8, 0, []), (93, .pop, 0, 0, []), (94, .aload 6, 0, 0, []), (96, .iload_n 1, 0, 0, []), (97, .iload_n 2, 0, 0, []), (98, .invokevirtual 221, 13, 0, []), (101, .istore 7, 0, 0, []), (103, .iload 8, 0, 0, []), (105, .iload 7, 0, 0, []), (107, .invokestatic 224, 262, 0, []), (110, .istore 8, 0, 0, []), (112, .iinc 9 1, 0, 0, []), (115, .goto (-33), 47, 0, []), (118, .iload 4, 0, 0, []), (120, .ifCond .ne 8, 68, 0, []), (123, .iload 7, 0, 0, []), (125, .goto 5, 69, 0, []), (128, .iload 8, 0, 0, []), (130, .ireturn, 0, 0, [])]
def eX6_sisters : ME := (yX6_sisters, cX6_sisters, 10, (some .int), { frames := 5, cells := 0, slots := 0, locals := 115 }, 5, 5, kX6_sisters)
def kX6_cheat : List EI := [(0, .aload_n 0, 0, 0, []), (1, .iload_n 1, 0, 0, []), (2, .invokevirtual 119, 56, 0, []), (5, .iload_n 2, 0, 0, []), (6, .iconst 0, 0, 0, []), (7, .bipush 99, 0, 0, []), (9, .invokestatic 100, 61, 0, []), (12, .iload_n 3, 0, 0, []), (13, .iconst 2, 0, 0, []), (14, .invokestatic 122, 60, 0, []), (17, .invokestatic 126, 55, 0, []), (20, .invokestatic 126, 55, 0, []), (23, .istore 4, 0, 0, []), (25, .iload 4, 0, 0, []), (27, .ifCond .ne 10, 19, 0, []), (30, .aload_n 0, 0, 0, []), (31, .iload_n 1, 0, 0, []), (32, .invokevirtual 227, 63, 0, []), (35, .istore 4, 0, 0, []), (37, .iload 4, 0, 0, []), (39, .ifCond .eq 10, 25, 0, []), (42, .aload_n 0, 0, 0, []), (43, .iload 4, 0, 0, []), (45, .invokevirtual 105, 54, 0, []), (48, .ireturn, 0, 0, []), (49, .iconst 0, 0, 0, []), (50, .istore 5, 0, 0, []), (52, .bipush (-9), 0, 0, []), (54, .istore 6, 0, 0, []), (56, .bipush 99, 0, 0, []), (58, .istore 7, 0, 0, []), (60, .iload 7, 0, 0, []), (62, .ifCond .lt 44, 51, 0, []), (65, .aload_n 0, 0, 0, []), (66, .getfield 10, 5, 0, []), (69, .getfield 62, 4, 0, []), (72, .aload_n 0, 0, 0, []), (73, .getfield 10, 5, 0, []), (76, .getfield 62, 4, 0, []), (79, .getfield 72, 0, 7, []), (82, .iload_n 1, 0, 0, []), (83, .iaload, 0, 0, []), (84, .iload 7, 0, 0, []), (86, .invokevirtual 203, 7, 0, []), (89, .iload_n 2, 0, 0, []), (90, .if_icmp .ne 10, 49, 0, []), (93, .iinc 5 1, 0, 0, []), (96, .iload 7, 0, 0, []), (98, .istore 6, 0, 0, []), (100, .iinc 7 (-1), 0, 0, []), (103, .goto (-43), 31, 0, []), (106, .iload_n 3, 0, 0, []), (107, .ifCond .ne 8, 55, 0, []), (110, .iload 5, 0, 0, []), (112, .goto 5, 56, 0, []), (115, .iload 6, 0, 0, []), (117, .ireturn, 0, 0, [])]
def eX6_cheat : ME := (yX6_cheat, cX6_cheat, 8, (some .int), { frames := 2, cells := 0, slots := 0, locals := 49 }, 4, 5, kX6_cheat)
def kX6_fitsRow : List EI := [(0, .iconst 0, 0, 0, []), (1, .istore_n 2, 0, 0, []), (2, .iload_n 2, 0, 0, []), (3, .aload_n 0, 0, 0, []), (4, .getfield 75, 5, 8, []), (7, .if_icmp .ge 43, 27, 0, []), (10, .aload_n 0, 0, 0, []), (11, .getfield 43, 5, 7, []), (14, .iload_n 2, 0, 0, []), (15, .iaload, 0, 0, []), (16, .bipush 99, 0, 0, []), (18, .if_icmp .eq 26, 25, 0, []), (21, .aload_n 0, 0, 0, []), (22, .getfield 10, 5, 0, []), (25, .getfield 62, 4, 0, []), (28, .iload_n 2, 0, 0, []), (29, .iload_n 1, 0, 0, []), (30, .invokevirtual 181, 6, 0, []), (33, .aload_n 0, 0, 0, []), (34, .getfield 43, 5, 7, []), (37, .iload_n 2, 0, 0, []), (38, .iaload, 0, 0, []), (39, .if_icmp .eq 5, 25, 0, []), (42, .iconst 0, 0, 0, []), (43, .ireturn, 0, 0, []), (44, .iinc 2 1, 0, 0, []), (47, .goto (-45), 2, 0, []), (50, .iconst 1, 0, 0, []), (51, .ireturn, 0, 0, [])]
def eX6_fitsRow : ME := (yX6_fitsRow, cX6_fitsRow, 3, (some .boolean), { frames := 1, cells := 0, slots := 0, locals := 24 }, 2, 5, kX6_fitsRow)
def kX6_thief : List EI := [(0, .iload_n 1, 0, 0, []), (1, .iconst 3, 0, 0, []), (2, .invokestatic 122, 60, 0, []), (5, .aload_n 0, 0, 0, []), (6, .invokevirtual 230, 64, 0, []), (9, .invokestatic 126, 55, 0, []), (12, .istore_n 2, 0, 0, []), (13, .iload_n 2, 0, 0, []), (14, .ifCond .eq 9, 13, 0, []), (17, .aload_n 0, 0, 0, []), (18, .iload_n 2, 0, 0, []), (19, .invokevirtual 105, 54, 0, []), (22, .ireturn, 0, 0, []), (23, .iload_n 1, 0, 0, []), (24, .iconst 2, 0, 0, []), (25, .if_icmp .ne 8, 19, 0, []), (28, .aload_n 0, 0, 0, []), (29, .invokevirtual 233, 100, 0, []), (32, .ireturn, 0, 0, []), (33, .iconst 0, 0, 0, []), (34, .istore_n 3, 0, 0, []), (35, .bipush (-9), 0, 0, []), (37, .istore 4, 0, 0, []), (39, .bipush 99, 0, 0, []), (41, .istore 5, 0, 0, []), (43, .iload 5, 0, 0, []), (45, .ifCond .lt 25, 36, 0, []), (48, .aload_n 0, 0, 0, []), (49, .iload 5, 0, 0, []), (51, .invokevirtual 236, 98, 0, []), (54, .ifCond .eq 10, 34, 0, []), (57, .iinc 3 1, 0, 0, []), (60, .iload 5, 0, 0, []), (62, .istore 4, 0, 0, []), (64, .iinc 5 (-1), 0, 0, []), (67, .goto (-24), 25, 0, []), (70, .iload_n 1, 0, 0, []), (71, .ifCond .ne 7, 40, 0, []), (74, .iload_n 3, 0, 0, []), (75, .goto 5, 41, 0, []), (78, .iload 4, 0, 0, []), (80, .ireturn, 0, 0, [])]
def eX6_thief : ME := (yX6_thief, cX6_thief, 6, (some .int), { frames := 3, cells := 0, slots := 0, locals := 68 }, 2, 5, kX6_thief)
def kX6_suspects : List EI := [(0, .iconst 0, 0, 0, []), (1, .istore_n 1, 0, 0, []), (2, .iconst 0, 0, 0, []), (3, .istore_n 2, 0, 0, []), (4, .iload_n 2, 0, 0, []), (5, .aload_n 0, 0, 0, []), (6, .getfield 10, 5, 0, []), (9, .getfield 62, 4, 0, []), (12, .getfield 79, 0, 0, []), (15, .if_icmp .ge 34, 27, 0, []), (18, .aload_n 0, 0, 0, []), (19, .aload_n 0, 0, 0, []), (20, .getfield 10, 5, 0, []), (23, .getfield 62, 4, 0, []), (26, .getfield 135, 0, 5, []), (29, .iload_n 2, 0, 0, []), (30, .iaload, 0, 0, []), (31, .invokevirtual 236, 98, 0, []), (34, .ifCond .eq 9, 25, 0, []), (37, .iload_n 1, 0, 0, []), (38, .iconst 1, 0, 0, []), (39, .iload_n 2, 0, 0, []), (40, .ishl, 0, 0, []), (41, .ior, 0, 0, []), (42, .istore_n 1, 0, 0, []), (43, .iinc 2 1, 0, 0, []), (46, .goto (-42), 4, 0, []), (49, .iload_n 1, 0, 0, []), (50, .ireturn, 0, 0, [])]
def eX6_suspects : ME := (yX6_suspects, cX6_suspects, 3, (some .int), { frames := 2, cells := 0, slots := 0, locals := 46 }, 1, 5, kX6_suspects)
def kX6_tellsMost : List EI := [(0, .iload_n 1, 0, 0, []), (1, .iconst 2, 0, 0, []), (2, .invokestatic 122, 60, 0, []), (5, .aload_n 0, 0, 0, []), (6, .invokevirtual 230, 64, 0, []), (9, .aload_n 0, 0, 0, []), (10, .getfield 10, 5, 0, []), (13, .getfield 62, 4, 0, []), (16, .getfield 79, 0, 0, []), (19, .ifCond .ne 8, 12, 0, []), (22, .bipush (-3), 0, 0, []), (24, .goto 4, 13, 0, []), (27, .iconst 0, 0, 0, []), (28, .invokestatic 126, 55, 0, []), (31, .invokestatic 126, 55, 0, []), (34, .istore_n 2, 0, 0, []), (35, .iload_n 2, 0, 0, []), (36, .ifCond .eq 9, 22, 0, []), (39, .aload_n 0, 0, 0, []), (40, .iload_n 2, 0, 0, []), (41, .invokevirtual 105, 54, 0, []), (44, .ireturn, 0, 0, []), (45, .bipush (-9), 0, 0, []), (47, .istore_n 3, 0, 0, []), (48, .iconst 0, 0, 0, []), (49, .istore 4, 0, 0, []), (51, .iconst 0, 0, 0, []), (52, .istore 5, 0, 0, []), (54, .iload 5, 0, 0, []), (56, .aload_n 0, 0, 0, []), (57, .getfield 10, 5, 0, []), (60, .getfield 62, 4, 0, []), (63, .getfield 79, 0, 0, []), (66, .if_icmp .ge 31, 47, 0, []), (69, .aload_n 0, 0, 0, []), (70, .iload 5, 0, 0, []), (72, .invokevirtual 239, 102, 0, []), (75, .istore 6, 0, 0, []), (77, .iload 6, 0, 0, []), (79, .iload 4, 0, 0, []), (81, .if_icmp .le 10, 45, 0, []), (84, .iload 6, 0, 0, []), (86, .istore 4, 0, 0, []), (88, .iload 5, 0, 0, []), (90, .istore_n 3, 0, 0, []), (91, .iinc 5 1, 0, 0, []), (94, .goto (-40), 28, 0, []), (97, .iload_n 1, 0, 0, []), (98, .ifCond .eq 9, 52, 0, []), (101, .iload_n 3, 0, 0, []), (102, .bipush (-9), 0, 0, []), (104, .if_icmp .ne 7, 54, 0, []), (107, .iload_n 3, 0, 0, []), (108, .goto 5, 55, 0, []), (111, .iload 4, 0, 0, []), (113, .ireturn, 0, 0, [])]
def eX6_tellsMost : ME := (yX6_tellsMost, cX6_tellsMost, 7, (some .int), { frames := 3, cells := 0, slots := 0, locals := 71 }, 2, 5, kX6_tellsMost)
def kX6_kindsOfWords : List EI := [(0, .iconst 0, 0, 0, []), (1, .istore_n 2, 0, 0, []), (2, .aload_n 0, 0, 0, []), (3, .getfield 50, 5, 10, []), (6, .iconst 0, 0, 0, []), (7, .invokestatic 242, 264, 0, []), (10, .iconst 0, 0, 0, []), (11, .istore_n 3, 0, 0, []), (12, .iload_n 3, 0, 0, []), (13, .bipush 100, 0, 0, []), (15, .if_icmp .ge 76, 46, 0, []), (18, .aload_n 0, 0, 0, []), (19, .getfield 10, 5, 0, []), (22, .getfield 62, 4, 0, []), (25, .iload_n 1, 0, 0, []), (26, .iload_n 3, 0, 0, []), (27, .invokevirtual 181, 6, 0, []), (30, .istore 4, 0, 0, []), (32, .iload 4, 0, 0, []), (34, .ifCond .lt 24, 30, 0, []), (37, .iload 4, 0, 0, []), (39, .bipush 100, 0, 0, []), (41, .if_icmp .ge 17, 30, 0, []), (44, .aload_n 0, 0, 0, []), (45, .getfield 50, 5, 10, []), (48, .iload 4, 0, 0, []), (50, .iaload, 0, 0, []), (51, .ifCond .ne 7, 30, 0, []), (54, .iconst 1, 0, 0, []), (55, .goto 4, 31, 0, []), (58, .iconst 0, 0, 0, []), (59, .istore 5, 0, 0, []), (61, .iload 5, 0, 0, []), (63, .ifCond .eq 22, 44, 0, []), (66, .aload_n 0, 0, 0, []), (67, .iload_n 3, 0, 0, []), (68, .invokevirtual 236, 98, 0, []), (71, .ifCond .eq 14, 44, 0, []), (74, .aload_n 0, 0, 0, []), (75, .getfield 50, 5, 10, []), (78, .iload 4, 0, 0, []), (80, .iconst 1, 0, 0, []), (81, .iastore, 0, 0, []), (82, .iinc 2 1, 0, 0, []), (85, .iinc 3 1, 0, 0, []), (88, .goto (-76), 8, 0, []), (91, .iload_n 2, 0, 0, []), (92, .ireturn, 0, 0, [])]
def eX6_kindsOfWords : ME := (yX6_kindsOfWords, cX6_kindsOfWords, 6, (some .int), { frames := 2, cells := 0, slots := 0, locals := 46 }, 2, 5, kX6_kindsOfWords)
def kX6_photos : List EI := [(0, .iload_n 1, 0, 0, []), (1, .iconst (-1), 0, 0, []), (2, .if_icmp .ge 8, 5, 0, []), (5, .bipush (-4), 0, 0, []), (7, .goto 4, 6, 0, []), (10, .iconst 0, 0, 0, []), (11, .istore_n 2, 0, 0, []), (12, .iload_n 2, 0, 0, []), (13, .ifCond .ne 23, 18, 0, []), (16, .aload_n 0, 0, 0, []), (17, .getfield 75, 5, 8, []), (20, .aload_n 0, 0, 0, []), (21, .getfield 10, 5, 0, []), (24, .getfield 62, 4, 0, []), (27, .getfield 79, 0, 0, []), (30, .if_icmp .eq 6, 18, 0, []), (33, .bipush (-3), 0, 0, []), (35, .istore_n 2, 0, 0, []), (36, .iload_n 2, 0, 0, []), (37, .ifCond .eq 9, 24, 0, []), (40, .aload_n 0, 0, 0, []), (41, .iload_n 2, 0, 0, []), (42, .invokevirtual 105, 54, 0, []), (45, .ireturn, 0, 0, []), (46, .aload_n 0, 0, 0, []), (47, .invokevirtual 248, 104, 0, []), (50, .iload_n 1, 0, 0, []), (51, .iconst (-1), 0, 0, []), (52, .if_icmp .ne 10, 34, 0, []), (55, .aload_n 0, 0, 0, []), (56, .getfield 53, 5, 11, []), (59, .iconst 0, 0, 0, []), (60, .iaload, 0, 0, []), (61, .ireturn, 0, 0, []), (62, .iload_n 1, 0, 0, []), (63, .aload_n 0, 0, 0, []), (64, .getfield 75, 5, 8, []), (67, .if_icmp .ge 11, 42, 0, []), (70, .aload_n 0, 0, 0, []), (71, .iload_n 1, 0, 0, []), (72, .invokevirtual 251, 106, 0, []), (75, .goto 5, 43, 0, []), (78, .bipush (-9), 0, 0, []), (80, .ireturn, 0, 0, [])]
def eX6_photos : ME := (yX6_photos, cX6_photos, 3, (some .int), { frames := 4, cells := 0, slots := 0, locals := 90 }, 2, 5, kX6_photos)
def kX6_fillCosts : List EI := [(0, .iconst 1, 0, 0, []), (1, .aload_n 0, 0, 0, []), (2, .getfield 75, 5, 8, []), (5, .ishl, 0, 0, []), (6, .iconst 1, 0, 0, []), (7, .isub, 0, 0, []), (8, .istore_n 1, 0, 0, []), (9, .aload_n 0, 0, 0, []), (10, .getfield 53, 5, 11, []), (13, .iload_n 1, 0, 0, []), (14, .iconst 0, 0, 0, []), (15, .iastore, 0, 0, []), (16, .iload_n 1, 0, 0, []), (17, .iconst 1, 0, 0, []), (18, .isub, 0, 0, []), (19, .istore_n 2, 0, 0, []), (20, .iload_n 2, 0, 0, []), (21, .ifCond .lt 68, 50, 0, []), (24, .iload_n 2, 0, 0, []), (25, .invokestatic 82, 260, 0, []), (28, .istore_n 3, 0, 0, []), (29, .ldc 254, 1000000, 0, []), (31, .istore 4, 0, 0, []), (33, .iconst 0, 0, 0, []), (34, .istore 5, 0, 0, []), (36, .iload 5, 0, 0, []), (38, .aload_n 0, 0, 0, []), (39, .getfield 75, 5, 8, []), (42, .if_icmp .ge 33, 43, 0, []), (45, .iload_n 2, 0, 0, []), (46, .iload 5, 0, 0, []), (48, .invokestatic 88, 66, 0, []), (51, .ifCond .ne 18, 41, 0, []), (54, .iload 4, 0, 0, []), (56, .aload_n 0, 0, 0, []), (57, .iload_n 3, 0, 0, []), (58, .iload 5, 0, 0, []), (60, .iload_n 2, 0, 0, []), (61, .invokevirtual 255, 105, 0, []), (64, .invokestatic 258, 263, 0, []), (67, .istore 4, 0, 0, []), (69, .iinc 5 1, 0, 0, []), (72, .goto (-36), 25, 0, []), (75, .aload_n 0, 0, 0, []), (76, .getfield 53, 5, 11, []), (79, .iload_n 2, 0, 0, []), (80, .iload 4, 0, 0, []), (82, .iastore, 0, 0, []), (83, .iinc 2 (-1), 0, 0, []), (86, .goto (-66), 16, 0, []), (89, .return_, 0, 0, [])]
def eX6_fillCosts : ME := (yX6_fillCosts, cX6_fillCosts, 6, none, { frames := 2, cells := 0, slots := 0, locals := 43 }, 1, 5, kX6_fillCosts)
def kX6_costWith : List EI := [(0, .aload_n 0, 0, 0, []), (1, .getfield 10, 5, 0, []), (4, .getfield 62, 4, 0, []), (7, .getfield 135, 0, 5, []), (10, .iload_n 1, 0, 0, []), (11, .iaload, 0, 0, []), (12, .aload_n 0, 0, 0, []), (13, .getfield 43, 5, 7, []), (16, .iload_n 2, 0, 0, []), (17, .iaload, 0, 0, []), (18, .isub, 0, 0, []), (19, .invokestatic 212, 261, 0, []), (22, .aload_n 0, 0, 0, []), (23, .getfield 53, 5, 11, []), (26, .iload_n 3, 0, 0, []), (27, .iconst 1, 0, 0, []), (28, .iload_n 2, 0, 0, []), (29, .ishl, 0, 0, []), (30, .ior, 0, 0, []), (31, .iaload, 0, 0, []), (32, .iadd, 0, 0, []), (33, .ireturn, 0, 0, [])]
def eX6_costWith : ME := (yX6_costWith, cX6_costWith, 4, (some .int), { frames := 1, cells := 0, slots := 0, locals := 20 }, 4, 5, kX6_costWith)
def kX6_photoOf : List EI := [(0, .iconst 0, 0, 0, []), (1, .istore_n 2, 0, 0, []), (2, .bipush (-9), 0, 0, []), (4, .istore_n 3, 0, 0, []), (5, .iconst 0, 0, 0, []), (6, .istore 4, 0, 0, []), (8, .iload 4, 0, 0, []), (10, .iload_n 1, 0, 0, []), (11, .if_icmp .gt 32, 27, 0, []), (14, .aload_n 0, 0, 0, []), (15, .iload 4, 0, 0, []), (17, .iload_n 2, 0, 0, []), (18, .invokevirtual 261, 107, 0, []), (21, .istore_n 3, 0, 0, []), (22, .iload_n 3, 0, 0, []), (23, .bipush (-9), 0, 0, []), (25, .if_icmp .ne 6, 19, 0, []), (28, .bipush (-9), 0, 0, []), (30, .ireturn, 0, 0, []), (31, .iload_n 2, 0, 0, []), (32, .iconst 1, 0, 0, []), (33, .iload_n 3, 0, 0, []), (34, .ishl, 0, 0, []), (35, .ior, 0, 0, []), (36, .istore_n 2, 0, 0, []), (37, .iinc 4 1, 0, 0, []), (40, .goto (-32), 6, 0, []), (43, .iload_n 3, 0, 0, []), (44, .ireturn, 0, 0, [])]
def eX6_photoOf : ME := (yX6_photoOf, cX6_photoOf, 5, (some .int), { frames := 3, cells := 0, slots := 0, locals := 66 }, 2, 5, kX6_photoOf)
def kX6_firstPhoto : List EI := [(0, .iconst 0, 0, 0, []), (1, .istore_n 3, 0, 0, []), (2, .iload_n 3, 0, 0, []), (3, .aload_n 0, 0, 0, []), (4, .getfield 75, 5, 8, []), (7, .if_icmp .ge 35, 24, 0, []), (10, .iload_n 2, 0, 0, []), (11, .iload_n 3, 0, 0, []), (12, .invokestatic 88, 66, 0, []), (15, .ifCond .ne 21, 22, 0, []), (18, .aload_n 0, 0, 0, []), (19, .iload_n 1, 0, 0, []), (20, .iload_n 3, 0, 0, []), (21, .iload_n 2, 0, 0, []), (22, .invokevirtual 255, 105, 0, []), (25, .aload_n 0, 0, 0, []), (26, .getfield 53, 5, 11, []), (29, .iload_n 2, 0, 0, []), (30, .iaload, 0, 0, []), (31, .if_icmp .ne 5, 22, 0, []), (34, .iload_n 3, 0, 0, []), (35, .ireturn, 0, 0, []), (36, .iinc 3 1, 0, 0, []), (39, .goto (-37), 2, 0, []), (42, .bipush (-9), 0, 0, []), (44, .ireturn, 0, 0, [])]
def eX6_firstPhoto : ME := (yX6_firstPhoto, cX6_firstPhoto, 4, (some .int), { frames := 2, cells := 0, slots := 0, locals := 43 }, 3, 5, kX6_firstPhoto)
def kX6_barber : List EI := [(0, .aload_n 0, 0, 0, []), (1, .iload_n 1, 0, 0, []), (2, .invokevirtual 119, 56, 0, []), (5, .iload_n 2, 0, 0, []), (6, .iconst 0, 0, 0, []), (7, .bipush 99, 0, 0, []), (9, .invokestatic 100, 61, 0, []), (12, .invokestatic 126, 55, 0, []), (15, .istore_n 3, 0, 0, []), (16, .iload_n 3, 0, 0, []), (17, .ifCond .ne 9, 15, 0, []), (20, .aload_n 0, 0, 0, []), (21, .iload_n 1, 0, 0, []), (22, .invokevirtual 227, 63, 0, []), (25, .istore_n 3, 0, 0, []), (26, .iload_n 3, 0, 0, []), (27, .ifCond .eq 9, 21, 0, []), (30, .aload_n 0, 0, 0, []), (31, .iload_n 3, 0, 0, []), (32, .invokevirtual 105, 54, 0, []), (35, .ireturn, 0, 0, []), (36, .bipush (-9), 0, 0, []), (38, .istore 4, 0, 0, []), (40, .iconst 0, 0, 0, []), (41, .istore 5, 0, 0, []), (43, .iload 5, 0, 0, []), (45, .bipush 100, 0, 0, []), (47, .if_icmp .ge 87, 67, 0, []), (50, .iload 5, 0, 0, []), (52, .aload_n 0, 0, 0, []), (53, .getfield 10, 5, 0, []), (56, .getfield 62, 4, 0, []), (59, .getfield 135, 0, 5, []), (62, .iload_n 1, 0, 0, []), (63, .iaload, 0, 0, []), (64, .isub, 0, 0, []), (65, .invokestatic 212, 261, 0, []), (68, .istore 6, 0, 0, []), (70, .aload_n 0, 0, 0, []), (71, .getfield 10, 5, 0, []), (74, .getfield 62, 4, 0, []), (77, .aload_n 0, 0, 0, []), (78, .getfield 10, 5, 0, []), (81, .getfield 62, 4, 0, []), (84, .getfield 72, 0, 7, []), (87, .iload_n 1, 0, 0, []), (88, .iaload, 0, 0, []), (89, .iload 5, 0, 0, []), (91, .invokevirtual 203, 7, 0, []), (94, .iload_n 2, 0, 0, []), (95, .if_icmp .lt 7, 53, 0, []), (98, .iconst 1, 0, 0, []), (99, .goto 4, 54, 0, []), (102, .iconst 0, 0, 0, []), (103, .istore 7, 0, 0, []), (105, .iload 7, 0, 0, []), (107, .ifCond .eq 21, 65, 0, []), (110, .iload 4, 0, 0, []), (112, .bipush (-9), 0, 0, []), (114, .if_icmp .eq 10, 63, 0, []), (117, .iload 6, 0, 0, []), (119, .iload 4, 0, 0, []), (121, .if_icmp .ge 7, 65, 0, []), (124, .iload 6, 0, 0, []), (126, .istore 4, 0, 0, []), (128, .iinc 5 1, 0, 0, []), (131, .goto (-88), 25, 0, []), (134, .iload 4, 0, 0, []), (136, .ireturn, 0, 0, [])]
def eX6_barber : ME := (yX6_barber, cX6_barber, 8, (some .int), { frames := 2, cells := 0, slots := 0, locals := 49 }, 3, 5, kX6_barber)
def kX6_steps : List EI := [(0, .iload_n 1, 0, 0, []), (1, .iload_n 2, 0, 0, []), (2, .invokestatic 152, 59, 0, []), (5, .istore_n 3, 0, 0, []), (6, .iload_n 3, 0, 0, []), (7, .ifCond .eq 11, 10, 0, []), (10, .aload_n 0, 0, 0, []), (11, .iload_n 3, 0, 0, []), (12, .invokevirtual 105, 54, 0, []), (15, .goto 18, 17, 0, []), (18, .aload_n 0, 0, 0, []), (19, .getfield 10, 5, 0, []), (22, .getfield 155, 4, 1, []), (25, .getfield 264, 3, 0, []), (28, .iload_n 1, 0, 0, []), (29, .iload_n 2, 0, 0, []), (30, .invokestatic 267, 36, 0, []), (33, .ireturn, 0, 0, [])]
def eX6_steps : ME := (yX6_steps, cX6_steps, 4, (some .int), { frames := 3, cells := 0, slots := 0, locals := 68 }, 3, 5, kX6_steps)
def kX6_glances : List EI := [(0, .iload_n 1, 0, 0, []), (1, .iload_n 2, 0, 0, []), (2, .invokestatic 152, 59, 0, []), (5, .iload_n 3, 0, 0, []), (6, .iconst 2, 0, 0, []), (7, .invokestatic 122, 60, 0, []), (10, .invokestatic 126, 55, 0, []), (13, .istore 4, 0, 0, []), (15, .iload 4, 0, 0, []), (17, .ifCond .eq 10, 14, 0, []), (20, .aload_n 0, 0, 0, []), (21, .iload 4, 0, 0, []), (23, .invokevirtual 105, 54, 0, []), (26, .ireturn, 0, 0, []), (27, .aload_n 0, 0, 0, []), (28, .getfield 10, 5, 0, []), (31, .getfield 155, 4, 1, []), (34, .iload_n 1, 0, 0, []), (35, .iload_n 2, 0, 0, []), (36, .invokevirtual 273, 48, 0, []), (39, .istore 5, 0, 0, []), (41, .iload 5, 0, 0, []), (43, .ldc 254, 1000000, 0, []), (45, .if_icmp .ne 6, 26, 0, []), (48, .bipush (-9), 0, 0, []), (50, .ireturn, 0, 0, []), (51, .iload_n 3, 0, 0, []), (52, .ifCond .ne 11, 32, 0, []), (55, .iload 5, 0, 0, []), (57, .bipush 16, 0, 0, []), (59, .idiv, 0, 0, []), (60, .goto 8, 35, 0, []), (63, .iload 5, 0, 0, []), (65, .bipush 16, 0, 0, []), (67, .irem, 0, 0, []), (68, .ireturn, 0, 0, [])]
def eX6_glances : ME := (yX6_glances, cX6_glances, 6, (some .int), { frames := 3, cells := 0, slots := 0, locals := 69 }, 4, 5, kX6_glances)
def kX6_unseen : List EI := [(0, .iload_n 1, 0, 0, []), (1, .invokestatic 164, 58, 0, []), (4, .istore_n 2, 0, 0, []), (5, .iload_n 2, 0, 0, []), (6, .ifCond .eq 11, 9, 0, []), (9, .aload_n 0, 0, 0, []), (10, .iload_n 2, 0, 0, []), (11, .invokevirtual 105, 54, 0, []), (14, .goto 29, 21, 0, []), (17, .aload_n 0, 0, 0, []), (18, .getfield 10, 5, 0, []), (21, .getfield 155, 4, 1, []), (24, .getfield 264, 3, 0, []), (27, .iconst 1, 0, 0, []), (28, .iload_n 1, 0, 0, []), (29, .ishl, 0, 0, []), (30, .aload_n 0, 0, 0, []), (31, .getfield 10, 5, 0, []), (34, .getfield 155, 4, 1, []), (37, .invokevirtual 276, 47, 0, []), (40, .invokestatic 279, 35, 0, []), (43, .ireturn, 0, 0, [])]
def eX6_unseen : ME := (yX6_unseen, cX6_unseen, 3, (some .int), { frames := 3, cells := 0, slots := 0, locals := 68 }, 2, 5, kX6_unseen)
def kX6_cover : List EI := [(0, .iload_n 1, 0, 0, []), (1, .iload_n 2, 0, 0, []), (2, .invokestatic 152, 59, 0, []), (5, .istore_n 3, 0, 0, []), (6, .iload_n 3, 0, 0, []), (7, .ifCond .eq 9, 10, 0, []), (10, .aload_n 0, 0, 0, []), (11, .iload_n 3, 0, 0, []), (12, .invokevirtual 105, 54, 0, []), (15, .ireturn, 0, 0, []), (16, .bipush (-9), 0, 0, []), (18, .istore 4, 0, 0, []), (20, .aload_n 0, 0, 0, []), (21, .getfield 10, 5, 0, []), (24, .getfield 155, 4, 1, []), (27, .iload_n 1, 0, 0, []), (28, .iload_n 2, 0, 0, []), (29, .invokevirtual 273, 48, 0, []), (32, .bipush 16, 0, 0, []), (34, .idiv, 0, 0, []), (35, .istore 5, 0, 0, []), (37, .iconst 0, 0, 0, []), (38, .istore 6, 0, 0, []), (40, .iload 6, 0, 0, []), (42, .bipush 8, 0, 0, []), (44, .if_icmp .ge 43, 45, 0, []), (47, .aload_n 0, 0, 0, []), (48, .getfield 10, 5, 0, []), (51, .getfield 155, 4, 1, []), (54, .iload_n 1, 0, 0, []), (55, .iload_n 2, 0, 0, []), (56, .iload 6, 0, 0, []), (58, .invokevirtual 282, 50, 0, []), (61, .bipush 16, 0, 0, []), (63, .idiv, 0, 0, []), (64, .istore 7, 0, 0, []), (66, .iload 7, 0, 0, []), (68, .iload 5, 0, 0, []), (70, .if_icmp .ge 11, 43, 0, []), (73, .iload 7, 0, 0, []), (75, .istore 5, 0, 0, []), (77, .iload 6, 0, 0, []), (79, .istore 4, 0, 0, []), (81, .iinc 6 1, 0, 0, []), (84, .goto (-44), 23, 0, []), (87, .iload 4, 0, 0, []), (89, .ireturn, 0, 0, [])]
def eX6_cover : ME := (yX6_cover, cX6_cover, 8, (some .int), { frames := 4, cells := 0, slots := 0, locals := 94 }, 3, 5, kX6_cover)
def kX6_bargain : List EI := [(0, .iload_n 2, 0, 0, []), (1, .bipush 50, 0, 0, []), (3, .iload_n 1, 0, 0, []), (4, .iconst 1, 0, 0, []), (5, .bipush 20, 0, 0, []), (7, .invokestatic 141, 62, 0, []), (10, .istore_n 3, 0, 0, []), (11, .iload_n 3, 0, 0, []), (12, .ifCond .eq 11, 13, 0, []), (15, .aload_n 0, 0, 0, []), (16, .iload_n 3, 0, 0, []), (17, .invokevirtual 105, 54, 0, []), (20, .goto 8, 16, 0, []), (23, .iload_n 1, 0, 0, []), (24, .iload_n 2, 0, 0, []), (25, .invokestatic 285, 114, 0, []), (28, .ireturn, 0, 0, [])]
def eX6_bargain : ME := (yX6_bargain, cX6_bargain, 4, (some .int), { frames := 2, cells := 0, slots := 0, locals := 45 }, 3, 5, kX6_bargain)
def kX6_townShare : List EI := [(0, .iconst 0, 0, 0, []), (1, .istore_n 2, 0, 0, []), (2, .iload_n 0, 0, 0, []), (3, .istore_n 3, 0, 0, []), (4, .iload_n 3, 0, 0, []), (5, .iconst 1, 0, 0, []), (6, .if_icmp .lt 28, 23, 0, []), (9, .iconst 0, 0, 0, []), (10, .bipush 100, 0, 0, []), (12, .iload_n 1, 0, 0, []), (13, .iload_n 3, 0, 0, []), (14, .iconst 1, 0, 0, []), (15, .isub, 0, 0, []), (16, .imul, 0, 0, []), (17, .isub, 0, 0, []), (18, .invokestatic 224, 262, 0, []), (21, .istore 4, 0, 0, []), (23, .iload 4, 0, 0, []), (25, .iload_n 2, 0, 0, []), (26, .isub, 0, 0, []), (27, .istore_n 2, 0, 0, []), (28, .iinc 3 (-1), 0, 0, []), (31, .goto (-27), 4, 0, []), (34, .iload_n 2, 0, 0, []), (35, .ireturn, 0, 0, [])]
def eX6_townShare : ME := (yX6_townShare, cX6_townShare, 5, (some .int), { frames := 1, cells := 0, slots := 0, locals := 21 }, 2, 99, kX6_townShare)
def kX6_strike : List EI := [(0, .iload_n 1, 0, 0, []), (1, .iconst 0, 0, 0, []), (2, .bipush 50, 0, 0, []), (4, .invokestatic 100, 61, 0, []), (7, .istore_n 2, 0, 0, []), (8, .iload_n 2, 0, 0, []), (9, .ifCond .eq 9, 11, 0, []), (12, .aload_n 0, 0, 0, []), (13, .iload_n 2, 0, 0, []), (14, .invokevirtual 105, 54, 0, []), (17, .ireturn, 0, 0, []), (18, .iconst 1, 0, 0, []), (19, .istore_n 3, 0, 0, []), (20, .iconst 2, 0, 0, []), (21, .istore 4, 0, 0, []), (23, .iload 4, 0, 0, []), (25, .bipush 20, 0, 0, []), (27, .if_icmp .gt 26, 29, 0, []), (30, .iload 4, 0, 0, []), (32, .iload_n 1, 0, 0, []), (33, .invokestatic 285, 114, 0, []), (36, .iload_n 3, 0, 0, []), (37, .iload_n 1, 0, 0, []), (38, .invokestatic 285, 114, 0, []), (41, .if_icmp .le 6, 27, 0, []), (44, .iload 4, 0, 0, []), (46, .istore_n 3, 0, 0, []), (47, .iinc 4 1, 0, 0, []), (50, .goto (-27), 15, 0, []), (53, .iload_n 3, 0, 0, []), (54, .ireturn, 0, 0, [])]
def eX6_strike : ME := (yX6_strike, cX6_strike, 5, (some .int), { frames := 2, cells := 0, slots := 0, locals := 45 }, 2, 5, kX6_strike)
def kX6_echo : List EI := [(0, .aload_n 0, 0, 0, []), (1, .iload_n 1, 0, 0, []), (2, .invokevirtual 119, 56, 0, []), (5, .istore_n 2, 0, 0, []), (6, .iload_n 2, 0, 0, []), (7, .ifCond .eq 11, 10, 0, []), (10, .aload_n 0, 0, 0, []), (11, .iload_n 2, 0, 0, []), (12, .invokevirtual 105, 54, 0, []), (15, .goto 14, 15, 0, []), (18, .aload_n 0, 0, 0, []), (19, .getfield 10, 5, 0, []), (22, .getfield 62, 4, 0, []), (25, .iload_n 1, 0, 0, []), (26, .invokevirtual 288, 15, 0, []), (29, .ireturn, 0, 0, [])]
def eX6_echo : ME := (yX6_echo, cX6_echo, 3, (some .int), { frames := 4, cells := 0, slots := 0, locals := 89 }, 2, 5, kX6_echo)
def kX6_loops : List EI := [(0, .iload_n 1, 0, 0, []), (1, .iconst 3, 0, 0, []), (2, .invokestatic 122, 60, 0, []), (5, .istore_n 2, 0, 0, []), (6, .iload_n 2, 0, 0, []), (7, .ifCond .eq 9, 10, 0, []), (10, .aload_n 0, 0, 0, []), (11, .iload_n 2, 0, 0, []), (12, .invokevirtual 105, 54, 0, []), (15, .ireturn, 0, 0, []), (16, .aload_n 0, 0, 0, []), (17, .getfield 10, 5, 0, []), (20, .getfield 62, 4, 0, []), (23, .astore_n 3, 0, 0, []), (24, .iload_n 1, 0, 0, []), (25, .iconst 2, 0, 0, []), (26, .if_icmp .ne 22, 28, 0, []), (29, .aload_n 3, 0, 0, []), (30, .invokevirtual 291, 3, 0, []), (33, .aload_n 3, 0, 0, []), (34, .getfield 72, 0, 7, []), (37, .aload_n 3, 0, 0, []), (38, .invokevirtual 291, 3, 0, []), (41, .invokestatic 294, 34, 0, []), (44, .iconst (-1), 0, 0, []), (45, .ixor, 0, 0, []), (46, .iand, 0, 0, []), (47, .ireturn, 0, 0, []), (48, .iconst 0, 0, 0, []), (49, .istore 4, 0, 0, []), (51, .iconst 0, 0, 0, []), (52, .istore 5, 0, 0, []), (54, .iload 5, 0, 0, []), (56, .aload_n 3, 0, 0, []), (57, .getfield 79, 0, 0, []), (60, .if_icmp .ge 58, 63, 0, []), (63, .iload_n 1, 0, 0, []), (64, .ifCond .ne 17, 44, 0, []), (67, .aload_n 3, 0, 0, []), (68, .iload 5, 0, 0, []), (70, .invokevirtual 288, 15, 0, []), (73, .iload 5, 0, 0, []), (75, .invokestatic 88, 66, 0, []), (78, .goto 18, 52, 0, []), (81, .aload_n 3, 0, 0, []), (82, .getfield 72, 0, 7, []), (85, .iload 5, 0, 0, []), (87, .iaload, 0, 0, []), (88, .ifCond .ne 7, 51, 0, []), (91, .iconst 1, 0, 0, []), (92, .goto 4, 52, 0, []), (95, .iconst 0, 0, 0, []), (96, .istore 6, 0, 0, []), (98, .iload 6, 0, 0, []), (100, .ifCond .eq 12, 61, 0, []), (103, .iload 4, 0, 0, []), (105, .iconst 1, 0, 0, []), (106, .iload 5, 0, 0, []), (108, .ishl, 0, 0, []), (109, .ior, 0, 0, []), (110, .istore 4, 0, 0, []), (112, .iinc 5 1, 0, 0, []), (115, .goto (-61), 32, 0, []), (118, .iload 4, 0, 0, []), (120, .ireturn, 0, 0, [])]
def eX6_loops : ME := (yX6_loops, cX6_loops, 7, (some .int), { frames := 4, cells := 0, slots := 0, locals := 89 }, 2, 5, kX6_loops)
def kX6_humble : List EI := [(0, .iload_n 1, 0, 0, []), (1, .iconst 0, 0, 0, []), (2, .bipush 60, 0, 0, []), (4, .invokestatic 100, 61, 0, []), (7, .istore_n 2, 0, 0, []), (8, .iload_n 2, 0, 0, []), (9, .ifCond .eq 9, 11, 0, []), (12, .aload_n 0, 0, 0, []), (13, .iload_n 2, 0, 0, []), (14, .invokevirtual 105, 54, 0, []), (17, .ireturn, 0, 0, []), (18, .bipush (-9), 0, 0, []), (20, .istore_n 3, 0, 0, []), (21, .aload_n 0, 0, 0, []), (22, .iload_n 1, 0, 0, []), (23, .invokevirtual 184, 69, 0, []), (26, .invokevirtual 191, 11, 0, []), (29, .istore 4, 0, 0, []), (31, .iconst 0, 0, 0, []), (32, .istore 5, 0, 0, []), (34, .iload 5, 0, 0, []), (36, .aload_n 0, 0, 0, []), (37, .getfield 10, 5, 0, []), (40, .getfield 62, 4, 0, []), (43, .getfield 79, 0, 0, []), (46, .if_icmp .ge 36, 42, 0, []), (49, .aload_n 0, 0, 0, []), (50, .iload 5, 0, 0, []), (52, .iload_n 1, 0, 0, []), (53, .iconst 0, 0, 0, []), (54, .invokevirtual 298, 119, 0, []), (57, .invokevirtual 191, 11, 0, []), (60, .istore 6, 0, 0, []), (62, .iload 6, 0, 0, []), (64, .iload 4, 0, 0, []), (66, .if_icmp .ge 10, 40, 0, []), (69, .iload 6, 0, 0, []), (71, .istore 4, 0, 0, []), (73, .iload 5, 0, 0, []), (75, .istore_n 3, 0, 0, []), (76, .iinc 5 1, 0, 0, []), (79, .goto (-45), 20, 0, []), (82, .iload_n 3, 0, 0, []), (83, .ireturn, 0, 0, [])]
def eX6_humble : ME := (yX6_humble, cX6_humble, 7, (some .int), { frames := 5, cells := 0, slots := 0, locals := 117 }, 2, 5, kX6_humble)
def kX6_aheadWithFigure : List EI := [(0, .aload_n 0, 0, 0, []), (1, .getfield 25, 5, 4, []), (4, .aload_n 0, 0, 0, []), (5, .getfield 10, 5, 0, []), (8, .getfield 62, 4, 0, []), (11, .invokevirtual 92, 1, 0, []), (14, .aload_n 0, 0, 0, []), (15, .getfield 25, 5, 4, []), (18, .getfield 132, 0, 4, []), (21, .iload_n 1, 0, 0, []), (22, .iload_n 3, 0, 0, []), (23, .iastore, 0, 0, []), (24, .aload_n 0, 0, 0, []), (25, .getfield 25, 5, 4, []), (28, .iload_n 2, 0, 0, []), (29, .invokevirtual 96, 9, 0, []), (32, .aload_n 0, 0, 0, []), (33, .getfield 25, 5, 4, []), (36, .areturn, 0, 0, [])]
def eX6_aheadWithFigure : ME := (yX6_aheadWithFigure, cX6_aheadWithFigure, 4, (some (.object "MirrorsOnStrike$Folk")), { frames := 4, cells := 0, slots := 0, locals := 94 }, 4, 5, kX6_aheadWithFigure)
def kX6_highest : List EI := [(0, .aload_n 0, 0, 0, []), (1, .iload_n 1, 0, 0, []), (2, .invokevirtual 119, 56, 0, []), (5, .iload_n 2, 0, 0, []), (6, .iconst 2, 0, 0, []), (7, .invokestatic 122, 60, 0, []), (10, .invokestatic 126, 55, 0, []), (13, .istore_n 3, 0, 0, []), (14, .iload_n 3, 0, 0, []), (15, .ifCond .eq 9, 14, 0, []), (18, .aload_n 0, 0, 0, []), (19, .iload_n 3, 0, 0, []), (20, .invokevirtual 105, 54, 0, []), (23, .ireturn, 0, 0, []), (24, .bipush (-9), 0, 0, []), (26, .istore 4, 0, 0, []), (28, .iconst 0, 0, 0, []), (29, .istore 5, 0, 0, []), (31, .iload 5, 0, 0, []), (33, .aload_n 0, 0, 0, []), (34, .getfield 10, 5, 0, []), (37, .getfield 62, 4, 0, []), (40, .getfield 79, 0, 0, []), (43, .if_icmp .ge 76, 56, 0, []), (46, .iload 5, 0, 0, []), (48, .iload_n 1, 0, 0, []), (49, .if_icmp .ne 6, 28, 0, []), (52, .goto 61, 54, 0, []), (55, .aload_n 0, 0, 0, []), (56, .getfield 10, 5, 0, []), (59, .getfield 62, 4, 0, []), (62, .iload 5, 0, 0, []), (64, .aload_n 0, 0, 0, []), (65, .getfield 10, 5, 0, []), (68, .getfield 62, 4, 0, []), (71, .getfield 135, 0, 5, []), (74, .iload_n 1, 0, 0, []), (75, .iaload, 0, 0, []), (76, .invokevirtual 181, 6, 0, []), (79, .istore 6, 0, 0, []), (81, .iload 4, 0, 0, []), (83, .bipush (-9), 0, 0, []), (85, .if_icmp .eq 24, 52, 0, []), (88, .iload_n 2, 0, 0, []), (89, .ifCond .ne 13, 49, 0, []), (92, .iload 6, 0, 0, []), (94, .iload 4, 0, 0, []), (96, .if_icmp .le 17, 54, 0, []), (99, .goto 10, 52, 0, []), (102, .iload 6, 0, 0, []), (104, .iload 4, 0, 0, []), (106, .if_icmp .ge 7, 54, 0, []), (109, .iload 6, 0, 0, []), (111, .istore 4, 0, 0, []), (113, .iinc 5 1, 0, 0, []), (116, .goto (-85), 18, 0, []), (119, .iload 4, 0, 0, []), (121, .ireturn, 0, 0, [])]
def eX6_highest : ME := (yX6_highest, cX6_highest, 7, (some .int), { frames := 2, cells := 0, slots := 0, locals := 42 }, 3, 5, kX6_highest)
def kX6_spread : List EI := [(0, .iload_n 1, 0, 0, []), (1, .iconst 0, 0, 0, []), (2, .bipush 60, 0, 0, []), (4, .invokestatic 100, 61, 0, []), (7, .istore_n 2, 0, 0, []), (8, .iload_n 2, 0, 0, []), (9, .ifCond .eq 11, 11, 0, []), (12, .aload_n 0, 0, 0, []), (13, .iload_n 2, 0, 0, []), (14, .invokevirtual 105, 54, 0, []), (17, .goto 11, 15, 0, []), (20, .aload_n 0, 0, 0, []), (21, .iload_n 1, 0, 0, []), (22, .invokevirtual 184, 69, 0, []), (25, .invokevirtual 302, 14, 0, []), (28, .ireturn, 0, 0, [])]
def eX6_spread : ME := (yX6_spread, cX6_spread, 3, (some .int), { frames := 5, cells := 0, slots := 0, locals := 115 }, 2, 5, kX6_spread)
def kX6_pairs : List EI := [(0, .aload_n 0, 0, 0, []), (1, .getfield 10, 5, 0, []), (4, .getfield 62, 4, 0, []), (7, .astore_n 1, 0, 0, []), (8, .bipush (-9), 0, 0, []), (10, .istore_n 2, 0, 0, []), (11, .bipush (-9), 0, 0, []), (13, .istore_n 3, 0, 0, []), (14, .iconst 0, 0, 0, []), (15, .istore 4, 0, 0, []), (17, .iload 4, 0, 0, []), (19, .aload_n 1, 0, 0, []), (20, .getfield 79, 0, 0, []), (23, .if_icmp .ge 102, 63, 0, []), (26, .iload 4, 0, 0, []), (28, .iconst 1, 0, 0, []), (29, .iadd, 0, 0, []), (30, .istore 5, 0, 0, []), (32, .iload 5, 0, 0, []), (34, .aload_n 1, 0, 0, []), (35, .getfield 79, 0, 0, []), (38, .if_icmp .ge 81, 61, 0, []), (41, .aload_n 1, 0, 0, []), (42, .getfield 72, 0, 7, []), (45, .iload 4, 0, 0, []), (47, .iaload, 0, 0, []), (48, .iload 5, 0, 0, []), (50, .invokestatic 88, 66, 0, []), (53, .ifCond .eq 22, 38, 0, []), (56, .aload_n 1, 0, 0, []), (57, .getfield 72, 0, 7, []), (60, .iload 5, 0, 0, []), (62, .iaload, 0, 0, []), (63, .iload 4, 0, 0, []), (65, .invokestatic 88, 66, 0, []), (68, .ifCond .eq 7, 38, 0, []), (71, .iconst 1, 0, 0, []), (72, .goto 4, 39, 0, []), (75, .iconst 0, 0, 0, []), (76, .istore 6, 0, 0, []), (78, .iload 6, 0, 0, []), (80, .ifCond .eq 33, 59, 0, []), (83, .aload_n 1, 0, 0, []), (84, .iload 4, 0, 0, []), (86, .iload 5, 0, 0, []), (88, .invokevirtual 221, 13, 0, []), (91, .iload_n 3, 0, 0, []), (92, .if_icmp .le 21, 59, 0, []), (95, .aload_n 1, 0, 0, []), (96, .iload 4, 0, 0, []), (98, .iload 5, 0, 0, []), (100, .invokevirtual 221, 13, 0, []), (103, .istore_n 3, 0, 0, []), (104, .bipush 10, 0, 0, []), (106, .iload 4, 0, 0, []), (108, .imul, 0, 0, []), (109, .iload 5, 0, 0, []), (111, .iadd, 0, 0, []), (112, .istore_n 2, 0, 0, []), (113, .iinc 5 1, 0, 0, []), (116, .goto (-84), 18, 0, []), (119, .iinc 4 1, 0, 0, []), (122, .goto (-105), 10, 0, []), (125, .iload_n 2, 0, 0, []), (126, .ireturn, 0, 0, [])]
def eX6_pairs : ME := (yX6_pairs, cX6_pairs, 7, (some .int), { frames := 2, cells := 0, slots := 0, locals := 42 }, 1, 5, kX6_pairs)
def kX6_calm : List EI := [(0, .iload_n 1, 0, 0, []), (1, .iconst 0, 0, 0, []), (2, .bipush 99, 0, 0, []), (4, .invokestatic 100, 61, 0, []), (7, .istore_n 2, 0, 0, []), (8, .iload_n 2, 0, 0, []), (9, .ifCond .eq 9, 11, 0, []), (12, .aload_n 0, 0, 0, []), (13, .iload_n 2, 0, 0, []), (14, .invokevirtual 105, 54, 0, []), (17, .ireturn, 0, 0, []), (18, .aload_n 0, 0, 0, []), (19, .iconst 0, 0, 0, []), (20, .invokevirtual 184, 69, 0, []), (23, .astore_n 3, 0, 0, []), (24, .iconst 0, 0, 0, []), (25, .istore 4, 0, 0, []), (27, .iload 4, 0, 0, []), (29, .bipush 60, 0, 0, []), (31, .if_icmp .gt 45, 41, 0, []), (34, .aload_n 3, 0, 0, []), (35, .iload_n 1, 0, 0, []), (36, .invokevirtual 188, 12, 0, []), (39, .ifCond .eq 7, 26, 0, []), (42, .iconst 1, 0, 0, []), (43, .goto 4, 27, 0, []), (46, .iconst 0, 0, 0, []), (47, .istore 5, 0, 0, []), (49, .aload_n 3, 0, 0, []), (50, .invokevirtual 173, 8, 0, []), (53, .pop, 0, 0, []), (54, .iload 5, 0, 0, []), (56, .ifCond .eq 14, 39, 0, []), (59, .aload_n 3, 0, 0, []), (60, .getfield 305, 0, 2, []), (63, .iload_n 1, 0, 0, []), (64, .if_icmp .gt 6, 39, 0, []), (67, .iload 4, 0, 0, []), (69, .ireturn, 0, 0, []), (70, .iinc 4 1, 0, 0, []), (73, .goto (-46), 17, 0, []), (76, .bipush (-9), 0, 0, []), (78, .ireturn, 0, 0, [])]
def eX6_calm : ME := (yX6_calm, cX6_calm, 6, (some .int), { frames := 5, cells := 0, slots := 0, locals := 115 }, 2, 5, kX6_calm)
def kX6_honest : List EI := [(0, .iload_n 1, 0, 0, []), (1, .iconst 2, 0, 0, []), (2, .invokestatic 122, 60, 0, []), (5, .istore_n 2, 0, 0, []), (6, .iload_n 2, 0, 0, []), (7, .ifCond .eq 9, 10, 0, []), (10, .aload_n 0, 0, 0, []), (11, .iload_n 2, 0, 0, []), (12, .invokevirtual 105, 54, 0, []), (15, .ireturn, 0, 0, []), (16, .aload_n 0, 0, 0, []), (17, .getfield 10, 5, 0, []), (20, .getfield 62, 4, 0, []), (23, .getfield 79, 0, 0, []), (26, .iconst 2, 0, 0, []), (27, .if_icmp .ge 6, 18, 0, []), (30, .bipush (-9), 0, 0, []), (32, .ireturn, 0, 0, []), (33, .iconst 0, 0, 0, []), (34, .istore_n 3, 0, 0, []), (35, .iconst 1, 0, 0, []), (36, .istore 4, 0, 0, []), (38, .iload 4, 0, 0, []), (40, .aload_n 0, 0, 0, []), (41, .getfield 10, 5, 0, []), (44, .getfield 62, 4, 0, []), (47, .getfield 79, 0, 0, []), (50, .if_icmp .ge 38, 43, 0, []), (53, .aload_n 0, 0, 0, []), (54, .getfield 10, 5, 0, []), (57, .getfield 62, 4, 0, []), (60, .iload 4, 0, 0, []), (62, .invokevirtual 308, 17, 0, []), (65, .aload_n 0, 0, 0, []), (66, .getfield 10, 5, 0, []), (69, .getfield 62, 4, 0, []), (72, .iload_n 3, 0, 0, []), (73, .invokevirtual 308, 17, 0, []), (76, .if_icmp .ge 6, 41, 0, []), (79, .iload 4, 0, 0, []), (81, .istore_n 3, 0, 0, []), (82, .iinc 4 1, 0, 0, []), (85, .goto (-47), 22, 0, []), (88, .iload_n 1, 0, 0, []), (89, .ifCond .ne 7, 47, 0, []), (92, .iload_n 3, 0, 0, []), (93, .goto 14, 52, 0, []), (96, .aload_n 0, 0, 0, []), (97, .getfield 10, 5, 0, []), (100, .getfield 62, 4, 0, []), (103, .iload_n 3, 0, 0, []), (104, .invokevirtual 308, 17, 0, []), (107, .ireturn, 0, 0, [])]
def eX6_honest : ME := (yX6_honest, cX6_honest, 5, (some .int), { frames := 2, cells := 0, slots := 0, locals := 47 }, 2, 5, kX6_honest)
def kX6_chain : List EI := [(0, .aload_n 0, 0, 0, []), (1, .iload_n 1, 0, 0, []), (2, .iload_n 2, 0, 0, []), (3, .invokevirtual 146, 57, 0, []), (6, .istore_n 3, 0, 0, []), (7, .iload_n 3, 0, 0, []), (8, .ifCond .eq 11, 11, 0, []), (11, .aload_n 0, 0, 0, []), (12, .iload_n 3, 0, 0, []), (13, .invokevirtual 105, 54, 0, []), (16, .goto 18, 18, 0, []), (19, .aload_n 0, 0, 0, []), (20, .getfield 10, 5, 0, []), (23, .getfield 62, 4, 0, []), (26, .getfield 72, 0, 7, []), (29, .iload_n 1, 0, 0, []), (30, .iload_n 2, 0, 0, []), (31, .invokestatic 267, 36, 0, []), (34, .ireturn, 0, 0, [])]
def eX6_chain : ME := (yX6_chain, cX6_chain, 4, (some .int), { frames := 3, cells := 0, slots := 0, locals := 68 }, 3, 5, kX6_chain)
def kX6_clique : List EI := [(0, .iconst 0, 0, 0, []), (1, .istore_n 1, 0, 0, []), (2, .aload_n 0, 0, 0, []), (3, .getfield 10, 5, 0, []), (6, .getfield 62, 4, 0, []), (9, .invokevirtual 291, 3, 0, []), (12, .istore_n 2, 0, 0, []), (13, .iconst 1, 0, 0, []), (14, .istore_n 3, 0, 0, []), (15, .iload_n 3, 0, 0, []), (16, .iload_n 2, 0, 0, []), (17, .if_icmp .gt 36, 27, 0, []), (20, .aload_n 0, 0, 0, []), (21, .getfield 10, 5, 0, []), (24, .getfield 62, 4, 0, []), (27, .iload_n 3, 0, 0, []), (28, .invokevirtual 311, 16, 0, []), (31, .ifCond .eq 16, 25, 0, []), (34, .iload_n 3, 0, 0, []), (35, .invokestatic 82, 260, 0, []), (38, .iload_n 1, 0, 0, []), (39, .invokestatic 82, 260, 0, []), (42, .if_icmp .le 5, 25, 0, []), (45, .iload_n 3, 0, 0, []), (46, .istore_n 1, 0, 0, []), (47, .iinc 3 1, 0, 0, []), (50, .goto (-35), 9, 0, []), (53, .iload_n 1, 0, 0, []), (54, .ireturn, 0, 0, [])]
def eX6_clique : ME := (yX6_clique, cX6_clique, 4, (some .int), { frames := 2, cells := 0, slots := 0, locals := 44 }, 1, 5, kX6_clique)
def kX6_cut : List EI := [(0, .aload_n 0, 0, 0, []), (1, .iload_n 1, 0, 0, []), (2, .iload_n 2, 0, 0, []), (3, .invokevirtual 146, 57, 0, []), (6, .istore_n 3, 0, 0, []), (7, .iload_n 3, 0, 0, []), (8, .ifCond .eq 9, 11, 0, []), (11, .aload_n 0, 0, 0, []), (12, .iload_n 3, 0, 0, []), (13, .invokevirtual 105, 54, 0, []), (16, .ireturn, 0, 0, []), (17, .aload_n 0, 0, 0, []), (18, .getfield 10, 5, 0, []), (21, .getfield 62, 4, 0, []), (24, .astore 4, 0, 0, []), (26, .aload 4, 0, 0, []), (28, .getfield 72, 0, 7, []), (31, .iload_n 1, 0, 0, []), (32, .iaload, 0, 0, []), (33, .iload_n 2, 0, 0, []), (34, .invokestatic 88, 66, 0, []), (37, .ifCond .eq 6, 24, 0, []), (40, .bipush (-9), 0, 0, []), (42, .ireturn, 0, 0, []), (43, .bipush (-9), 0, 0, []), (45, .istore 5, 0, 0, []), (47, .aload 4, 0, 0, []), (49, .iload_n 1, 0, 0, []), (50, .invokevirtual 200, 4, 0, []), (53, .iconst 1, 0, 0, []), (54, .iload_n 2, 0, 0, []), (55, .ishl, 0, 0, []), (56, .iconst (-1), 0, 0, []), (57, .ixor, 0, 0, []), (58, .iand, 0, 0, []), (59, .istore 6, 0, 0, []), (61, .iconst 0, 0, 0, []), (62, .istore 7, 0, 0, []), (64, .iload 7, 0, 0, []), (66, .iload 6, 0, 0, []), (68, .if_icmp .gt 74, 76, 0, []), (71, .iload 7, 0, 0, []), (73, .iload 6, 0, 0, []), (75, .iconst (-1), 0, 0, []), (76, .ixor, 0, 0, []), (77, .iand, 0, 0, []), (78, .ifCond .ne 29, 61, 0, []), (81, .aload 4, 0, 0, []), (83, .getfield 72, 0, 7, []), (86, .iconst 1, 0, 0, []), (87, .iload_n 1, 0, 0, []), (88, .ishl, 0, 0, []), (89, .iload 7, 0, 0, []), (91, .iconst (-1), 0, 0, []), (92, .ixor, 0, 0, []), (93, .invokestatic 279, 35, 0, []), (96, .iload_n 2, 0, 0, []), (97, .invokestatic 88, 66, 0, []), (100, .ifCond .ne 7, 61, 0, []), (103, .iconst 1, 0, 0, []), (104, .goto 4, 62, 0, []), (107, .iconst 0, 0, 0, []), (108, .istore 8, 0, 0, []), (110, .iload 8, 0, 0, []), (112, .ifCond .eq 24, 74, 0, []), (115, .iload 5, 0, 0, []), (117, .bipush (-9), 0, 0, []), (119, .if_icmp .eq 13, 72, 0, []), (122, .iload 7, 0, 0, []), (124, .iload 5, 0, 0, []), (126, .invokestatic 206, 67, 0, []), (129, .ifCond .eq 7, 74, 0, []), (132, .iload 7, 0, 0, []), (134, .istore 5, 0, 0, []), (136, .iinc 7 1, 0, 0, []), (139, .goto (-75), 38, 0, []), (142, .iload 5, 0, 0, []), (144, .ireturn, 0, 0, [])]
def eX6_cut : ME := (yX6_cut, cX6_cut, 9, (some .int), { frames := 3, cells := 0, slots := 0, locals := 68 }, 3, 5, kX6_cut)
def kX6_wanted : List EI := [(0, .aload_n 0, 0, 0, []), (1, .iload_n 1, 0, 0, []), (2, .invokevirtual 119, 56, 0, []), (5, .iload_n 2, 0, 0, []), (6, .iconst 0, 0, 0, []), (7, .bipush 99, 0, 0, []), (9, .invokestatic 100, 61, 0, []), (12, .invokestatic 126, 55, 0, []), (15, .istore_n 3, 0, 0, []), (16, .iload_n 3, 0, 0, []), (17, .ifCond .eq 9, 15, 0, []), (20, .aload_n 0, 0, 0, []), (21, .iload_n 3, 0, 0, []), (22, .invokevirtual 105, 54, 0, []), (25, .ireturn, 0, 0, []), (26, .aload_n 0, 0, 0, []), (27, .iconst 0, 0, 0, []), (28, .invokevirtual 184, 69, 0, []), (31, .astore 4, 0, 0, []), (33, .iconst 0, 0, 0, []), (34, .istore 5, 0, 0, []), (36, .iload 5, 0, 0, []), (38, .bipush 60, 0, 0, []), (40, .if_icmp .gt 29, 37, 0, []), (43, .aload 4, 0, 0, []), (45, .getfield 138, 0, 6, []), (48, .iload_n 1, 0, 0, []), (49, .iaload, 0, 0, []), (50, .iload_n 2, 0, 0, []), (51, .if_icmp .lt 6, 32, 0, []), (54, .iload 5, 0, 0, []), (56, .ireturn, 0, 0, []), (57, .aload 4, 0, 0, []), (59, .invokevirtual 173, 8, 0, []), (62, .pop, 0, 0, []), (63, .iinc 5 1, 0, 0, []), (66, .goto (-30), 21, 0, []), (69, .bipush (-9), 0, 0, []), (71, .ireturn, 0, 0, [])]
def eX6_wanted : ME := (yX6_wanted, cX6_wanted, 6, (some .int), { frames := 5, cells := 0, slots := 0, locals := 115 }, 3, 5, kX6_wanted)
def kX6_panel : List EI := [(0, .aload_n 0, 0, 0, []), (1, .iload_n 1, 0, 0, []), (2, .invokevirtual 119, 56, 0, []), (5, .iload_n 2, 0, 0, []), (6, .iconst 1, 0, 0, []), (7, .bipush 6, 0, 0, []), (9, .invokestatic 100, 61, 0, []), (12, .invokestatic 126, 55, 0, []), (15, .istore_n 3, 0, 0, []), (16, .iload_n 3, 0, 0, []), (17, .ifCond .eq 9, 15, 0, []), (20, .aload_n 0, 0, 0, []), (21, .iload_n 3, 0, 0, []), (22, .invokevirtual 105, 54, 0, []), (25, .ireturn, 0, 0, []), (26, .bipush (-9), 0, 0, []), (28, .istore 4, 0, 0, []), (30, .bipush (-9), 0, 0, []), (32, .istore 5, 0, 0, []), (34, .aload_n 0, 0, 0, []), (35, .getfield 10, 5, 0, []), (38, .getfield 62, 4, 0, []), (41, .iload_n 1, 0, 0, []), (42, .invokevirtual 200, 4, 0, []), (45, .istore 6, 0, 0, []), (47, .iconst 1, 0, 0, []), (48, .istore 7, 0, 0, []), (50, .iload 7, 0, 0, []), (52, .iload 6, 0, 0, []), (54, .if_icmp .gt 72, 62, 0, []), (57, .iload 7, 0, 0, []), (59, .iload 6, 0, 0, []), (61, .iconst (-1), 0, 0, []), (62, .ixor, 0, 0, []), (63, .iand, 0, 0, []), (64, .ifCond .ne 56, 60, 0, []), (67, .iload 7, 0, 0, []), (69, .invokestatic 82, 260, 0, []), (72, .iload_n 2, 0, 0, []), (73, .if_icmp .eq 6, 41, 0, []), (76, .goto 44, 60, 0, []), (79, .aload_n 0, 0, 0, []), (80, .getfield 10, 5, 0, []), (83, .getfield 62, 4, 0, []), (86, .iload 7, 0, 0, []), (88, .aload_n 0, 0, 0, []), (89, .getfield 10, 5, 0, []), (92, .getfield 62, 4, 0, []), (95, .getfield 135, 0, 5, []), (98, .iload_n 1, 0, 0, []), (99, .iaload, 0, 0, []), (100, .invokevirtual 203, 7, 0, []), (103, .istore 8, 0, 0, []), (105, .iload 8, 0, 0, []), (107, .iload 5, 0, 0, []), (109, .if_icmp .le 11, 60, 0, []), (112, .iload 8, 0, 0, []), (114, .istore 5, 0, 0, []), (116, .iload 7, 0, 0, []), (118, .istore 4, 0, 0, []), (120, .iinc 7 1, 0, 0, []), (123, .goto (-73), 27, 0, []), (126, .iload 4, 0, 0, []), (128, .ireturn, 0, 0, [])]
def eX6_panel : ME := (yX6_panel, cX6_panel, 9, (some .int), { frames := 2, cells := 0, slots := 0, locals := 49 }, 3, 5, kX6_panel)
def kX6_tour : List EI := [(0, .iload_n 1, 0, 0, []), (1, .invokestatic 164, 58, 0, []), (4, .iload_n 2, 0, 0, []), (5, .iconst 0, 0, 0, []), (6, .sipush 255, 0, 0, []), (9, .invokestatic 100, 61, 0, []), (12, .invokestatic 126, 55, 0, []), (15, .istore_n 3, 0, 0, []), (16, .iload_n 3, 0, 0, []), (17, .ifCond .eq 9, 14, 0, []), (20, .aload_n 0, 0, 0, []), (21, .iload_n 3, 0, 0, []), (22, .invokevirtual 105, 54, 0, []), (25, .ireturn, 0, 0, []), (26, .aload_n 0, 0, 0, []), (27, .getfield 56, 5, 12, []), (30, .iconst 0, 0, 0, []), (31, .invokestatic 242, 264, 0, []), (34, .aload_n 0, 0, 0, []), (35, .getfield 56, 5, 12, []), (38, .iconst 1, 0, 0, []), (39, .iload_n 1, 0, 0, []), (40, .ishl, 0, 0, []), (41, .iconst 1, 0, 0, []), (42, .iload_n 1, 0, 0, []), (43, .ishl, 0, 0, []), (44, .iastore, 0, 0, []), (45, .iconst 0, 0, 0, []), (46, .istore 4, 0, 0, []), (48, .iload 4, 0, 0, []), (50, .bipush 14, 0, 0, []), (52, .if_icmp .gt 24, 42, 0, []), (55, .aload_n 0, 0, 0, []), (56, .iload_n 2, 0, 0, []), (57, .invokevirtual 314, 131, 0, []), (60, .ifCond .eq 6, 38, 0, []), (63, .iload 4, 0, 0, []), (65, .ireturn, 0, 0, []), (66, .aload_n 0, 0, 0, []), (67, .invokevirtual 317, 132, 0, []), (70, .iinc 4 1, 0, 0, []), (73, .goto (-25), 29, 0, []), (76, .bipush (-9), 0, 0, []), (78, .ireturn, 0, 0, [])]
def eX6_tour : ME := (yX6_tour, cX6_tour, 5, (some .int), { frames := 3, cells := 0, slots := 0, locals := 71 }, 3, 5, kX6_tour)
def kX6_hasSeen : List EI := [(0, .iconst 0, 0, 0, []), (1, .istore_n 2, 0, 0, []), (2, .iload_n 2, 0, 0, []), (3, .sipush 255, 0, 0, []), (6, .if_icmp .gt 28, 20, 0, []), (9, .aload_n 0, 0, 0, []), (10, .getfield 56, 5, 12, []), (13, .iload_n 2, 0, 0, []), (14, .iaload, 0, 0, []), (15, .ifCond .eq 13, 18, 0, []), (18, .iload_n 1, 0, 0, []), (19, .iload_n 2, 0, 0, []), (20, .iconst (-1), 0, 0, []), (21, .ixor, 0, 0, []), (22, .iand, 0, 0, []), (23, .ifCond .ne 5, 18, 0, []), (26, .iconst 1, 0, 0, []), (27, .ireturn, 0, 0, []), (28, .iinc 2 1, 0, 0, []), (31, .goto (-29), 2, 0, []), (34, .iconst 0, 0, 0, []), (35, .ireturn, 0, 0, [])]
def eX6_hasSeen : ME := (yX6_hasSeen, cX6_hasSeen, 3, (some .boolean), { frames := 0, cells := 0, slots := 0, locals := 0 }, 2, 5, kX6_hasSeen)
def kX6_stepOn : List EI := [(0, .aload_n 0, 0, 0, []), (1, .getfield 59, 5, 13, []), (4, .iconst 0, 0, 0, []), (5, .invokestatic 242, 264, 0, []), (8, .iconst 0, 0, 0, []), (9, .istore_n 1, 0, 0, []), (10, .iload_n 1, 0, 0, []), (11, .sipush 255, 0, 0, []), (14, .if_icmp .gt 80, 53, 0, []), (17, .aload_n 0, 0, 0, []), (18, .getfield 56, 5, 12, []), (21, .iload_n 1, 0, 0, []), (22, .iaload, 0, 0, []), (23, .ifCond .ne 7, 16, 0, []), (26, .iconst 0, 0, 0, []), (27, .goto 22, 25, 0, []), (30, .aload_n 0, 0, 0, []), (31, .getfield 10, 5, 0, []), (34, .getfield 155, 4, 1, []), (37, .getfield 264, 3, 0, []), (40, .aload_n 0, 0, 0, []), (41, .getfield 56, 5, 12, []), (44, .iload_n 1, 0, 0, []), (45, .iaload, 0, 0, []), (46, .invokestatic 294, 34, 0, []), (49, .istore_n 2, 0, 0, []), (50, .iconst 0, 0, 0, []), (51, .istore_n 3, 0, 0, []), (52, .iload_n 3, 0, 0, []), (53, .bipush 8, 0, 0, []), (55, .if_icmp .ge 33, 51, 0, []), (58, .iload_n 2, 0, 0, []), (59, .iload_n 3, 0, 0, []), (60, .invokestatic 88, 66, 0, []), (63, .ifCond .eq 19, 49, 0, []), (66, .aload_n 0, 0, 0, []), (67, .getfield 59, 5, 13, []), (70, .iload_n 1, 0, 0, []), (71, .iconst 1, 0, 0, []), (72, .iload_n 3, 0, 0, []), (73, .ishl, 0, 0, []), (74, .ior, 0, 0, []), (75, .dup2, 0, 0, []), (76, .iaload, 0, 0, []), (77, .iconst 1, 0, 0, []), (78, .iload_n 3, 0, 0, []), (79, .ishl, 0, 0, []), (80, .ior, 0, 0, []), (81, .iastore, 0, 0, []), (82, .iinc 3 1, 0, 0, []), (85, .goto (-33), 28, 0, []), (88, .iinc 1 1, 0, 0, []), (91, .goto (-81), 6, 0, []), (94, .aload_n 0, 0, 0, []), (95, .getfield 59, 5, 13, []), (98, .iconst 0, 0, 0, []), (99, .aload_n 0, 0, 0, []), (100, .getfield 56, 5, 12, []), (103, .iconst 0, 0, 0, []), (104, .aload_n 0, 0, 0, []), (105, .getfield 59, 5, 13, []), (108, .arraylength, 0, 0, []), (109, .invokestatic 320, 0, 2, []), (112, .return_, 0, 0, [])]
def eX6_stepOn : ME := (yX6_stepOn, cX6_stepOn, 4, none, { frames := 2, cells := 0, slots := 0, locals := 48 }, 1, 5, kX6_stepOn)
def kX6_narrows : List EI := [(0, .iload_n 1, 0, 0, []), (1, .iload_n 2, 0, 0, []), (2, .if_icmp .ne 7, 5, 0, []), (5, .iconst (-1), 0, 0, []), (6, .goto 8, 8, 0, []), (9, .iload_n 1, 0, 0, []), (10, .iload_n 2, 0, 0, []), (11, .invokestatic 152, 59, 0, []), (14, .istore_n 3, 0, 0, []), (15, .iload_n 3, 0, 0, []), (16, .ifCond .eq 9, 15, 0, []), (19, .aload_n 0, 0, 0, []), (20, .iload_n 3, 0, 0, []), (21, .invokevirtual 105, 54, 0, []), (24, .ireturn, 0, 0, []), (25, .aload_n 0, 0, 0, []), (26, .getfield 10, 5, 0, []), (29, .getfield 155, 4, 1, []), (32, .getfield 264, 3, 0, []), (35, .astore 4, 0, 0, []), (37, .aload 4, 0, 0, []), (39, .iconst 1, 0, 0, []), (40, .iload_n 1, 0, 0, []), (41, .ishl, 0, 0, []), (42, .sipush 255, 0, 0, []), (45, .invokestatic 279, 35, 0, []), (48, .iload_n 2, 0, 0, []), (49, .invokestatic 88, 66, 0, []), (52, .ifCond .ne 6, 31, 0, []), (55, .bipush (-9), 0, 0, []), (57, .ireturn, 0, 0, []), (58, .iconst 0, 0, 0, []), (59, .istore 5, 0, 0, []), (61, .iconst 0, 0, 0, []), (62, .istore 6, 0, 0, []), (64, .iload 6, 0, 0, []), (66, .bipush 8, 0, 0, []), (68, .if_icmp .ge 63, 71, 0, []), (71, .iload 6, 0, 0, []), (73, .iload_n 1, 0, 0, []), (74, .if_icmp .eq 13, 46, 0, []), (77, .iload 6, 0, 0, []), (79, .iload_n 2, 0, 0, []), (80, .if_icmp .eq 7, 46, 0, []), (83, .iconst 1, 0, 0, []), (84, .goto 4, 47, 0, []), (87, .iconst 0, 0, 0, []), (88, .istore 7, 0, 0, []), (90, .iload 7, 0, 0, []), (92, .ifCond .eq 33, 69, 0, []), (95, .aload 4, 0, 0, []), (97, .iconst 1, 0, 0, []), (98, .iload_n 1, 0, 0, []), (99, .ishl, 0, 0, []), (100, .iconst 1, 0, 0, []), (101, .iload 6, 0, 0, []), (103, .ishl, 0, 0, []), (104, .iconst (-1), 0, 0, []), (105, .ixor, 0, 0, []), (106, .invokestatic 279, 35, 0, []), (109, .iload_n 2, 0, 0, []), (110, .invokestatic 88, 66, 0, []), (113, .ifCond .ne 12, 69, 0, []), (116, .iload 5, 0, 0, []), (118, .iconst 1, 0, 0, []), (119, .iload 6, 0, 0, []), (121, .ishl, 0, 0, []), (122, .ior, 0, 0, []), (123, .istore 5, 0, 0, []), (125, .iinc 6 1, 0, 0, []), (128, .goto (-64), 35, 0, []), (131, .iload 5, 0, 0, []), (133, .ireturn, 0, 0, [])]
def eX6_narrows : ME := (yX6_narrows, cX6_narrows, 8, (some .int), { frames := 3, cells := 0, slots := 0, locals := 68 }, 3, 5, kX6_narrows)
def kX6_middle : List EI := [(0, .iload_n 1, 0, 0, []), (1, .invokestatic 164, 58, 0, []), (4, .iload_n 2, 0, 0, []), (5, .iconst 2, 0, 0, []), (6, .invokestatic 122, 60, 0, []), (9, .invokestatic 126, 55, 0, []), (12, .istore_n 3, 0, 0, []), (13, .iload_n 3, 0, 0, []), (14, .ifCond .eq 9, 13, 0, []), (17, .aload_n 0, 0, 0, []), (18, .iload_n 3, 0, 0, []), (19, .invokevirtual 105, 54, 0, []), (22, .ireturn, 0, 0, []), (23, .aload_n 0, 0, 0, []), (24, .getfield 10, 5, 0, []), (27, .getfield 155, 4, 1, []), (30, .getfield 264, 3, 0, []), (33, .astore 4, 0, 0, []), (35, .aload 4, 0, 0, []), (37, .iconst 1, 0, 0, []), (38, .iload_n 1, 0, 0, []), (39, .ishl, 0, 0, []), (40, .sipush 255, 0, 0, []), (43, .invokestatic 279, 35, 0, []), (46, .istore 5, 0, 0, []), (48, .bipush (-9), 0, 0, []), (50, .istore 6, 0, 0, []), (52, .bipush 8, 0, 0, []), (54, .istore 7, 0, 0, []), (56, .iconst 0, 0, 0, []), (57, .istore 8, 0, 0, []), (59, .iload 8, 0, 0, []), (61, .bipush 8, 0, 0, []), (63, .if_icmp .ge 48, 53, 0, []), (66, .iload 5, 0, 0, []), (68, .iload 8, 0, 0, []), (70, .invokestatic 88, 66, 0, []), (73, .ifCond .eq 13, 42, 0, []), (76, .aload 4, 0, 0, []), (78, .iload 8, 0, 0, []), (80, .invokestatic 326, 37, 0, []), (83, .goto 5, 43, 0, []), (86, .bipush 8, 0, 0, []), (88, .istore 9, 0, 0, []), (90, .iload 9, 0, 0, []), (92, .iload 7, 0, 0, []), (94, .if_icmp .ge 11, 51, 0, []), (97, .iload 9, 0, 0, []), (99, .istore 7, 0, 0, []), (101, .iload 8, 0, 0, []), (103, .istore 6, 0, 0, []), (105, .iinc 8 1, 0, 0, []), (108, .goto (-49), 31, 0, []), (111, .iload_n 2, 0, 0, []), (112, .ifCond .ne 8, 57, 0, []), (115, .iload 6, 0, 0, []), (117, .goto 5, 58, 0, []), (120, .iload 7, 0, 0, []), (122, .ireturn, 0, 0, [])]
def eX6_middle : ME := (yX6_middle, cX6_middle, 10, (some .int), { frames := 4, cells := 0, slots := 0, locals := 93 }, 3, 5, kX6_middle)
def kX6_changed : List EI := [(0, .aload_n 0, 0, 0, []), (1, .iload_n 1, 0, 0, []), (2, .invokevirtual 119, 56, 0, []), (5, .iload_n 2, 0, 0, []), (6, .bipush 60, 0, 0, []), (8, .iload_n 3, 0, 0, []), (9, .iconst 0, 0, 0, []), (10, .bipush 9, 0, 0, []), (12, .invokestatic 141, 62, 0, []), (15, .invokestatic 126, 55, 0, []), (18, .istore 4, 0, 0, []), (20, .iload 4, 0, 0, []), (22, .ifCond .eq 10, 17, 0, []), (25, .aload_n 0, 0, 0, []), (26, .iload 4, 0, 0, []), (28, .invokevirtual 105, 54, 0, []), (31, .ireturn, 0, 0, []), (32, .aload_n 0, 0, 0, []), (33, .getfield 16, 5, 1, []), (36, .getfield 62, 4, 0, []), (39, .aload_n 0, 0, 0, []), (40, .iload_n 2, 0, 0, []), (41, .invokevirtual 184, 69, 0, []), (44, .invokevirtual 92, 1, 0, []), (47, .aload_n 0, 0, 0, []), (48, .iload_n 1, 0, 0, []), (49, .iload_n 2, 0, 0, []), (50, .iload_n 3, 0, 0, []), (51, .invokevirtual 298, 119, 0, []), (54, .aload_n 0, 0, 0, []), (55, .getfield 16, 5, 1, []), (58, .getfield 62, 4, 0, []), (61, .invokevirtual 197, 10, 0, []), (64, .ireturn, 0, 0, [])]
def eX6_changed : ME := (yX6_changed, cX6_changed, 5, (some .int), { frames := 5, cells := 0, slots := 0, locals := 117 }, 4, 5, kX6_changed)
def kX6_row : List EI := [(0, .iload_n 1, 0, 0, []), (1, .iconst 0, 0, 0, []), (2, .bipush 99, 0, 0, []), (4, .invokestatic 100, 61, 0, []), (7, .istore_n 2, 0, 0, []), (8, .iload_n 2, 0, 0, []), (9, .ifCond .ne 15, 13, 0, []), (12, .aload_n 0, 0, 0, []), (13, .getfield 75, 5, 8, []), (16, .bipush 12, 0, 0, []), (18, .if_icmp .lt 6, 13, 0, []), (21, .bipush (-6), 0, 0, []), (23, .istore_n 2, 0, 0, []), (24, .iload_n 2, 0, 0, []), (25, .ifCond .eq 9, 19, 0, []), (28, .aload_n 0, 0, 0, []), (29, .iload_n 2, 0, 0, []), (30, .invokevirtual 105, 54, 0, []), (33, .ireturn, 0, 0, []), (34, .aload_n 0, 0, 0, []), (35, .getfield 43, 5, 7, []), (38, .aload_n 0, 0, 0, []), (39, .getfield 75, 5, 8, []), (42, .iload_n 1, 0, 0, []), (43, .iastore, 0, 0, []), (44, .aload_n 0, 0, 0, []), (45, .dup, 0, 0, []), (46, .getfield 75, 5, 8, []), (49, .iconst 1, 0, 0, []), (50, .iadd, 0, 0, []), (51, .putfield 75, 5, 8, []), (54, .aload_n 0, 0, 0, []), (55, .getfield 75, 5, 8, []), (58, .ireturn, 0, 0, [])]
def eX6_row : ME := (yX6_row, cX6_row, 3, (some .int), { frames := 1, cells := 0, slots := 0, locals := 22 }, 2, 5, kX6_row)
def kX6_judge : List EI := [(0, .aload_n 0, 0, 0, []), (1, .getfield 75, 5, 8, []), (4, .istore_n 1, 0, 0, []), (5, .aload_n 0, 0, 0, []), (6, .iconst 0, 0, 0, []), (7, .putfield 75, 5, 8, []), (10, .iconst 0, 0, 0, []), (11, .istore_n 2, 0, 0, []), (12, .iload_n 2, 0, 0, []), (13, .iload_n 1, 0, 0, []), (14, .if_icmp .ge 46, 32, 0, []), (17, .aload_n 0, 0, 0, []), (18, .getfield 10, 5, 0, []), (21, .getfield 62, 4, 0, []), (24, .iload_n 2, 0, 0, []), (25, .invokevirtual 65, 2, 0, []), (28, .ifCond .eq 24, 28, 0, []), (31, .aload_n 0, 0, 0, []), (32, .getfield 10, 5, 0, []), (35, .getfield 62, 4, 0, []), (38, .getfield 138, 0, 6, []), (41, .iload_n 2, 0, 0, []), (42, .iaload, 0, 0, []), (43, .aload_n 0, 0, 0, []), (44, .getfield 43, 5, 7, []), (47, .iload_n 2, 0, 0, []), (48, .iaload, 0, 0, []), (49, .if_icmp .eq 5, 30, 0, []), (52, .iload_n 2, 0, 0, []), (53, .ireturn, 0, 0, []), (54, .iinc 2 1, 0, 0, []), (57, .goto (-45), 8, 0, []), (60, .bipush (-9), 0, 0, []), (62, .ireturn, 0, 0, [])]
def eX6_judge : ME := (yX6_judge, cX6_judge, 3, (some .int), { frames := 1, cells := 0, slots := 0, locals := 21 }, 1, 5, kX6_judge)
def kX6_clear : List EI := [(0, .aload_n 0, 0, 0, []), (1, .getfield 75, 5, 8, []), (4, .istore_n 1, 0, 0, []), (5, .aload_n 0, 0, 0, []), (6, .iconst 0, 0, 0, []), (7, .putfield 75, 5, 8, []), (10, .iload_n 1, 0, 0, []), (11, .ireturn, 0, 0, [])]
def eX6_clear : ME := (yX6_clear, cX6_clear, 2, (some .int), { frames := 0, cells := 0, slots := 0, locals := 0 }, 1, 5, kX6_clear)
def kX6_lots : List EI := [(0, .iload_n 1, 0, 0, []), (1, .iconst 1, 0, 0, []), (2, .bipush 20, 0, 0, []), (4, .invokestatic 100, 61, 0, []), (7, .iload_n 3, 0, 0, []), (8, .iconst 2, 0, 0, []), (9, .invokestatic 122, 60, 0, []), (12, .invokestatic 126, 55, 0, []), (15, .istore 4, 0, 0, []), (17, .iload 4, 0, 0, []), (19, .ifCond .eq 10, 15, 0, []), (22, .aload_n 0, 0, 0, []), (23, .iload 4, 0, 0, []), (25, .invokevirtual 105, 54, 0, []), (28, .ireturn, 0, 0, []), (29, .iload_n 2, 0, 0, []), (30, .istore 5, 0, 0, []), (32, .iconst 0, 0, 0, []), (33, .istore 6, 0, 0, []), (35, .iconst 0, 0, 0, []), (36, .istore 7, 0, 0, []), (38, .iconst 0, 0, 0, []), (39, .istore 8, 0, 0, []), (41, .iload 8, 0, 0, []), (43, .iload_n 1, 0, 0, []), (44, .if_icmp .ge 76, 60, 0, []), (47, .aload_n 0, 0, 0, []), (48, .getfield 25, 5, 4, []), (51, .aload_n 0, 0, 0, []), (52, .getfield 10, 5, 0, []), (55, .getfield 62, 4, 0, []), (58, .invokevirtual 92, 1, 0, []), (61, .aload_n 0, 0, 0, []), (62, .getfield 25, 5, 4, []), (65, .iload 5, 0, 0, []), (67, .invokevirtual 329, 18, 0, []), (70, .istore 5, 0, 0, []), (72, .aload_n 0, 0, 0, []), (73, .getfield 25, 5, 4, []), (76, .bipush 10, 0, 0, []), (78, .invokevirtual 96, 9, 0, []), (81, .iload 6, 0, 0, []), (83, .aload_n 0, 0, 0, []), (84, .getfield 25, 5, 4, []), (87, .invokevirtual 191, 11, 0, []), (90, .iadd, 0, 0, []), (91, .istore 6, 0, 0, []), (93, .iload 7, 0, 0, []), (95, .aload_n 0, 0, 0, []), (96, .getfield 25, 5, 4, []), (99, .iconst 5, 0, 0, []), (100, .invokevirtual 188, 12, 0, []), (103, .ifCond .ne 7, 55, 0, []), (106, .iconst 1, 0, 0, []), (107, .goto 4, 56, 0, []), (110, .iconst 0, 0, 0, []), (111, .iadd, 0, 0, []), (112, .istore 7, 0, 0, []), (114, .iinc 8 1, 0, 0, []), (117, .goto (-76), 23, 0, []), (120, .iload_n 3, 0, 0, []), (121, .ifCond .ne 8, 64, 0, []), (124, .iload 6, 0, 0, []), (126, .goto 5, 65, 0, []), (129, .iload 7, 0, 0, []), (131, .ireturn, 0, 0, [])]
def eX6_lots : ME := (yX6_lots, cX6_lots, 9, (some .int), { frames := 4, cells := 0, slots := 0, locals := 94 }, 4, 5, kX6_lots)
def kX6_image : List EI := [(0, .aload_n 0, 0, 0, []), (1, .getfield 19, 5, 2, []), (4, .aload_n 0, 0, 0, []), (5, .getfield 10, 5, 0, []), (8, .invokevirtual 111, 52, 0, []), (11, .aload_n 0, 0, 0, []), (12, .iconst 1, 0, 0, []), (13, .putfield 332, 5, 3, []), (16, .aload_n 0, 0, 0, []), (17, .getfield 10, 5, 0, []), (20, .getfield 62, 4, 0, []), (23, .getfield 170, 0, 1, []), (26, .ireturn, 0, 0, [])]
def eX6_image : ME := (yX6_image, cX6_image, 1, (some .int), { frames := 3, cells := 0, slots := 0, locals := 90 }, 1, 5, kX6_image)
def kX6_restore : List EI := [(0, .aload_n 0, 0, 0, []), (1, .getfield 332, 5, 3, []), (4, .ifCond .ne 10, 7, 0, []), (7, .aload_n 0, 0, 0, []), (8, .bipush (-3), 0, 0, []), (10, .invokevirtual 105, 54, 0, []), (13, .ireturn, 0, 0, []), (14, .aload_n 0, 0, 0, []), (15, .getfield 10, 5, 0, []), (18, .aload_n 0, 0, 0, []), (19, .getfield 19, 5, 2, []), (22, .invokevirtual 111, 52, 0, []), (25, .aload_n 0, 0, 0, []), (26, .getfield 32, 5, 5, []), (29, .iconst 0, 0, 0, []), (30, .putfield 118, 2, 0, []), (33, .aload_n 0, 0, 0, []), (34, .getfield 10, 5, 0, []), (37, .getfield 62, 4, 0, []), (40, .getfield 170, 0, 1, []), (43, .ireturn, 0, 0, [])]
def eX6_restore : ME := (yX6_restore, cX6_restore, 1, (some .int), { frames := 3, cells := 0, slots := 0, locals := 90 }, 1, 5, kX6_restore)
def kX6_count : List EI := [(0, .iload_n 1, 0, 0, []), (1, .tableswitch 143 0 7 #[47, 58, 69, 90, 111, 122, 130, 135], 0, 0, [46, 2, 7, 12, 21, 30, 35, 39, 42]), (48, .aload_n 0, 0, 0, []), (49, .getfield 10, 5, 0, []), (52, .getfield 62, 4, 0, []), (55, .getfield 79, 0, 0, []), (58, .ireturn, 0, 0, []), (59, .aload_n 0, 0, 0, []), (60, .getfield 10, 5, 0, []), (63, .getfield 62, 4, 0, []), (66, .getfield 170, 0, 1, []), (69, .ireturn, 0, 0, []), (70, .aload_n 0, 0, 0, []), (71, .getfield 10, 5, 0, []), (74, .getfield 62, 4, 0, []), (77, .aload_n 0, 0, 0, []), (78, .getfield 10, 5, 0, []), (81, .getfield 62, 4, 0, []), (84, .getfield 135, 0, 5, []), (87, .invokevirtual 336, 19, 0, []), (90, .ireturn, 0, 0, []), (91, .aload_n 0, 0, 0, []), (92, .getfield 10, 5, 0, []), (95, .getfield 62, 4, 0, []), (98, .aload_n 0, 0, 0, []), (99, .getfield 10, 5, 0, []), (102, .getfield 62, 4, 0, []), (105, .getfield 138, 0, 6, []), (108, .invokevirtual 336, 19, 0, []), (111, .ireturn, 0, 0, []), (112, .aload_n 0, 0, 0, []), (113, .getfield 10, 5, 0, []), (116, .getfield 155, 4, 1, []), (119, .invokevirtual 340, 45, 0, []), (122, .ireturn, 0, 0, []), (123, .aload_n 0, 0, 0, []), (124, .getfield 39, 5, 6, []), (127, .getfield 104, 1, 0, []), (130, .ireturn, 0, 0, []), (131, .aload_n 0, 0, 0, []), (132, .getfield 75, 5, 8, []), (135, .ireturn, 0, 0, []), (136, .aload_n 0, 0, 0, []), (137, .getfield 32, 5, 5, []), (140, .getfield 118, 2, 0, []), (143, .ireturn, 0, 0, []), (144, .iload_n 1, 0, 0, []), (145, .bipush 11, 0, 0, []), (147, .if_icmp .lt 21, 59, 0, []), (150, .iload_n 1, 0, 0, []), (151, .bipush 16, 0, 0, []), (153, .if_icmp .gt 15, 59, 0, []), (156, .aload_n 0, 0, 0, []), (157, .getfield 47, 5, 9, []), (160, .iload_n 1, 0, 0, []), (161, .bipush 10, 0, 0, []), (163, .isub, 0, 0, []), (164, .iaload, 0, 0, []), (165, .goto 5, 60, 0, []), (168, .bipush (-9), 0, 0, []), (170, .ireturn, 0, 0, [])]
def eX6_count : ME := (yX6_count, cX6_count, 2, (some .int), { frames := 2, cells := 0, slots := 0, locals := 42 }, 2, 5, kX6_count)
def kX7_init : List EI := [(0, .aload_n 0, 0, 0, []), (1, .invokespecial 1, 0, 1, []), (4, .aload_n 0, 0, 0, []), (5, .bipush 7, 0, 0, []), (7, .newarray .int, 0, 0, []), (9, .putfield 7, 6, 0, []), (12, .aload_n 0, 0, 0, []), (13, .bipush 7, 0, 0, []), (15, .newarray .int, 0, 0, []), (17, .putfield 13, 6, 1, []), (20, .aload_n 0, 0, 0, []), (21, .bipush 7, 0, 0, []), (23, .newarray .int, 0, 0, []), (25, .putfield 16, 6, 2, []), (28, .aload_n 0, 0, 0, []), (29, .bipush 7, 0, 0, []), (31, .newarray .int, 0, 0, []), (33, .putfield 19, 6, 3, []), (36, .aload_n 0, 0, 0, []), (37, .bipush 7, 0, 0, []), (39, .newarray .int, 0, 0, []), (41, .putfield 22, 6, 4, []), (44, .aload_n 0, 0, 0, []), (45, .bipush 7, 0, 0, []), (47, .newarray .int, 0, 0, []), (49, .putfield 25, 6, 5, []), (52, .aload_n 0, 0, 0, []), (53, .bipush 8, 0, 0, []), (55, .newarray .int, 0, 0, []), (57, .putfield 28, 6, 6, []), (60, .aload_n 0, 0, 0, []), (61, .bipush 8, 0, 0, []), (63, .newarray .int, 0, 0, []), (65, .putfield 31, 6, 7, []), (68, .aload_n 0, 0, 0, []), (69, .bipush 96, 0, 0, []), (71, .newarray .int, 0, 0, []), (73, .putfield 34, 6, 10, []), (76, .aload_n 0, 0, 0, []), (77, .bipush 48, 0, 0, []), (79, .newarray .int, 0, 0, []), (81, .putfield 37, 6, 11, []), (84, .aload_n 0, 0, 0, []), (85, .bipush 48, 0, 0, []), (87, .newarray .int, 0, 0, []), (89, .putfield 40, 6, 12, []), (92, .aload_n 0, 0, 0, []), (93, .sipush 144, 0, 0, []), (96, .newarray .int, 0, 0, []), (98, .putfield 43, 6, 13, []), (101, .aload_n 0, 0, 0, []), (102, .sipush 660, 0, 0, []), (105, .newarray .int, 0, 0, []), (107, .putfield 46, 6, 17, []), (110, .aload_n 0, 0, 0, []), (111, .bipush 7, 0, 0, []), (113, .newarray .int, 0, 0, []), (115, .putfield 49, 6, 22, []), (118, .aload_n 0, 0, 0, []), (119, .sipush 868, 0, 0, []), (122, .newarray .int, 0, 0, []), (124, .putfield 52, 6, 23, []), (127, .aload_n 0, 0, 0, []), (128, .bipush 12, 0, 0, []), (130, .newarray .int, 0, 0, []), (132, .putfield 55, 6, 24, []), (135, .aload_n 0, 0, 0, []), (136, .bipush 100, 0, 0, []), (138, .newarray .int, 0, 0, []), (140, .putfield 58, 6, 26, []), (143, .aload_n 0, 0, 0, []), (144, .sipush 128, 0, 0, []), (147, .newarray .int, 0, 0, []), (149, .putfield 61, 6, 27, []), (152, .aload_n 0, 0, 0, []), (153, .bipush 8, 0, 0, []), (155, .newarray .int, 0, 0, []), (157, .putfield 64, 6, 28, []), (160, .aload_n 0, 0, 0, []), (161, .sipush 2048, 0, 0, []), (164, .newarray .int, 0, 0, []), (166, .putfield 67, 6, 29, []), (169, .aload_n 0, 0, 0, []), (170, .iconst 0, 0, 0, []), (171, .putfield 70, 6, 8, []), (174, .return_, 0, 0, [])]
def eX7_init : ME := (yX7_init, cX7_init, 1, none, { frames := 1, cells := 20, slots := 4225, locals := 20 }, 1, 6, kX7_init)
def kX7_no : List EI := [(0, .aload_n 0, 0, 0, []), (1, .getfield 7, 6, 0, []), (4, .iload_n 1, 0, 0, []), (5, .ineg, 0, 0, []), (6, .dup2, 0, 0, []), (7, .iaload, 0, 0, []), (8, .iconst 1, 0, 0, []), (9, .iadd, 0, 0, []), (10, .iastore, 0, 0, []), (11, .iload_n 1, 0, 0, []), (12, .ireturn, 0, 0, [])]
def eX7_no : ME := (yX7_no, cX7_no, 2, (some .int), { frames := 0, cells := 0, slots := 0, locals := 0 }, 2, 6, kX7_no)
def kX7_lower : List EI := [(0, .aload_n 0, 0, 0, []), (1, .getfield 7, 6, 0, []), (4, .iload_n 1, 0, 0, []), (5, .ineg, 0, 0, []), (6, .dup2, 0, 0, []), (7, .iaload, 0, 0, []), (8, .iconst 1, 0, 0, []), (9, .iadd, 0, 0, []), (10, .iastore, 0, 0, []), (11, .ldc 74, 1000000000, 0, []), (13, .iload_n 1, 0, 0, []), (14, .isub, 0, 0, []), (15, .ireturn, 0, 0, [])]
def eX7_lower : ME := (yX7_lower, cX7_lower, 2, (some .int), { frames := 0, cells := 0, slots := 0, locals := 0 }, 2, 6, kX7_lower)
def kX7_isIn : List EI := [(0, .iload_n 0, 0, 0, []), (1, .iload_n 1, 0, 0, []), (2, .if_icmp .lt 12, 8, 0, []), (5, .iload_n 0, 0, 0, []), (6, .iload_n 2, 0, 0, []), (7, .if_icmp .gt 7, 8, 0, []), (10, .iconst 1, 0, 0, []), (11, .goto 4, 9, 0, []), (14, .iconst 0, 0, 0, []), (15, .ireturn, 0, 0, [])]
def eX7_isIn : ME := (yX7_isIn, cX7_isIn, 3, (some .boolean), { frames := 0, cells := 0, slots := 0, locals := 0 }, 3, 99, kX7_isIn)
def kX7_bound : List EI := [(0, .iload_n 0, 0, 0, []), (1, .iload_n 1, 0, 0, []), (2, .if_icmp .ge 8, 5, 0, []), (5, .bipush (-4), 0, 0, []), (7, .goto 14, 11, 0, []), (10, .iload_n 0, 0, 0, []), (11, .iload_n 2, 0, 0, []), (12, .if_icmp .le 8, 10, 0, []), (15, .bipush (-6), 0, 0, []), (17, .goto 4, 11, 0, []), (20, .iconst 0, 0, 0, []), (21, .ireturn, 0, 0, [])]
def eX7_bound : ME := (yX7_bound, cX7_bound, 3, (some .int), { frames := 0, cells := 0, slots := 0, locals := 0 }, 3, 99, kX7_bound)
def kX7_has : List EI := [(0, .iload_n 0, 0, 0, []), (1, .iload_n 1, 0, 0, []), (2, .ishr, 0, 0, []), (3, .iconst 1, 0, 0, []), (4, .iand, 0, 0, []), (5, .iconst 1, 0, 0, []), (6, .if_icmp .ne 7, 9, 0, []), (9, .iconst 1, 0, 0, []), (10, .goto 4, 10, 0, []), (13, .iconst 0, 0, 0, []), (14, .ireturn, 0, 0, [])]
def eX7_has : ME := (yX7_has, cX7_has, 2, (some .boolean), { frames := 0, cells := 0, slots := 0, locals := 0 }, 2, 99, kX7_has)
def kX7_bits : List EI := [(0, .iconst 0, 0, 0, []), (1, .istore_n 1, 0, 0, []), (2, .iconst 0, 0, 0, []), (3, .istore_n 2, 0, 0, []), (4, .iload_n 2, 0, 0, []), (5, .bipush 31, 0, 0, []), (7, .if_icmp .ge 17, 17, 0, []), (10, .iload_n 1, 0, 0, []), (11, .iload_n 0, 0, 0, []), (12, .iload_n 2, 0, 0, []), (13, .ishr, 0, 0, []), (14, .iconst 1, 0, 0, []), (15, .iand, 0, 0, []), (16, .iadd, 0, 0, []), (17, .istore_n 1, 0, 0, []), (18, .iinc 2 1, 0, 0, []), (21, .goto (-17), 4, 0, []), (24, .iload_n 1, 0, 0, []), (25, .ireturn, 0, 0, [])]
def eX7_bits : ME := (yX7_bits, cX7_bits, 3, (some .int), { frames := 0, cells := 0, slots := 0, locals := 0 }, 1, 99, kX7_bits)
def kX7_far : List EI := [(0, .iload_n 0, 0, 0, []), (1, .iload_n 1, 0, 0, []), (2, .if_icmp .ge 9, 7, 0, []), (5, .iload_n 1, 0, 0, []), (6, .iload_n 0, 0, 0, []), (7, .isub, 0, 0, []), (8, .goto 6, 10, 0, []), (11, .iload_n 0, 0, 0, []), (12, .iload_n 1, 0, 0, []), (13, .isub, 0, 0, []), (14, .ireturn, 0, 0, [])]
def eX7_far : ME := (yX7_far, cX7_far, 2, (some .int), { frames := 0, cells := 0, slots := 0, locals := 0 }, 2, 99, kX7_far)
def kX7_isPerson : List EI := [(0, .iload_n 1, 0, 0, []), (1, .ifCond .lt 15, 8, 0, []), (4, .iload_n 1, 0, 0, []), (5, .aload_n 0, 0, 0, []), (6, .getfield 70, 6, 8, []), (9, .if_icmp .ge 7, 8, 0, []), (12, .iconst 1, 0, 0, []), (13, .goto 4, 9, 0, []), (16, .iconst 0, 0, 0, []), (17, .ireturn, 0, 0, [])]
def eX7_isPerson : ME := (yX7_isPerson, cX7_isPerson, 2, (some .boolean), { frames := 0, cells := 0, slots := 0, locals := 0 }, 2, 6, kX7_isPerson)
def kX7_areTwo : List EI := [(0, .aload_n 0, 0, 0, []), (1, .iload_n 1, 0, 0, []), (2, .invokevirtual 75, 151, 0, []), (5, .ifCond .eq 20, 13, 0, []), (8, .aload_n 0, 0, 0, []), (9, .iload_n 2, 0, 0, []), (10, .invokevirtual 75, 151, 0, []), (13, .ifCond .eq 12, 13, 0, []), (16, .iload_n 1, 0, 0, []), (17, .iload_n 2, 0, 0, []), (18, .if_icmp .eq 7, 13, 0, []), (21, .iconst 1, 0, 0, []), (22, .goto 4, 14, 0, []), (25, .iconst 0, 0, 0, []), (26, .ireturn, 0, 0, [])]
def eX7_areTwo : ME := (yX7_areTwo, cX7_areTwo, 3, (some .boolean), { frames := 1, cells := 0, slots := 0, locals := 21 }, 3, 6, kX7_areTwo)
def kX7_isPlace : List EI := [(0, .iload_n 0, 0, 0, []), (1, .ifCond .lt 13, 7, 0, []), (4, .iload_n 0, 0, 0, []), (5, .bipush 8, 0, 0, []), (7, .if_icmp .ge 7, 7, 0, []), (10, .iconst 1, 0, 0, []), (11, .goto 4, 8, 0, []), (14, .iconst 0, 0, 0, []), (15, .ireturn, 0, 0, [])]
def eX7_isPlace : ME := (yX7_isPlace, cX7_isPlace, 1, (some .boolean), { frames := 0, cells := 0, slots := 0, locals := 0 }, 1, 99, kX7_isPlace)
def kX7_all : List EI := [(0, .iconst 1, 0, 0, []), (1, .aload_n 0, 0, 0, []), (2, .getfield 70, 6, 8, []), (5, .ishl, 0, 0, []), (6, .iconst 1, 0, 0, []), (7, .isub, 0, 0, []), (8, .ireturn, 0, 0, [])]
def eX7_all : ME := (yX7_all, cX7_all, 1, (some .int), { frames := 0, cells := 0, slots := 0, locals := 0 }, 1, 6, kX7_all)
def kX7_feed : List EI := [(0, .iload_n 1, 0, 0, []), (1, .iconst 0, 0, 0, []), (2, .sipush 255, 0, 0, []), (5, .invokestatic 79, 147, 0, []), (8, .istore_n 2, 0, 0, []), (9, .iload_n 2, 0, 0, []), (10, .ifCond .ne 15, 13, 0, []), (13, .aload_n 0, 0, 0, []), (14, .getfield 83, 6, 14, []), (17, .bipush 96, 0, 0, []), (19, .if_icmp .ne 6, 13, 0, []), (22, .bipush (-6), 0, 0, []), (24, .istore_n 2, 0, 0, []), (25, .iload_n 2, 0, 0, []), (26, .ifCond .eq 9, 19, 0, []), (29, .aload_n 0, 0, 0, []), (30, .iload_n 2, 0, 0, []), (31, .invokevirtual 86, 144, 0, []), (34, .ireturn, 0, 0, []), (35, .aload_n 0, 0, 0, []), (36, .getfield 34, 6, 10, []), (39, .aload_n 0, 0, 0, []), (40, .getfield 83, 6, 14, []), (43, .iload_n 1, 0, 0, []), (44, .iastore, 0, 0, []), (45, .aload_n 0, 0, 0, []), (46, .dup, 0, 0, []), (47, .getfield 83, 6, 14, []), (50, .iconst 1, 0, 0, []), (51, .iadd, 0, 0, []), (52, .putfield 83, 6, 14, []), (55, .aload_n 0, 0, 0, []), (56, .getfield 83, 6, 14, []), (59, .ireturn, 0, 0, [])]
def eX7_feed : ME := (yX7_feed, cX7_feed, 3, (some .int), { frames := 1, cells := 0, slots := 0, locals := 22 }, 2, 6, kX7_feed)
def kX7_next : List EI := [(0, .aload_n 0, 0, 0, []), (1, .getfield 90, 6, 15, []), (4, .aload_n 0, 0, 0, []), (5, .getfield 83, 6, 14, []), (8, .if_icmp .ge 15, 11, 0, []), (11, .aload_n 0, 0, 0, []), (12, .getfield 34, 6, 10, []), (15, .aload_n 0, 0, 0, []), (16, .getfield 90, 6, 15, []), (19, .iaload, 0, 0, []), (20, .goto 4, 12, 0, []), (23, .iconst (-1), 0, 0, []), (24, .ireturn, 0, 0, [])]
def eX7_next : ME := (yX7_next, cX7_next, 1, (some .int), { frames := 0, cells := 0, slots := 0, locals := 0 }, 1, 6, kX7_next)
def kX7_readsDigits : List EI := [(0, .iconst 0, 0, 0, []), (1, .istore_n 3, 0, 0, []), (2, .iconst 0, 0, 0, []), (3, .istore 4, 0, 0, []), (5, .iload 4, 0, 0, []), (7, .iload_n 2, 0, 0, []), (8, .if_icmp .ge 48, 32, 0, []), (11, .aload_n 0, 0, 0, []), (12, .invokevirtual 93, 156, 0, []), (15, .bipush 48, 0, 0, []), (17, .bipush 57, 0, 0, []), (19, .invokestatic 97, 146, 0, []), (22, .ifCond .ne 5, 15, 0, []), (25, .iconst 0, 0, 0, []), (26, .ireturn, 0, 0, []), (27, .bipush 10, 0, 0, []), (29, .iload_n 3, 0, 0, []), (30, .imul, 0, 0, []), (31, .aload_n 0, 0, 0, []), (32, .invokevirtual 93, 156, 0, []), (35, .iadd, 0, 0, []), (36, .bipush 48, 0, 0, []), (38, .isub, 0, 0, []), (39, .istore_n 3, 0, 0, []), (40, .aload_n 0, 0, 0, []), (41, .dup, 0, 0, []), (42, .getfield 90, 6, 15, []), (45, .iconst 1, 0, 0, []), (46, .iadd, 0, 0, []), (47, .putfield 90, 6, 15, []), (50, .iinc 4 1, 0, 0, []), (53, .goto (-48), 4, 0, []), (56, .aload_n 0, 0, 0, []), (57, .getfield 43, 6, 13, []), (60, .iload_n 1, 0, 0, []), (61, .iload_n 3, 0, 0, []), (62, .iastore, 0, 0, []), (63, .iconst 1, 0, 0, []), (64, .ireturn, 0, 0, [])]
def eX7_readsDigits : ME := (yX7_readsDigits, cX7_readsDigits, 5, (some .boolean), { frames := 1, cells := 0, slots := 0, locals := 22 }, 3, 6, kX7_readsDigits)
def kX7_readsAll : List EI := [(0, .iload_n 1, 0, 0, []), (1, .lookupswitch 105 #[(98, 72), (110, 98), (112, 35)], 0, 0, [25, 41, 2, 46]), (36, .aload_n 0, 0, 0, []), (37, .iload_n 2, 0, 0, []), (38, .iconst 1, 0, 0, []), (39, .invokevirtual 101, 157, 0, []), (42, .ifCond .eq 29, 23, 0, []), (45, .aload_n 0, 0, 0, []), (46, .iload_n 2, 0, 0, []), (47, .iconst 1, 0, 0, []), (48, .iadd, 0, 0, []), (49, .iconst 1, 0, 0, []), (50, .invokevirtual 101, 157, 0, []), (53, .ifCond .eq 18, 23, 0, []), (56, .aload_n 0, 0, 0, []), (57, .iload_n 2, 0, 0, []), (58, .iconst 2, 0, 0, []), (59, .iadd, 0, 0, []), (60, .iconst 2, 0, 0, []), (61, .invokevirtual 101, 157, 0, []), (64, .ifCond .eq 7, 23, 0, []), (67, .iconst 1, 0, 0, []), (68, .goto 4, 24, 0, []), (71, .iconst 0, 0, 0, []), (72, .ireturn, 0, 0, []), (73, .aload_n 0, 0, 0, []), (74, .iload_n 2, 0, 0, []), (75, .iconst 1, 0, 0, []), (76, .invokevirtual 101, 157, 0, []), (79, .ifCond .eq 18, 39, 0, []), (82, .aload_n 0, 0, 0, []), (83, .iload_n 2, 0, 0, []), (84, .iconst 1, 0, 0, []), (85, .iadd, 0, 0, []), (86, .iconst 2, 0, 0, []), (87, .invokevirtual 101, 157, 0, []), (90, .ifCond .eq 7, 39, 0, []), (93, .iconst 1, 0, 0, []), (94, .goto 4, 40, 0, []), (97, .iconst 0, 0, 0, []), (98, .ireturn, 0, 0, []), (99, .aload_n 0, 0, 0, []), (100, .iload_n 2, 0, 0, []), (101, .iconst 1, 0, 0, []), (102, .invokevirtual 101, 157, 0, []), (105, .ireturn, 0, 0, []), (106, .aload_n 0, 0, 0, []), (107, .iload_n 2, 0, 0, []), (108, .iconst 1, 0, 0, []), (109, .invokevirtual 101, 157, 0, []), (112, .ifCond .eq 18, 60, 0, []), (115, .aload_n 0, 0, 0, []), (116, .iload_n 2, 0, 0, []), (117, .iconst 1, 0, 0, []), (118, .iadd, 0, 0, []), (119, .iconst 1, 0, 0, []), (120, .invokevirtual 101, 157, 0, []), (123, .ifCond .eq 7, 60, 0, []), (126, .iconst 1, 0, 0, []), (127, .goto 4, 61, 0, []), (130, .iconst 0, 0, 0, []), (131, .ireturn, 0, 0, [])]
def eX7_readsAll : ME := (yX7_readsAll, cX7_readsAll, 3, (some .boolean), { frames := 2, cells := 0, slots := 0, locals := 46 }, 3, 6, kX7_readsAll)
def kX7_statement : List EI := [(0, .aload_n 0, 0, 0, []), (1, .invokevirtual 93, 156, 0, []), (4, .istore_n 1, 0, 0, []), (5, .iload_n 1, 0, 0, []), (6, .bipush 112, 0, 0, []), (8, .if_icmp .eq 35, 23, 0, []), (11, .iload_n 1, 0, 0, []), (12, .bipush 97, 0, 0, []), (14, .if_icmp .eq 29, 23, 0, []), (17, .iload_n 1, 0, 0, []), (18, .bipush 98, 0, 0, []), (20, .if_icmp .eq 23, 23, 0, []), (23, .iload_n 1, 0, 0, []), (24, .bipush 119, 0, 0, []), (26, .if_icmp .eq 17, 23, 0, []), (29, .iload_n 1, 0, 0, []), (30, .bipush 103, 0, 0, []), (32, .if_icmp .eq 11, 23, 0, []), (35, .iload_n 1, 0, 0, []), (36, .bipush 110, 0, 0, []), (38, .if_icmp .eq 5, 23, 0, []), (41, .iconst 0, 0, 0, []), (42, .ireturn, 0, 0, []), (43, .aload_n 0, 0, 0, []), (44, .getfield 37, 6, 11, []), (47, .aload_n 0, 0, 0, []), (48, .getfield 105, 6, 16, []), (51, .iload_n 1, 0, 0, []), (52, .iastore, 0, 0, []), (53, .aload_n 0, 0, 0, []), (54, .getfield 40, 6, 12, []), (57, .aload_n 0, 0, 0, []), (58, .getfield 105, 6, 16, []), (61, .aload_n 0, 0, 0, []), (62, .getfield 90, 6, 15, []), (65, .iastore, 0, 0, []), (66, .aload_n 0, 0, 0, []), (67, .dup, 0, 0, []), (68, .getfield 90, 6, 15, []), (71, .iconst 1, 0, 0, []), (72, .iadd, 0, 0, []), (73, .putfield 90, 6, 15, []), (76, .aload_n 0, 0, 0, []), (77, .iload_n 1, 0, 0, []), (78, .iconst 3, 0, 0, []), (79, .aload_n 0, 0, 0, []), (80, .getfield 105, 6, 16, []), (83, .imul, 0, 0, []), (84, .invokevirtual 108, 158, 0, []), (87, .ifCond .eq 12, 54, 0, []), (90, .aload_n 0, 0, 0, []), (91, .invokevirtual 93, 156, 0, []), (94, .bipush 59, 0, 0, []), (96, .if_icmp .eq 5, 56, 0, []), (99, .iconst 0, 0, 0, []), (100, .ireturn, 0, 0, []), (101, .aload_n 0, 0, 0, []), (102, .dup, 0, 0, []), (103, .getfield 90, 6, 15, []), (106, .iconst 1, 0, 0, []), (107, .iadd, 0, 0, []), (108, .putfield 90, 6, 15, []), (111, .iconst 1, 0, 0, []), (112, .ireturn, 0, 0, [])]
def eX7_statement : ME := (yX7_statement, cX7_statement, 2, (some .boolean), { frames := 3, cells := 0, slots := 0, locals := 68 }, 1, 6, kX7_statement)
def kX7_comes : List EI := [(0, .aload_n 0, 0, 0, []), (1, .getfield 43, 6, 13, []), (4, .iconst 3, 0, 0, []), (5, .iload_n 1, 0, 0, []), (6, .imul, 0, 0, []), (7, .iaload, 0, 0, []), (8, .istore_n 2, 0, 0, []), (9, .aload_n 0, 0, 0, []), (10, .getfield 43, 6, 13, []), (13, .iconst 3, 0, 0, []), (14, .iload_n 1, 0, 0, []), (15, .imul, 0, 0, []), (16, .iconst 1, 0, 0, []), (17, .iadd, 0, 0, []), (18, .iaload, 0, 0, []), (19, .istore_n 3, 0, 0, []), (20, .aload_n 0, 0, 0, []), (21, .getfield 37, 6, 11, []), (24, .iload_n 1, 0, 0, []), (25, .iaload, 0, 0, []), (26, .lookupswitch 180 #[(97, 84), (98, 109), (103, 157), (112, 50), (119, 128)], 0, 0, [44, 63, 93, 21, 76, 108]), (76, .iload_n 2, 0, 0, []), (77, .iconst 5, 0, 0, []), (78, .if_icmp .gt 12, 28, 0, []), (81, .aload_n 0, 0, 0, []), (82, .getfield 70, 6, 8, []), (85, .bipush 7, 0, 0, []), (87, .if_icmp .ne 5, 30, 0, []), (90, .iconst 0, 0, 0, []), (91, .ireturn, 0, 0, []), (92, .aload_n 0, 0, 0, []), (93, .iload_n 2, 0, 0, []), (94, .iload_n 3, 0, 0, []), (95, .aload_n 0, 0, 0, []), (96, .getfield 43, 6, 13, []), (99, .iconst 3, 0, 0, []), (100, .iload_n 1, 0, 0, []), (101, .imul, 0, 0, []), (102, .iconst 2, 0, 0, []), (103, .iadd, 0, 0, []), (104, .iaload, 0, 0, []), (105, .invokevirtual 111, 171, 0, []), (108, .iconst 1, 0, 0, []), (109, .ireturn, 0, 0, []), (110, .aload_n 0, 0, 0, []), (111, .iload_n 2, 0, 0, []), (112, .iload_n 3, 0, 0, []), (113, .invokevirtual 115, 152, 0, []), (116, .ifCond .ne 5, 51, 0, []), (119, .iconst 0, 0, 0, []), (120, .ireturn, 0, 0, []), (121, .aload_n 0, 0, 0, []), (122, .getfield 25, 6, 5, []), (125, .iload_n 2, 0, 0, []), (126, .dup2, 0, 0, []), (127, .iaload, 0, 0, []), (128, .iconst 1, 0, 0, []), (129, .iload_n 3, 0, 0, []), (130, .ishl, 0, 0, []), (131, .ixor, 0, 0, []), (132, .iastore, 0, 0, []), (133, .iconst 1, 0, 0, []), (134, .ireturn, 0, 0, []), (135, .aload_n 0, 0, 0, []), (136, .iload_n 2, 0, 0, []), (137, .invokevirtual 75, 151, 0, []), (140, .ifCond .ne 5, 69, 0, []), (143, .iconst 0, 0, 0, []), (144, .ireturn, 0, 0, []), (145, .aload_n 0, 0, 0, []), (146, .getfield 22, 6, 4, []), (149, .iload_n 2, 0, 0, []), (150, .iload_n 3, 0, 0, []), (151, .iastore, 0, 0, []), (152, .iconst 1, 0, 0, []), (153, .ireturn, 0, 0, []), (154, .iload_n 2, 0, 0, []), (155, .invokestatic 118, 153, 0, []), (158, .ifCond .eq 15, 85, 0, []), (161, .iload_n 3, 0, 0, []), (162, .invokestatic 118, 153, 0, []), (165, .ifCond .eq 8, 85, 0, []), (168, .iload_n 2, 0, 0, []), (169, .iload_n 3, 0, 0, []), (170, .if_icmp .ne 5, 87, 0, []), (173, .iconst 0, 0, 0, []), (174, .ireturn, 0, 0, []), (175, .aload_n 0, 0, 0, []), (176, .iload_n 2, 0, 0, []), (177, .iload_n 3, 0, 0, []), (178, .invokevirtual 121, 176, 0, []), (181, .iconst 1, 0, 0, []), (182, .ireturn, 0, 0, []), (183, .iload_n 2, 0, 0, []), (184, .invokestatic 118, 153, 0, []), (187, .ifCond .eq 8, 99, 0, []), (190, .iload_n 3, 0, 0, []), (191, .iconst 3, 0, 0, []), (192, .if_icmp .le 5, 101, 0, []), (195, .iconst 0, 0, 0, []), (196, .ireturn, 0, 0, []), (197, .aload_n 0, 0, 0, []), (198, .getfield 31, 6, 7, []), (201, .iload_n 2, 0, 0, []), (202, .iload_n 3, 0, 0, []), (203, .iastore, 0, 0, []), (204, .iconst 1, 0, 0, []), (205, .ireturn, 0, 0, []), (206, .aload_n 0, 0, 0, []), (207, .getfield 125, 6, 9, []), (210, .iload_n 2, 0, 0, []), (211, .iadd, 0, 0, []), (212, .sipush 999, 0, 0, []), (215, .if_icmp .le 5, 116, 0, []), (218, .iconst 0, 0, 0, []), (219, .ireturn, 0, 0, []), (220, .iconst 0, 0, 0, []), (221, .istore 4, 0, 0, []), (223, .iload 4, 0, 0, []), (225, .iload_n 2, 0, 0, []), (226, .if_icmp .ge 14, 126, 0, []), (229, .aload_n 0, 0, 0, []), (230, .invokevirtual 128, 175, 0, []), (233, .pop, 0, 0, []), (234, .iinc 4 1, 0, 0, []), (237, .goto (-14), 118, 0, []), (240, .iconst 1, 0, 0, []), (241, .ireturn, 0, 0, [])]
def eX7_comes : ME := (yX7_comes, cX7_comes, 5, (some .boolean), { frames := 4, cells := 0, slots := 0, locals := 88 }, 2, 6, kX7_comes)
def kX7_town : List EI := [(0, .aload_n 0, 0, 0, []), (1, .iconst 0, 0, 0, []), (2, .putfield 90, 6, 15, []), (5, .aload_n 0, 0, 0, []), (6, .iconst 0, 0, 0, []), (7, .putfield 105, 6, 16, []), (10, .iconst 1, 0, 0, []), (11, .istore_n 1, 0, 0, []), (12, .iload_n 1, 0, 0, []), (13, .ifCond .eq 47, 32, 0, []), (16, .aload_n 0, 0, 0, []), (17, .getfield 90, 6, 15, []), (20, .aload_n 0, 0, 0, []), (21, .getfield 83, 6, 14, []), (24, .if_icmp .lt 10, 18, 0, []), (27, .aload_n 0, 0, 0, []), (28, .getfield 105, 6, 16, []), (31, .ifCond .ne 29, 32, 0, []), (34, .aload_n 0, 0, 0, []), (35, .invokevirtual 131, 159, 0, []), (38, .istore_n 1, 0, 0, []), (39, .aload_n 0, 0, 0, []), (40, .dup, 0, 0, []), (41, .getfield 105, 6, 16, []), (44, .iload_n 1, 0, 0, []), (45, .ifCond .eq 7, 28, 0, []), (48, .iconst 1, 0, 0, []), (49, .goto 4, 29, 0, []), (52, .iconst 0, 0, 0, []), (53, .iadd, 0, 0, []), (54, .putfield 105, 6, 16, []), (57, .goto (-45), 8, 0, []), (60, .aload_n 0, 0, 0, []), (61, .iconst 0, 0, 0, []), (62, .putfield 83, 6, 14, []), (65, .iload_n 1, 0, 0, []), (66, .ifCond .ne 12, 42, 0, []), (69, .sipush (-1000), 0, 0, []), (72, .aload_n 0, 0, 0, []), (73, .getfield 90, 6, 15, []), (76, .isub, 0, 0, []), (77, .ireturn, 0, 0, []), (78, .aload_n 0, 0, 0, []), (79, .iconst 1, 0, 0, []), (80, .iconst 1, 0, 0, []), (81, .invokevirtual 135, 164, 0, []), (84, .iconst 0, 0, 0, []), (85, .istore_n 2, 0, 0, []), (86, .iload_n 2, 0, 0, []), (87, .aload_n 0, 0, 0, []), (88, .getfield 105, 6, 16, []), (91, .if_icmp .ge 37, 70, 0, []), (94, .aload_n 0, 0, 0, []), (95, .iload_n 2, 0, 0, []), (96, .invokevirtual 139, 160, 0, []), (99, .ifCond .eq 6, 57, 0, []), (102, .goto 20, 68, 0, []), (105, .aload_n 0, 0, 0, []), (106, .iconst 1, 0, 0, []), (107, .iconst 0, 0, 0, []), (108, .invokevirtual 135, 164, 0, []), (111, .sipush (-2000), 0, 0, []), (114, .aload_n 0, 0, 0, []), (115, .getfield 40, 6, 12, []), (118, .iload_n 2, 0, 0, []), (119, .iaload, 0, 0, []), (120, .isub, 0, 0, []), (121, .ireturn, 0, 0, []), (122, .iinc 2 1, 0, 0, []), (125, .goto (-39), 48, 0, []), (128, .aload_n 0, 0, 0, []), (129, .iconst 0, 0, 0, []), (130, .putfield 142, 6, 21, []), (133, .aload_n 0, 0, 0, []), (134, .getfield 105, 6, 16, []), (137, .ireturn, 0, 0, [])]
def eX7_town : ME := (yX7_town, cX7_town, 3, (some .int), { frames := 5, cells := 0, slots := 0, locals := 112 }, 1, 6, kX7_town)
def kX7_passes : List EI := [(0, .iconst 0, 0, 0, []), (1, .istore_n 2, 0, 0, []), (2, .iload_n 2, 0, 0, []), (3, .aload_n 1, 0, 0, []), (4, .arraylength, 0, 0, []), (5, .if_icmp .ge 53, 34, 0, []), (8, .aload_n 0, 0, 0, []), (9, .getfield 145, 6, 19, []), (12, .ifCond .eq 18, 18, 0, []), (15, .aload_n 0, 0, 0, []), (16, .getfield 46, 6, 17, []), (19, .aload_n 0, 0, 0, []), (20, .getfield 149, 6, 20, []), (23, .aload_n 1, 0, 0, []), (24, .iload_n 2, 0, 0, []), (25, .iaload, 0, 0, []), (26, .iastore, 0, 0, []), (27, .goto 15, 26, 0, []), (30, .aload_n 1, 0, 0, []), (31, .iload_n 2, 0, 0, []), (32, .aload_n 0, 0, 0, []), (33, .getfield 46, 6, 17, []), (36, .aload_n 0, 0, 0, []), (37, .getfield 149, 6, 20, []), (40, .iaload, 0, 0, []), (41, .iastore, 0, 0, []), (42, .aload_n 0, 0, 0, []), (43, .dup, 0, 0, []), (44, .getfield 149, 6, 20, []), (47, .iconst 1, 0, 0, []), (48, .iadd, 0, 0, []), (49, .putfield 149, 6, 20, []), (52, .iinc 2 1, 0, 0, []), (55, .goto (-53), 2, 0, []), (58, .return_, 0, 0, [])]
def eX7_passes : ME := (yX7_passes, cX7_passes, 3, none, { frames := 0, cells := 0, slots := 0, locals := 0 }, 2, 6, kX7_passes)
def kX7_passOne : List EI := [(0, .aload_n 0, 0, 0, []), (1, .getfield 145, 6, 19, []), (4, .ifCond .eq 7, 5, 0, []), (7, .iload_n 1, 0, 0, []), (8, .goto 12, 10, 0, []), (11, .aload_n 0, 0, 0, []), (12, .getfield 46, 6, 17, []), (15, .aload_n 0, 0, 0, []), (16, .getfield 149, 6, 20, []), (19, .iaload, 0, 0, []), (20, .istore_n 2, 0, 0, []), (21, .aload_n 0, 0, 0, []), (22, .getfield 145, 6, 19, []), (25, .ifCond .eq 13, 20, 0, []), (28, .aload_n 0, 0, 0, []), (29, .getfield 46, 6, 17, []), (32, .aload_n 0, 0, 0, []), (33, .getfield 149, 6, 20, []), (36, .iload_n 1, 0, 0, []), (37, .iastore, 0, 0, []), (38, .aload_n 0, 0, 0, []), (39, .dup, 0, 0, []), (40, .getfield 149, 6, 20, []), (43, .iconst 1, 0, 0, []), (44, .iadd, 0, 0, []), (45, .putfield 149, 6, 20, []), (48, .iload_n 2, 0, 0, []), (49, .ireturn, 0, 0, [])]
def eX7_passOne : ME := (yX7_passOne, cX7_passOne, 3, (some .int), { frames := 0, cells := 0, slots := 0, locals := 0 }, 2, 6, kX7_passOne)
def kX7_passesAll : List EI := [(0, .aload_n 0, 0, 0, []), (1, .bipush 55, 0, 0, []), (3, .iload_n 1, 0, 0, []), (4, .imul, 0, 0, []), (5, .putfield 149, 6, 20, []), (8, .aload_n 0, 0, 0, []), (9, .iload_n 2, 0, 0, []), (10, .putfield 145, 6, 19, []), (13, .aload_n 0, 0, 0, []), (14, .aload_n 0, 0, 0, []), (15, .getfield 13, 6, 1, []), (18, .invokevirtual 152, 162, 0, []), (21, .aload_n 0, 0, 0, []), (22, .aload_n 0, 0, 0, []), (23, .getfield 16, 6, 2, []), (26, .invokevirtual 152, 162, 0, []), (29, .aload_n 0, 0, 0, []), (30, .aload_n 0, 0, 0, []), (31, .getfield 19, 6, 3, []), (34, .invokevirtual 152, 162, 0, []), (37, .aload_n 0, 0, 0, []), (38, .aload_n 0, 0, 0, []), (39, .getfield 22, 6, 4, []), (42, .invokevirtual 152, 162, 0, []), (45, .aload_n 0, 0, 0, []), (46, .aload_n 0, 0, 0, []), (47, .getfield 25, 6, 5, []), (50, .invokevirtual 152, 162, 0, []), (53, .aload_n 0, 0, 0, []), (54, .aload_n 0, 0, 0, []), (55, .getfield 28, 6, 6, []), (58, .invokevirtual 152, 162, 0, []), (61, .aload_n 0, 0, 0, []), (62, .aload_n 0, 0, 0, []), (63, .getfield 31, 6, 7, []), (66, .invokevirtual 152, 162, 0, []), (69, .aload_n 0, 0, 0, []), (70, .aload_n 0, 0, 0, []), (71, .aload_n 0, 0, 0, []), (72, .getfield 70, 6, 8, []), (75, .invokevirtual 156, 163, 0, []), (78, .putfield 70, 6, 8, []), (81, .aload_n 0, 0, 0, []), (82, .aload_n 0, 0, 0, []), (83, .aload_n 0, 0, 0, []), (84, .getfield 125, 6, 9, []), (87, .invokevirtual 156, 163, 0, []), (90, .putfield 125, 6, 9, []), (93, .return_, 0, 0, [])]
def eX7_passesAll : ME := (yX7_passesAll, cX7_passesAll, 3, none, { frames := 1, cells := 0, slots := 0, locals := 22 }, 3, 6, kX7_passesAll)
def kX7_thinks : List EI := [(0, .aload_n 0, 0, 0, []), (1, .iconst 2, 0, 0, []), (2, .iconst 1, 0, 0, []), (3, .invokevirtual 135, 164, 0, []), (6, .return_, 0, 0, [])]
def eX7_thinks : ME := (yX7_thinks, cX7_thinks, 1, none, { frames := 2, cells := 0, slots := 0, locals := 44 }, 1, 6, kX7_thinks)
def kX7_forgets : List EI := [(0, .aload_n 0, 0, 0, []), (1, .iconst 2, 0, 0, []), (2, .iconst 0, 0, 0, []), (3, .invokevirtual 135, 164, 0, []), (6, .return_, 0, 0, [])]
def eX7_forgets : ME := (yX7_forgets, cX7_forgets, 1, none, { frames := 2, cells := 0, slots := 0, locals := 44 }, 1, 6, kX7_forgets)
def kX7_keepsBack : List EI := [(0, .aload_n 0, 0, 0, []), (1, .getfield 142, 6, 21, []), (4, .bipush 8, 0, 0, []), (6, .if_icmp .ne 45, 27, 0, []), (9, .sipush 165, 0, 0, []), (12, .istore_n 1, 0, 0, []), (13, .iload_n 1, 0, 0, []), (14, .sipush 550, 0, 0, []), (17, .if_icmp .ge 24, 21, 0, []), (20, .aload_n 0, 0, 0, []), (21, .getfield 46, 6, 17, []), (24, .iload_n 1, 0, 0, []), (25, .aload_n 0, 0, 0, []), (26, .getfield 46, 6, 17, []), (29, .iload_n 1, 0, 0, []), (30, .bipush 55, 0, 0, []), (32, .iadd, 0, 0, []), (33, .iaload, 0, 0, []), (34, .iastore, 0, 0, []), (35, .iinc 1 1, 0, 0, []), (38, .goto (-25), 6, 0, []), (41, .aload_n 0, 0, 0, []), (42, .dup, 0, 0, []), (43, .getfield 142, 6, 21, []), (46, .iconst 1, 0, 0, []), (47, .isub, 0, 0, []), (48, .putfield 142, 6, 21, []), (51, .aload_n 0, 0, 0, []), (52, .iconst 3, 0, 0, []), (53, .aload_n 0, 0, 0, []), (54, .getfield 142, 6, 21, []), (57, .iadd, 0, 0, []), (58, .iconst 1, 0, 0, []), (59, .invokevirtual 135, 164, 0, []), (62, .aload_n 0, 0, 0, []), (63, .dup, 0, 0, []), (64, .getfield 142, 6, 21, []), (67, .iconst 1, 0, 0, []), (68, .iadd, 0, 0, []), (69, .putfield 142, 6, 21, []), (72, .return_, 0, 0, [])]
def eX7_keepsBack : ME := (yX7_keepsBack, cX7_keepsBack, 2, none, { frames := 2, cells := 0, slots := 0, locals := 44 }, 1, 6, kX7_keepsBack)
def kX7_back : List EI := [(0, .aload_n 0, 0, 0, []), (1, .getfield 142, 6, 21, []), (4, .ifCond .ne 10, 7, 0, []), (7, .aload_n 0, 0, 0, []), (8, .bipush (-3), 0, 0, []), (10, .invokevirtual 86, 144, 0, []), (13, .ireturn, 0, 0, []), (14, .aload_n 0, 0, 0, []), (15, .dup, 0, 0, []), (16, .getfield 142, 6, 21, []), (19, .iconst 1, 0, 0, []), (20, .isub, 0, 0, []), (21, .putfield 142, 6, 21, []), (24, .aload_n 0, 0, 0, []), (25, .iconst 3, 0, 0, []), (26, .aload_n 0, 0, 0, []), (27, .getfield 142, 6, 21, []), (30, .iadd, 0, 0, []), (31, .iconst 0, 0, 0, []), (32, .invokevirtual 135, 164, 0, []), (35, .aload_n 0, 0, 0, []), (36, .getfield 142, 6, 21, []), (39, .ireturn, 0, 0, [])]
def eX7_back : ME := (yX7_back, cX7_back, 1, (some .int), { frames := 2, cells := 0, slots := 0, locals := 44 }, 1, 6, kX7_back)
def kX7_image : List EI := [(0, .aload_n 0, 0, 0, []), (1, .iconst 1, 0, 0, []), (2, .putfield 159, 6, 18, []), (5, .aload_n 0, 0, 0, []), (6, .iconst 0, 0, 0, []), (7, .iconst 1, 0, 0, []), (8, .invokevirtual 135, 164, 0, []), (11, .aload_n 0, 0, 0, []), (12, .getfield 125, 6, 9, []), (15, .ireturn, 0, 0, [])]
def eX7_image : ME := (yX7_image, cX7_image, 1, (some .int), { frames := 2, cells := 0, slots := 0, locals := 44 }, 1, 6, kX7_image)
def kX7_restore : List EI := [(0, .aload_n 0, 0, 0, []), (1, .getfield 159, 6, 18, []), (4, .ifCond .ne 10, 7, 0, []), (7, .aload_n 0, 0, 0, []), (8, .bipush (-3), 0, 0, []), (10, .invokevirtual 86, 144, 0, []), (13, .ireturn, 0, 0, []), (14, .aload_n 0, 0, 0, []), (15, .iconst 0, 0, 0, []), (16, .iconst 0, 0, 0, []), (17, .invokevirtual 135, 164, 0, []), (20, .aload_n 0, 0, 0, []), (21, .iconst 0, 0, 0, []), (22, .putfield 142, 6, 21, []), (25, .aload_n 0, 0, 0, []), (26, .getfield 125, 6, 9, []), (29, .ireturn, 0, 0, [])]
def eX7_restore : ME := (yX7_restore, cX7_restore, 1, (some .int), { frames := 2, cells := 0, slots := 0, locals := 44 }, 1, 6, kX7_restore)
def kX7_adds : List EI := [(0, .aload_n 0, 0, 0, []), (1, .getfield 13, 6, 1, []), (4, .aload_n 0, 0, 0, []), (5, .getfield 70, 6, 8, []), (8, .iload_n 1, 0, 0, []), (9, .iastore, 0, 0, []), (10, .aload_n 0, 0, 0, []), (11, .getfield 16, 6, 2, []), (14, .aload_n 0, 0, 0, []), (15, .getfield 70, 6, 8, []), (18, .iload_n 2, 0, 0, []), (19, .iastore, 0, 0, []), (20, .aload_n 0, 0, 0, []), (21, .getfield 19, 6, 3, []), (24, .aload_n 0, 0, 0, []), (25, .getfield 70, 6, 8, []), (28, .iload_n 3, 0, 0, []), (29, .iastore, 0, 0, []), (30, .aload_n 0, 0, 0, []), (31, .getfield 22, 6, 4, []), (34, .aload_n 0, 0, 0, []), (35, .getfield 70, 6, 8, []), (38, .iload_n 3, 0, 0, []), (39, .iastore, 0, 0, []), (40, .aload_n 0, 0, 0, []), (41, .getfield 25, 6, 5, []), (44, .aload_n 0, 0, 0, []), (45, .getfield 70, 6, 8, []), (48, .iconst 0, 0, 0, []), (49, .iastore, 0, 0, []), (50, .aload_n 0, 0, 0, []), (51, .dup, 0, 0, []), (52, .getfield 70, 6, 8, []), (55, .iconst 1, 0, 0, []), (56, .iadd, 0, 0, []), (57, .putfield 70, 6, 8, []), (60, .return_, 0, 0, [])]
def eX7_adds : ME := (yX7_adds, cX7_adds, 4, none, { frames := 0, cells := 0, slots := 0, locals := 0 }, 4, 6, kX7_adds)
def kX7_held : List EI := [(0, .iload_n 0, 0, 0, []), (1, .ifCond .ge 7, 4, 0, []), (4, .iconst 0, 0, 0, []), (5, .goto 15, 10, 0, []), (8, .iload_n 0, 0, 0, []), (9, .bipush 99, 0, 0, []), (11, .if_icmp .le 8, 9, 0, []), (14, .bipush 99, 0, 0, []), (16, .goto 4, 10, 0, []), (19, .iload_n 0, 0, 0, []), (20, .ireturn, 0, 0, [])]
def eX7_held : ME := (yX7_held, cX7_held, 1, (some .int), { frames := 0, cells := 0, slots := 0, locals := 0 }, 1, 99, kX7_held)
def kX7_saidOf : List EI := [(0, .aload_n 0, 0, 0, []), (1, .getfield 13, 6, 1, []), (4, .iload_n 1, 0, 0, []), (5, .iaload, 0, 0, []), (6, .tableswitch 105 1 5 #[34, 46, 60, 81, 100], 0, 0, [55, 5, 13, 23, 38, 51]), (40, .iload_n 2, 0, 0, []), (41, .aload_n 0, 0, 0, []), (42, .getfield 16, 6, 2, []), (45, .iload_n 1, 0, 0, []), (46, .iaload, 0, 0, []), (47, .iadd, 0, 0, []), (48, .invokestatic 162, 172, 0, []), (51, .ireturn, 0, 0, []), (52, .iload_n 2, 0, 0, []), (53, .iconst 2, 0, 0, []), (54, .aload_n 0, 0, 0, []), (55, .getfield 16, 6, 2, []), (58, .iload_n 1, 0, 0, []), (59, .iaload, 0, 0, []), (60, .imul, 0, 0, []), (61, .isub, 0, 0, []), (62, .invokestatic 162, 172, 0, []), (65, .ireturn, 0, 0, []), (66, .iload_n 2, 0, 0, []), (67, .aload_n 0, 0, 0, []), (68, .getfield 16, 6, 2, []), (71, .iload_n 1, 0, 0, []), (72, .iaload, 0, 0, []), (73, .iadd, 0, 0, []), (74, .invokestatic 162, 172, 0, []), (77, .aload_n 0, 0, 0, []), (78, .getfield 22, 6, 4, []), (81, .iload_n 1, 0, 0, []), (82, .iaload, 0, 0, []), (83, .iadd, 0, 0, []), (84, .iconst 2, 0, 0, []), (85, .idiv, 0, 0, []), (86, .ireturn, 0, 0, []), (87, .aload_n 0, 0, 0, []), (88, .getfield 22, 6, 4, []), (91, .iload_n 1, 0, 0, []), (92, .iaload, 0, 0, []), (93, .iconst 2, 0, 0, []), (94, .aload_n 0, 0, 0, []), (95, .getfield 16, 6, 2, []), (98, .iload_n 1, 0, 0, []), (99, .iaload, 0, 0, []), (100, .imul, 0, 0, []), (101, .isub, 0, 0, []), (102, .invokestatic 162, 172, 0, []), (105, .ireturn, 0, 0, []), (106, .bipush 99, 0, 0, []), (108, .iload_n 2, 0, 0, []), (109, .isub, 0, 0, []), (110, .ireturn, 0, 0, []), (111, .iload_n 2, 0, 0, []), (112, .ireturn, 0, 0, [])]
def eX7_saidOf : ME := (yX7_saidOf, cX7_saidOf, 3, (some .int), { frames := 1, cells := 0, slots := 0, locals := 20 }, 3, 6, kX7_saidOf)
def kX7_meanOf : List EI := [(0, .iconst 0, 0, 0, []), (1, .istore_n 3, 0, 0, []), (2, .iconst 0, 0, 0, []), (3, .istore 4, 0, 0, []), (5, .iload 4, 0, 0, []), (7, .aload_n 0, 0, 0, []), (8, .getfield 70, 6, 8, []), (11, .if_icmp .ge 37, 26, 0, []), (14, .iload_n 3, 0, 0, []), (15, .iload_n 2, 0, 0, []), (16, .iload 4, 0, 0, []), (18, .invokestatic 165, 148, 0, []), (21, .ifCond .eq 18, 21, 0, []), (24, .aload_n 0, 0, 0, []), (25, .iload 4, 0, 0, []), (27, .aload_n 0, 0, 0, []), (28, .getfield 19, 6, 3, []), (31, .iload_n 1, 0, 0, []), (32, .iaload, 0, 0, []), (33, .invokevirtual 168, 173, 0, []), (36, .goto 4, 22, 0, []), (39, .iconst 0, 0, 0, []), (40, .iadd, 0, 0, []), (41, .istore_n 3, 0, 0, []), (42, .iinc 4 1, 0, 0, []), (45, .goto (-40), 4, 0, []), (48, .iload_n 2, 0, 0, []), (49, .ifCond .ne 12, 33, 0, []), (52, .aload_n 0, 0, 0, []), (53, .getfield 22, 6, 4, []), (56, .iload_n 1, 0, 0, []), (57, .iaload, 0, 0, []), (58, .goto 9, 37, 0, []), (61, .iload_n 3, 0, 0, []), (62, .iload_n 2, 0, 0, []), (63, .invokestatic 172, 149, 0, []), (66, .idiv, 0, 0, []), (67, .ireturn, 0, 0, [])]
def eX7_meanOf : ME := (yX7_meanOf, cX7_meanOf, 5, (some .int), { frames := 2, cells := 0, slots := 0, locals := 42 }, 3, 6, kX7_meanOf)
def kX7_goesWeek : List EI := [(0, .iconst 0, 0, 0, []), (1, .istore_n 1, 0, 0, []), (2, .iconst 0, 0, 0, []), (3, .istore_n 2, 0, 0, []), (4, .iload_n 2, 0, 0, []), (5, .aload_n 0, 0, 0, []), (6, .getfield 70, 6, 8, []), (9, .if_icmp .ge 26, 21, 0, []), (12, .aload_n 0, 0, 0, []), (13, .getfield 49, 6, 22, []), (16, .iload_n 2, 0, 0, []), (17, .aload_n 0, 0, 0, []), (18, .iload_n 2, 0, 0, []), (19, .aload_n 0, 0, 0, []), (20, .getfield 25, 6, 5, []), (23, .iload_n 2, 0, 0, []), (24, .iaload, 0, 0, []), (25, .invokevirtual 175, 174, 0, []), (28, .iastore, 0, 0, []), (29, .iinc 2 1, 0, 0, []), (32, .goto (-28), 4, 0, []), (35, .iconst 0, 0, 0, []), (36, .istore_n 2, 0, 0, []), (37, .iload_n 2, 0, 0, []), (38, .aload_n 0, 0, 0, []), (39, .getfield 70, 6, 8, []), (42, .if_icmp .ge 44, 52, 0, []), (45, .iload_n 1, 0, 0, []), (46, .aload_n 0, 0, 0, []), (47, .getfield 49, 6, 22, []), (50, .iload_n 2, 0, 0, []), (51, .iaload, 0, 0, []), (52, .aload_n 0, 0, 0, []), (53, .getfield 22, 6, 4, []), (56, .iload_n 2, 0, 0, []), (57, .iaload, 0, 0, []), (58, .if_icmp .ne 7, 39, 0, []), (61, .iconst 0, 0, 0, []), (62, .goto 4, 40, 0, []), (65, .iconst 1, 0, 0, []), (66, .iadd, 0, 0, []), (67, .istore_n 1, 0, 0, []), (68, .aload_n 0, 0, 0, []), (69, .getfield 22, 6, 4, []), (72, .iload_n 2, 0, 0, []), (73, .aload_n 0, 0, 0, []), (74, .getfield 49, 6, 22, []), (77, .iload_n 2, 0, 0, []), (78, .iaload, 0, 0, []), (79, .iastore, 0, 0, []), (80, .iinc 2 1, 0, 0, []), (83, .goto (-46), 23, 0, []), (86, .aload_n 0, 0, 0, []), (87, .dup, 0, 0, []), (88, .getfield 125, 6, 9, []), (91, .iconst 1, 0, 0, []), (92, .iadd, 0, 0, []), (93, .putfield 125, 6, 9, []), (96, .iload_n 1, 0, 0, []), (97, .ireturn, 0, 0, [])]
def eX7_goesWeek : ME := (yX7_goesWeek, cX7_goesWeek, 3, (some .int), { frames := 3, cells := 0, slots := 0, locals := 66 }, 1, 6, kX7_goesWeek)
def kX7_turnsWay : List EI := [(0, .aload_n 0, 0, 0, []), (1, .getfield 28, 6, 6, []), (4, .iload_n 1, 0, 0, []), (5, .dup2, 0, 0, []), (6, .iaload, 0, 0, []), (7, .iconst 1, 0, 0, []), (8, .iload_n 2, 0, 0, []), (9, .ishl, 0, 0, []), (10, .ixor, 0, 0, []), (11, .iastore, 0, 0, []), (12, .aload_n 0, 0, 0, []), (13, .getfield 28, 6, 6, []), (16, .iload_n 2, 0, 0, []), (17, .dup2, 0, 0, []), (18, .iaload, 0, 0, []), (19, .iconst 1, 0, 0, []), (20, .iload_n 1, 0, 0, []), (21, .ishl, 0, 0, []), (22, .ixor, 0, 0, []), (23, .iastore, 0, 0, []), (24, .return_, 0, 0, [])]
def eX7_turnsWay : ME := (yX7_turnsWay, cX7_turnsWay, 3, none, { frames := 0, cells := 0, slots := 0, locals := 0 }, 3, 6, kX7_turnsWay)
def kX7_person : List EI := [(0, .aload_n 0, 0, 0, []), (1, .iload_n 1, 0, 0, []), (2, .invokevirtual 75, 151, 0, []), (5, .ifCond .ne 9, 8, 0, []), (8, .aload_n 0, 0, 0, []), (9, .iconst (-1), 0, 0, []), (10, .invokevirtual 86, 144, 0, []), (13, .ireturn, 0, 0, []), (14, .iload_n 2, 0, 0, []), (15, .tableswitch 68 0 4 #[33, 40, 47, 54, 61], 0, 0, [35, 10, 15, 20, 25, 30]), (48, .aload_n 0, 0, 0, []), (49, .getfield 13, 6, 1, []), (52, .iload_n 1, 0, 0, []), (53, .iaload, 0, 0, []), (54, .ireturn, 0, 0, []), (55, .aload_n 0, 0, 0, []), (56, .getfield 16, 6, 2, []), (59, .iload_n 1, 0, 0, []), (60, .iaload, 0, 0, []), (61, .ireturn, 0, 0, []), (62, .aload_n 0, 0, 0, []), (63, .getfield 19, 6, 3, []), (66, .iload_n 1, 0, 0, []), (67, .iaload, 0, 0, []), (68, .ireturn, 0, 0, []), (69, .aload_n 0, 0, 0, []), (70, .getfield 22, 6, 4, []), (73, .iload_n 1, 0, 0, []), (74, .iaload, 0, 0, []), (75, .ireturn, 0, 0, []), (76, .aload_n 0, 0, 0, []), (77, .getfield 25, 6, 5, []), (80, .iload_n 1, 0, 0, []), (81, .iaload, 0, 0, []), (82, .ireturn, 0, 0, []), (83, .aload_n 0, 0, 0, []), (84, .bipush (-2), 0, 0, []), (86, .invokevirtual 86, 144, 0, []), (89, .ireturn, 0, 0, [])]
def eX7_person : ME := (yX7_person, cX7_person, 3, (some .int), { frames := 1, cells := 0, slots := 0, locals := 21 }, 3, 6, kX7_person)
def kX7_comes_ : List EI := [(0, .iload_n 1, 0, 0, []), (1, .iconst 0, 0, 0, []), (2, .iconst 5, 0, 0, []), (3, .invokestatic 97, 146, 0, []), (6, .ifCond .ne 8, 7, 0, []), (9, .bipush (-2), 0, 0, []), (11, .goto 43, 26, 0, []), (14, .iload_n 2, 0, 0, []), (15, .ifCond .lt 7, 11, 0, []), (18, .iload_n 3, 0, 0, []), (19, .ifCond .ge 8, 13, 0, []), (22, .bipush (-4), 0, 0, []), (24, .goto 30, 26, 0, []), (27, .iload_n 2, 0, 0, []), (28, .bipush 9, 0, 0, []), (30, .if_icmp .gt 18, 23, 0, []), (33, .iload_n 3, 0, 0, []), (34, .bipush 99, 0, 0, []), (36, .if_icmp .gt 12, 23, 0, []), (39, .aload_n 0, 0, 0, []), (40, .getfield 70, 6, 8, []), (43, .bipush 7, 0, 0, []), (45, .if_icmp .ne 8, 25, 0, []), (48, .bipush (-6), 0, 0, []), (50, .goto 4, 26, 0, []), (53, .iconst 0, 0, 0, []), (54, .istore 4, 0, 0, []), (56, .iload 4, 0, 0, []), (58, .ifCond .eq 10, 33, 0, []), (61, .aload_n 0, 0, 0, []), (62, .iload 4, 0, 0, []), (64, .invokevirtual 86, 144, 0, []), (67, .ireturn, 0, 0, []), (68, .aload_n 0, 0, 0, []), (69, .iconst 0, 0, 0, []), (70, .putfield 142, 6, 21, []), (73, .aload_n 0, 0, 0, []), (74, .iload_n 1, 0, 0, []), (75, .iload_n 2, 0, 0, []), (76, .iload_n 3, 0, 0, []), (77, .invokevirtual 111, 171, 0, []), (80, .aload_n 0, 0, 0, []), (81, .getfield 70, 6, 8, []), (84, .iconst 1, 0, 0, []), (85, .isub, 0, 0, []), (86, .ireturn, 0, 0, [])]
def eX7_comes_ : ME := (yX7_comes_, cX7_comes_, 5, (some .int), { frames := 1, cells := 0, slots := 0, locals := 23 }, 4, 6, kX7_comes_)
def kX7_asks : List EI := [(0, .aload_n 0, 0, 0, []), (1, .iload_n 1, 0, 0, []), (2, .iload_n 2, 0, 0, []), (3, .invokevirtual 115, 152, 0, []), (6, .ifCond .ne 9, 9, 0, []), (9, .aload_n 0, 0, 0, []), (10, .iconst (-1), 0, 0, []), (11, .invokevirtual 86, 144, 0, []), (14, .ireturn, 0, 0, []), (15, .aload_n 0, 0, 0, []), (16, .invokevirtual 178, 167, 0, []), (19, .aload_n 0, 0, 0, []), (20, .getfield 25, 6, 5, []), (23, .iload_n 1, 0, 0, []), (24, .dup2, 0, 0, []), (25, .iaload, 0, 0, []), (26, .iconst 1, 0, 0, []), (27, .iload_n 2, 0, 0, []), (28, .ishl, 0, 0, []), (29, .ixor, 0, 0, []), (30, .iastore, 0, 0, []), (31, .aload_n 0, 0, 0, []), (32, .getfield 25, 6, 5, []), (35, .iload_n 1, 0, 0, []), (36, .iaload, 0, 0, []), (37, .iload_n 2, 0, 0, []), (38, .ishr, 0, 0, []), (39, .iconst 1, 0, 0, []), (40, .iand, 0, 0, []), (41, .ireturn, 0, 0, [])]
def eX7_asks : ME := (yX7_asks, cX7_asks, 3, (some .int), { frames := 3, cells := 0, slots := 0, locals := 65 }, 3, 6, kX7_asks)
def kX7_believes : List EI := [(0, .aload_n 0, 0, 0, []), (1, .iload_n 1, 0, 0, []), (2, .invokevirtual 75, 151, 0, []), (5, .ifCond .ne 7, 6, 0, []), (8, .iconst (-1), 0, 0, []), (9, .goto 10, 10, 0, []), (12, .iload_n 2, 0, 0, []), (13, .iconst 0, 0, 0, []), (14, .bipush 99, 0, 0, []), (16, .invokestatic 79, 147, 0, []), (19, .istore_n 3, 0, 0, []), (20, .iload_n 3, 0, 0, []), (21, .ifCond .eq 9, 17, 0, []), (24, .aload_n 0, 0, 0, []), (25, .iload_n 3, 0, 0, []), (26, .invokevirtual 86, 144, 0, []), (29, .ireturn, 0, 0, []), (30, .aload_n 0, 0, 0, []), (31, .invokevirtual 178, 167, 0, []), (34, .aload_n 0, 0, 0, []), (35, .getfield 22, 6, 4, []), (38, .iload_n 1, 0, 0, []), (39, .iaload, 0, 0, []), (40, .istore 4, 0, 0, []), (42, .aload_n 0, 0, 0, []), (43, .getfield 22, 6, 4, []), (46, .iload_n 1, 0, 0, []), (47, .iload_n 2, 0, 0, []), (48, .iastore, 0, 0, []), (49, .iload 4, 0, 0, []), (51, .ireturn, 0, 0, [])]
def eX7_believes : ME := (yX7_believes, cX7_believes, 5, (some .int), { frames := 3, cells := 0, slots := 0, locals := 65 }, 3, 6, kX7_believes)
def kX7_kind : List EI := [(0, .aload_n 0, 0, 0, []), (1, .iload_n 1, 0, 0, []), (2, .invokevirtual 75, 151, 0, []), (5, .ifCond .ne 7, 6, 0, []), (8, .iconst (-1), 0, 0, []), (9, .goto 24, 17, 0, []), (12, .iload_n 2, 0, 0, []), (13, .iconst 0, 0, 0, []), (14, .iconst 5, 0, 0, []), (15, .invokestatic 97, 146, 0, []), (18, .ifCond .ne 8, 13, 0, []), (21, .bipush (-2), 0, 0, []), (23, .goto 10, 17, 0, []), (26, .iload_n 3, 0, 0, []), (27, .iconst 0, 0, 0, []), (28, .bipush 9, 0, 0, []), (30, .invokestatic 79, 147, 0, []), (33, .istore 4, 0, 0, []), (35, .iload 4, 0, 0, []), (37, .ifCond .eq 10, 24, 0, []), (40, .aload_n 0, 0, 0, []), (41, .iload 4, 0, 0, []), (43, .invokevirtual 86, 144, 0, []), (46, .ireturn, 0, 0, []), (47, .aload_n 0, 0, 0, []), (48, .invokevirtual 178, 167, 0, []), (51, .bipush 10, 0, 0, []), (53, .aload_n 0, 0, 0, []), (54, .getfield 13, 6, 1, []), (57, .iload_n 1, 0, 0, []), (58, .iaload, 0, 0, []), (59, .imul, 0, 0, []), (60, .aload_n 0, 0, 0, []), (61, .getfield 16, 6, 2, []), (64, .iload_n 1, 0, 0, []), (65, .iaload, 0, 0, []), (66, .iadd, 0, 0, []), (67, .istore 5, 0, 0, []), (69, .aload_n 0, 0, 0, []), (70, .getfield 13, 6, 1, []), (73, .iload_n 1, 0, 0, []), (74, .iload_n 2, 0, 0, []), (75, .iastore, 0, 0, []), (76, .aload_n 0, 0, 0, []), (77, .getfield 16, 6, 2, []), (80, .iload_n 1, 0, 0, []), (81, .iload_n 3, 0, 0, []), (82, .iastore, 0, 0, []), (83, .iload 5, 0, 0, []), (85, .ireturn, 0, 0, [])]
def eX7_kind : ME := (yX7_kind, cX7_kind, 6, (some .int), { frames := 3, cells := 0, slots := 0, locals := 65 }, 4, 6, kX7_kind)
def kX7_way : List EI := [(0, .iload_n 1, 0, 0, []), (1, .invokestatic 118, 153, 0, []), (4, .ifCond .eq 15, 9, 0, []), (7, .iload_n 2, 0, 0, []), (8, .invokestatic 118, 153, 0, []), (11, .ifCond .eq 8, 9, 0, []), (14, .iload_n 1, 0, 0, []), (15, .iload_n 2, 0, 0, []), (16, .if_icmp .ne 9, 13, 0, []), (19, .aload_n 0, 0, 0, []), (20, .iconst (-1), 0, 0, []), (21, .invokevirtual 86, 144, 0, []), (24, .ireturn, 0, 0, []), (25, .aload_n 0, 0, 0, []), (26, .iconst 0, 0, 0, []), (27, .putfield 142, 6, 21, []), (30, .aload_n 0, 0, 0, []), (31, .iload_n 1, 0, 0, []), (32, .iload_n 2, 0, 0, []), (33, .invokevirtual 121, 176, 0, []), (36, .aload_n 0, 0, 0, []), (37, .getfield 28, 6, 6, []), (40, .iload_n 1, 0, 0, []), (41, .iaload, 0, 0, []), (42, .iload_n 2, 0, 0, []), (43, .ishr, 0, 0, []), (44, .iconst 1, 0, 0, []), (45, .iand, 0, 0, []), (46, .ireturn, 0, 0, [])]
def eX7_way : ME := (yX7_way, cX7_way, 3, (some .int), { frames := 1, cells := 0, slots := 0, locals := 22 }, 3, 6, kX7_way)
def kX7_hangs : List EI := [(0, .iload_n 1, 0, 0, []), (1, .invokestatic 118, 153, 0, []), (4, .ifCond .ne 7, 5, 0, []), (7, .iconst (-1), 0, 0, []), (8, .goto 18, 13, 0, []), (11, .iload_n 2, 0, 0, []), (12, .iconst 0, 0, 0, []), (13, .iconst 3, 0, 0, []), (14, .invokestatic 97, 146, 0, []), (17, .ifCond .ne 8, 12, 0, []), (20, .bipush (-2), 0, 0, []), (22, .goto 4, 13, 0, []), (25, .iconst 0, 0, 0, []), (26, .istore_n 3, 0, 0, []), (27, .iload_n 3, 0, 0, []), (28, .ifCond .eq 9, 20, 0, []), (31, .aload_n 0, 0, 0, []), (32, .iload_n 3, 0, 0, []), (33, .invokevirtual 86, 144, 0, []), (36, .ireturn, 0, 0, []), (37, .aload_n 0, 0, 0, []), (38, .iconst 0, 0, 0, []), (39, .putfield 142, 6, 21, []), (42, .aload_n 0, 0, 0, []), (43, .getfield 31, 6, 7, []), (46, .iload_n 1, 0, 0, []), (47, .iaload, 0, 0, []), (48, .istore 4, 0, 0, []), (50, .aload_n 0, 0, 0, []), (51, .getfield 31, 6, 7, []), (54, .iload_n 1, 0, 0, []), (55, .iload_n 2, 0, 0, []), (56, .iastore, 0, 0, []), (57, .iload 4, 0, 0, []), (59, .ireturn, 0, 0, [])]
def eX7_hangs : ME := (yX7_hangs, cX7_hangs, 5, (some .int), { frames := 1, cells := 0, slots := 0, locals := 22 }, 3, 6, kX7_hangs)
def kX7_week : List EI := [(0, .aload_n 0, 0, 0, []), (1, .getfield 125, 6, 9, []), (4, .sipush 999, 0, 0, []), (7, .if_icmp .ne 10, 8, 0, []), (10, .aload_n 0, 0, 0, []), (11, .bipush (-6), 0, 0, []), (13, .invokevirtual 86, 144, 0, []), (16, .ireturn, 0, 0, []), (17, .aload_n 0, 0, 0, []), (18, .invokevirtual 178, 167, 0, []), (21, .aload_n 0, 0, 0, []), (22, .invokevirtual 128, 175, 0, []), (25, .ireturn, 0, 0, [])]
def eX7_week : ME := (yX7_week, cX7_week, 1, (some .int), { frames := 4, cells := 0, slots := 0, locals := 88 }, 1, 6, kX7_week)
def kX7_says : List EI := [(0, .aload_n 0, 0, 0, []), (1, .iload_n 1, 0, 0, []), (2, .iload_n 2, 0, 0, []), (3, .invokevirtual 115, 152, 0, []), (6, .ifCond .eq 17, 13, 0, []), (9, .aload_n 0, 0, 0, []), (10, .iload_n 1, 0, 0, []), (11, .aload_n 0, 0, 0, []), (12, .getfield 19, 6, 3, []), (15, .iload_n 2, 0, 0, []), (16, .iaload, 0, 0, []), (17, .invokevirtual 168, 173, 0, []), (20, .goto 8, 16, 0, []), (23, .aload_n 0, 0, 0, []), (24, .iconst (-1), 0, 0, []), (25, .invokevirtual 86, 144, 0, []), (28, .ireturn, 0, 0, [])]
def eX7_says : ME := (yX7_says, cX7_says, 3, (some .int), { frames := 2, cells := 0, slots := 0, locals := 43 }, 3, 6, kX7_says)
def kX7_saysOf : List EI := [(0, .aload_n 0, 0, 0, []), (1, .iload_n 1, 0, 0, []), (2, .invokevirtual 75, 151, 0, []), (5, .ifCond .ne 7, 6, 0, []), (8, .iconst (-1), 0, 0, []), (9, .goto 10, 10, 0, []), (12, .iload_n 2, 0, 0, []), (13, .iconst 0, 0, 0, []), (14, .bipush 99, 0, 0, []), (16, .invokestatic 79, 147, 0, []), (19, .istore_n 3, 0, 0, []), (20, .iload_n 3, 0, 0, []), (21, .ifCond .eq 11, 17, 0, []), (24, .aload_n 0, 0, 0, []), (25, .iload_n 3, 0, 0, []), (26, .invokevirtual 86, 144, 0, []), (29, .goto 9, 21, 0, []), (32, .aload_n 0, 0, 0, []), (33, .iload_n 1, 0, 0, []), (34, .iload_n 2, 0, 0, []), (35, .invokevirtual 168, 173, 0, []), (38, .ireturn, 0, 0, [])]
def eX7_saysOf : ME := (yX7_saysOf, cX7_saysOf, 4, (some .int), { frames := 2, cells := 0, slots := 0, locals := 42 }, 3, 6, kX7_saysOf)
def kX7_findWeeks : List EI := [(0, .aload_n 0, 0, 0, []), (1, .invokevirtual 181, 165, 0, []), (4, .iconst 0, 0, 0, []), (5, .istore_n 2, 0, 0, []), (6, .iload_n 2, 0, 0, []), (7, .iload_n 1, 0, 0, []), (8, .if_icmp .gt 47, 32, 0, []), (11, .iconst 0, 0, 0, []), (12, .istore_n 3, 0, 0, []), (13, .iload_n 3, 0, 0, []), (14, .aload_n 0, 0, 0, []), (15, .getfield 70, 6, 8, []), (18, .if_icmp .ge 26, 27, 0, []), (21, .aload_n 0, 0, 0, []), (22, .getfield 52, 6, 23, []), (25, .bipush 7, 0, 0, []), (27, .iload_n 2, 0, 0, []), (28, .imul, 0, 0, []), (29, .iload_n 3, 0, 0, []), (30, .iadd, 0, 0, []), (31, .aload_n 0, 0, 0, []), (32, .getfield 22, 6, 4, []), (35, .iload_n 3, 0, 0, []), (36, .iaload, 0, 0, []), (37, .iastore, 0, 0, []), (38, .iinc 3 1, 0, 0, []), (41, .goto (-28), 9, 0, []), (44, .aload_n 0, 0, 0, []), (45, .invokevirtual 128, 175, 0, []), (48, .pop, 0, 0, []), (49, .iinc 2 1, 0, 0, []), (52, .goto (-46), 4, 0, []), (55, .aload_n 0, 0, 0, []), (56, .invokevirtual 184, 166, 0, []), (59, .return_, 0, 0, [])]
def eX7_findWeeks : ME := (yX7_findWeeks, cX7_findWeeks, 4, none, { frames := 4, cells := 0, slots := 0, locals := 88 }, 2, 6, kX7_findWeeks)
def kX7_notWeeks : List EI := [(0, .iload_n 0, 0, 0, []), (1, .iconst 0, 0, 0, []), (2, .bipush 60, 0, 0, []), (4, .invokestatic 79, 147, 0, []), (7, .ireturn, 0, 0, [])]
def eX7_notWeeks : ME := (yX7_notWeeks, cX7_notWeeks, 1, (some .int), { frames := 1, cells := 0, slots := 0, locals := 22 }, 1, 99, kX7_notWeeks)
def kX7_beliefAt : List EI := [(0, .aload_n 0, 0, 0, []), (1, .getfield 52, 6, 23, []), (4, .bipush 7, 0, 0, []), (6, .iload_n 1, 0, 0, []), (7, .imul, 0, 0, []), (8, .iload_n 2, 0, 0, []), (9, .iadd, 0, 0, []), (10, .iaload, 0, 0, []), (11, .ireturn, 0, 0, [])]
def eX7_beliefAt : ME := (yX7_beliefAt, cX7_beliefAt, 3, (some .int), { frames := 0, cells := 0, slots := 0, locals := 0 }, 3, 6, kX7_beliefAt)
def kX7_belief : List EI := [(0, .aload_n 0, 0, 0, []), (1, .iload_n 1, 0, 0, []), (2, .invokevirtual 75, 151, 0, []), (5, .ifCond .ne 7, 6, 0, []), (8, .iconst (-1), 0, 0, []), (9, .goto 7, 8, 0, []), (12, .iload_n 2, 0, 0, []), (13, .invokestatic 187, 188, 0, []), (16, .istore_n 3, 0, 0, []), (17, .iload_n 3, 0, 0, []), (18, .ifCond .eq 9, 15, 0, []), (21, .aload_n 0, 0, 0, []), (22, .iload_n 3, 0, 0, []), (23, .invokevirtual 86, 144, 0, []), (26, .ireturn, 0, 0, []), (27, .aload_n 0, 0, 0, []), (28, .iload_n 2, 0, 0, []), (29, .invokevirtual 190, 187, 0, []), (32, .aload_n 0, 0, 0, []), (33, .iload_n 2, 0, 0, []), (34, .iload_n 1, 0, 0, []), (35, .invokevirtual 194, 189, 0, []), (38, .ireturn, 0, 0, [])]
def eX7_belief : ME := (yX7_belief, cX7_belief, 4, (some .int), { frames := 5, cells := 0, slots := 0, locals := 111 }, 3, 6, kX7_belief)
def kX7_fooledAt : List EI := [(0, .iconst 0, 0, 0, []), (1, .istore_n 3, 0, 0, []), (2, .iconst 0, 0, 0, []), (3, .istore 4, 0, 0, []), (5, .iload 4, 0, 0, []), (7, .aload_n 0, 0, 0, []), (8, .getfield 70, 6, 8, []), (11, .if_icmp .ge 41, 29, 0, []), (14, .iload_n 3, 0, 0, []), (15, .aload_n 0, 0, 0, []), (16, .iload_n 1, 0, 0, []), (17, .iload 4, 0, 0, []), (19, .invokevirtual 194, 189, 0, []), (22, .aload_n 0, 0, 0, []), (23, .getfield 19, 6, 3, []), (26, .iload 4, 0, 0, []), (28, .iaload, 0, 0, []), (29, .invokestatic 197, 150, 0, []), (32, .iload_n 2, 0, 0, []), (33, .if_icmp .le 10, 24, 0, []), (36, .iconst 1, 0, 0, []), (37, .iload 4, 0, 0, []), (39, .ishl, 0, 0, []), (40, .goto 4, 25, 0, []), (43, .iconst 0, 0, 0, []), (44, .ior, 0, 0, []), (45, .istore_n 3, 0, 0, []), (46, .iinc 4 1, 0, 0, []), (49, .goto (-44), 4, 0, []), (52, .iload_n 3, 0, 0, []), (53, .ireturn, 0, 0, [])]
def eX7_fooledAt : ME := (yX7_fooledAt, cX7_fooledAt, 5, (some .int), { frames := 1, cells := 0, slots := 0, locals := 22 }, 3, 6, kX7_fooledAt)
def kX7_errorAt : List EI := [(0, .iconst 0, 0, 0, []), (1, .istore_n 2, 0, 0, []), (2, .iconst 0, 0, 0, []), (3, .istore_n 3, 0, 0, []), (4, .iload_n 3, 0, 0, []), (5, .aload_n 0, 0, 0, []), (6, .getfield 70, 6, 8, []), (9, .if_icmp .ge 27, 22, 0, []), (12, .iload_n 2, 0, 0, []), (13, .aload_n 0, 0, 0, []), (14, .iload_n 1, 0, 0, []), (15, .iload_n 3, 0, 0, []), (16, .invokevirtual 194, 189, 0, []), (19, .aload_n 0, 0, 0, []), (20, .getfield 19, 6, 3, []), (23, .iload_n 3, 0, 0, []), (24, .iaload, 0, 0, []), (25, .invokestatic 197, 150, 0, []), (28, .iadd, 0, 0, []), (29, .istore_n 2, 0, 0, []), (30, .iinc 3 1, 0, 0, []), (33, .goto (-29), 4, 0, []), (36, .iload_n 2, 0, 0, []), (37, .ireturn, 0, 0, [])]
def eX7_errorAt : ME := (yX7_errorAt, cX7_errorAt, 4, (some .int), { frames := 1, cells := 0, slots := 0, locals := 22 }, 2, 6, kX7_errorAt)
def kX7_errorBehind : List EI := [(0, .aload_n 0, 0, 0, []), (1, .iload_n 1, 0, 0, []), (2, .invokevirtual 190, 187, 0, []), (5, .aload_n 0, 0, 0, []), (6, .iload_n 1, 0, 0, []), (7, .invokevirtual 200, 192, 0, []), (10, .ireturn, 0, 0, [])]
def eX7_errorBehind : ME := (yX7_errorBehind, cX7_errorBehind, 2, (some .int), { frames := 5, cells := 0, slots := 0, locals := 111 }, 2, 6, kX7_errorBehind)
def kX7_fooled : List EI := [(0, .iload_n 1, 0, 0, []), (1, .ifCond .lt 7, 4, 0, []), (4, .iload_n 2, 0, 0, []), (5, .ifCond .ge 8, 6, 0, []), (8, .bipush (-4), 0, 0, []), (10, .goto 21, 15, 0, []), (13, .iload_n 1, 0, 0, []), (14, .bipush 60, 0, 0, []), (16, .if_icmp .gt 9, 12, 0, []), (19, .iload_n 2, 0, 0, []), (20, .bipush 99, 0, 0, []), (22, .if_icmp .le 8, 14, 0, []), (25, .bipush (-6), 0, 0, []), (27, .goto 4, 15, 0, []), (30, .iconst 0, 0, 0, []), (31, .istore_n 3, 0, 0, []), (32, .iload_n 3, 0, 0, []), (33, .ifCond .eq 9, 22, 0, []), (36, .aload_n 0, 0, 0, []), (37, .iload_n 3, 0, 0, []), (38, .invokevirtual 86, 144, 0, []), (41, .ireturn, 0, 0, []), (42, .aload_n 0, 0, 0, []), (43, .iload_n 1, 0, 0, []), (44, .invokevirtual 190, 187, 0, []), (47, .aload_n 0, 0, 0, []), (48, .iload_n 1, 0, 0, []), (49, .iload_n 2, 0, 0, []), (50, .invokevirtual 203, 191, 0, []), (53, .ireturn, 0, 0, [])]
def eX7_fooled : ME := (yX7_fooled, cX7_fooled, 4, (some .int), { frames := 5, cells := 0, slots := 0, locals := 111 }, 3, 6, kX7_fooled)
def kX7_error : List EI := [(0, .iload_n 1, 0, 0, []), (1, .invokestatic 187, 188, 0, []), (4, .istore_n 2, 0, 0, []), (5, .iload_n 2, 0, 0, []), (6, .ifCond .eq 11, 9, 0, []), (9, .aload_n 0, 0, 0, []), (10, .iload_n 2, 0, 0, []), (11, .invokevirtual 86, 144, 0, []), (14, .goto 8, 12, 0, []), (17, .aload_n 0, 0, 0, []), (18, .iload_n 1, 0, 0, []), (19, .invokevirtual 206, 193, 0, []), (22, .ireturn, 0, 0, [])]
def eX7_error : ME := (yX7_error, cX7_error, 3, (some .int), { frames := 6, cells := 0, slots := 0, locals := 132 }, 2, 6, kX7_error)
def kX7_first : List EI := [(0, .iconst 0, 0, 0, []), (1, .istore_n 1, 0, 0, []), (2, .iload_n 0, 0, 0, []), (3, .iload_n 1, 0, 0, []), (4, .invokestatic 165, 148, 0, []), (7, .ifCond .ne 9, 8, 0, []), (10, .iinc 1 1, 0, 0, []), (13, .goto (-11), 2, 0, []), (16, .iload_n 1, 0, 0, []), (17, .ireturn, 0, 0, [])]
def eX7_first : ME := (yX7_first, cX7_first, 2, (some .int), { frames := 1, cells := 0, slots := 0, locals := 21 }, 1, 99, kX7_first)
def kX7_clash : List EI := [(0, .iload_n 1, 0, 0, []), (1, .iconst 0, 0, 0, []), (2, .bipush 99, 0, 0, []), (4, .invokestatic 79, 147, 0, []), (7, .istore_n 3, 0, 0, []), (8, .iload_n 3, 0, 0, []), (9, .ifCond .ne 15, 14, 0, []), (12, .iload_n 2, 0, 0, []), (13, .iconst 0, 0, 0, []), (14, .iconst 1, 0, 0, []), (15, .invokestatic 97, 146, 0, []), (18, .ifCond .ne 6, 14, 0, []), (21, .bipush (-2), 0, 0, []), (23, .istore_n 3, 0, 0, []), (24, .iload_n 3, 0, 0, []), (25, .ifCond .eq 9, 20, 0, []), (28, .aload_n 0, 0, 0, []), (29, .iload_n 3, 0, 0, []), (30, .invokevirtual 86, 144, 0, []), (33, .ireturn, 0, 0, []), (34, .aload_n 0, 0, 0, []), (35, .bipush 60, 0, 0, []), (37, .invokevirtual 190, 187, 0, []), (40, .iconst 0, 0, 0, []), (41, .istore 4, 0, 0, []), (43, .iload 4, 0, 0, []), (45, .bipush 60, 0, 0, []), (47, .if_icmp .gt 39, 45, 0, []), (50, .aload_n 0, 0, 0, []), (51, .iload 4, 0, 0, []), (53, .iload_n 1, 0, 0, []), (54, .invokevirtual 203, 191, 0, []), (57, .ifCond .eq 23, 43, 0, []), (60, .iload_n 2, 0, 0, []), (61, .ifCond .ne 8, 37, 0, []), (64, .iload 4, 0, 0, []), (66, .goto 13, 42, 0, []), (69, .aload_n 0, 0, 0, []), (70, .iload 4, 0, 0, []), (72, .iload_n 1, 0, 0, []), (73, .invokevirtual 203, 191, 0, []), (76, .invokestatic 209, 196, 0, []), (79, .ireturn, 0, 0, []), (80, .iinc 4 1, 0, 0, []), (83, .goto (-40), 25, 0, []), (86, .bipush (-9), 0, 0, []), (88, .ireturn, 0, 0, [])]
def eX7_clash : ME := (yX7_clash, cX7_clash, 5, (some .int), { frames := 5, cells := 0, slots := 0, locals := 111 }, 3, 6, kX7_clash)
def kX7_areAlike : List EI := [(0, .iconst 0, 0, 0, []), (1, .istore_n 3, 0, 0, []), (2, .iload_n 3, 0, 0, []), (3, .aload_n 0, 0, 0, []), (4, .getfield 70, 6, 8, []), (7, .if_icmp .ge 26, 19, 0, []), (10, .aload_n 0, 0, 0, []), (11, .iload_n 1, 0, 0, []), (12, .iload_n 3, 0, 0, []), (13, .invokevirtual 194, 189, 0, []), (16, .aload_n 0, 0, 0, []), (17, .iload_n 2, 0, 0, []), (18, .iload_n 3, 0, 0, []), (19, .invokevirtual 194, 189, 0, []), (22, .if_icmp .eq 5, 17, 0, []), (25, .iconst 0, 0, 0, []), (26, .ireturn, 0, 0, []), (27, .iinc 3 1, 0, 0, []), (30, .goto (-28), 2, 0, []), (33, .iconst 1, 0, 0, []), (34, .ireturn, 0, 0, [])]
def eX7_areAlike : ME := (yX7_areAlike, cX7_areAlike, 4, (some .boolean), { frames := 1, cells := 0, slots := 0, locals := 22 }, 3, 6, kX7_areAlike)
def kX7_settles : List EI := [(0, .aload_n 0, 0, 0, []), (1, .bipush 61, 0, 0, []), (3, .invokevirtual 190, 187, 0, []), (6, .iconst 0, 0, 0, []), (7, .istore_n 1, 0, 0, []), (8, .iload_n 1, 0, 0, []), (9, .bipush 60, 0, 0, []), (11, .if_icmp .gt 22, 19, 0, []), (14, .aload_n 0, 0, 0, []), (15, .iload_n 1, 0, 0, []), (16, .iload_n 1, 0, 0, []), (17, .iconst 1, 0, 0, []), (18, .iadd, 0, 0, []), (19, .invokevirtual 212, 198, 0, []), (22, .ifCond .eq 5, 17, 0, []), (25, .iload_n 1, 0, 0, []), (26, .ireturn, 0, 0, []), (27, .iinc 1 1, 0, 0, []), (30, .goto (-22), 5, 0, []), (33, .bipush (-9), 0, 0, []), (35, .ireturn, 0, 0, [])]
def eX7_settles : ME := (yX7_settles, cX7_settles, 2, (some .int), { frames := 5, cells := 0, slots := 0, locals := 111 }, 1, 6, kX7_settles)
def kX7_round : List EI := [(0, .aload_n 0, 0, 0, []), (1, .bipush 120, 0, 0, []), (3, .invokevirtual 190, 187, 0, []), (6, .iconst 1, 0, 0, []), (7, .istore_n 1, 0, 0, []), (8, .iload_n 1, 0, 0, []), (9, .bipush 60, 0, 0, []), (11, .if_icmp .gt 24, 19, 0, []), (14, .aload_n 0, 0, 0, []), (15, .bipush 60, 0, 0, []), (17, .bipush 60, 0, 0, []), (19, .iload_n 1, 0, 0, []), (20, .iadd, 0, 0, []), (21, .invokevirtual 212, 198, 0, []), (24, .ifCond .eq 5, 17, 0, []), (27, .iload_n 1, 0, 0, []), (28, .ireturn, 0, 0, []), (29, .iinc 1 1, 0, 0, []), (32, .goto (-24), 5, 0, []), (35, .bipush (-9), 0, 0, []), (37, .ireturn, 0, 0, [])]
def eX7_round : ME := (yX7_round, cX7_round, 2, (some .int), { frames := 5, cells := 0, slots := 0, locals := 111 }, 1, 6, kX7_round)
def kX7_others : List EI := [(0, .aload_n 0, 0, 0, []), (1, .invokevirtual 215, 154, 0, []), (4, .iconst 1, 0, 0, []), (5, .iload_n 1, 0, 0, []), (6, .ishl, 0, 0, []), (7, .iconst (-1), 0, 0, []), (8, .ixor, 0, 0, []), (9, .iand, 0, 0, []), (10, .ireturn, 0, 0, [])]
def eX7_others : ME := (yX7_others, cX7_others, 2, (some .int), { frames := 1, cells := 0, slots := 0, locals := 20 }, 2, 6, kX7_others)
def kX7_isOf : List EI := [(0, .iload_n 1, 0, 0, []), (1, .ifCond .eq 19, 12, 0, []), (4, .iload_n 1, 0, 0, []), (5, .aload_n 0, 0, 0, []), (6, .iload_n 2, 0, 0, []), (7, .invokevirtual 218, 201, 0, []), (10, .iconst (-1), 0, 0, []), (11, .ixor, 0, 0, []), (12, .iand, 0, 0, []), (13, .ifCond .ne 7, 12, 0, []), (16, .iconst 1, 0, 0, []), (17, .goto 4, 13, 0, []), (20, .iconst 0, 0, 0, []), (21, .ireturn, 0, 0, [])]
def eX7_isOf : ME := (yX7_isOf, cX7_isOf, 3, (some .boolean), { frames := 2, cells := 0, slots := 0, locals := 41 }, 3, 6, kX7_isOf)
def kX7_errorOf : List EI := [(0, .aload_n 0, 0, 0, []), (1, .iload_n 1, 0, 0, []), (2, .iload_n 2, 0, 0, []), (3, .invokevirtual 175, 174, 0, []), (6, .aload_n 0, 0, 0, []), (7, .getfield 19, 6, 3, []), (10, .iload_n 1, 0, 0, []), (11, .iaload, 0, 0, []), (12, .invokestatic 197, 150, 0, []), (15, .ireturn, 0, 0, [])]
def eX7_errorOf : ME := (yX7_errorOf, cX7_errorOf, 3, (some .int), { frames := 3, cells := 0, slots := 0, locals := 66 }, 3, 6, kX7_errorOf)
def kX7_knows : List EI := [(0, .aload_n 0, 0, 0, []), (1, .iload_n 1, 0, 0, []), (2, .invokevirtual 75, 151, 0, []), (5, .ifCond .ne 9, 8, 0, []), (8, .aload_n 0, 0, 0, []), (9, .iconst (-1), 0, 0, []), (10, .invokevirtual 86, 144, 0, []), (13, .ireturn, 0, 0, []), (14, .aload_n 0, 0, 0, []), (15, .getfield 22, 6, 4, []), (18, .iload_n 1, 0, 0, []), (19, .iaload, 0, 0, []), (20, .aload_n 0, 0, 0, []), (21, .getfield 19, 6, 3, []), (24, .iload_n 1, 0, 0, []), (25, .iaload, 0, 0, []), (26, .if_icmp .ne 5, 19, 0, []), (29, .iconst 0, 0, 0, []), (30, .ireturn, 0, 0, []), (31, .bipush (-9), 0, 0, []), (33, .istore_n 2, 0, 0, []), (34, .iconst 1, 0, 0, []), (35, .istore_n 3, 0, 0, []), (36, .iload_n 3, 0, 0, []), (37, .aload_n 0, 0, 0, []), (38, .invokevirtual 215, 154, 0, []), (41, .if_icmp .gt 44, 48, 0, []), (44, .aload_n 0, 0, 0, []), (45, .iload_n 3, 0, 0, []), (46, .iload_n 1, 0, 0, []), (47, .invokevirtual 221, 202, 0, []), (50, .ifCond .eq 29, 46, 0, []), (53, .aload_n 0, 0, 0, []), (54, .iload_n 1, 0, 0, []), (55, .iload_n 3, 0, 0, []), (56, .invokevirtual 224, 203, 0, []), (59, .ifCond .ne 20, 46, 0, []), (62, .iload_n 2, 0, 0, []), (63, .ifCond .lt 14, 44, 0, []), (66, .iload_n 3, 0, 0, []), (67, .invokestatic 172, 149, 0, []), (70, .iload_n 2, 0, 0, []), (71, .invokestatic 172, 149, 0, []), (74, .if_icmp .ge 5, 46, 0, []), (77, .iload_n 3, 0, 0, []), (78, .istore_n 2, 0, 0, []), (79, .iinc 3 1, 0, 0, []), (82, .goto (-46), 23, 0, []), (85, .iload_n 2, 0, 0, []), (86, .ireturn, 0, 0, [])]
def eX7_knows : ME := (yX7_knows, cX7_knows, 4, (some .int), { frames := 4, cells := 0, slots := 0, locals := 88 }, 2, 6, kX7_knows)
def kX7_nearest : List EI := [(0, .aload_n 0, 0, 0, []), (1, .iload_n 1, 0, 0, []), (2, .invokevirtual 75, 151, 0, []), (5, .ifCond .ne 7, 6, 0, []), (8, .iconst (-1), 0, 0, []), (9, .goto 18, 14, 0, []), (12, .iload_n 2, 0, 0, []), (13, .iconst 0, 0, 0, []), (14, .iconst 1, 0, 0, []), (15, .invokestatic 97, 146, 0, []), (18, .ifCond .ne 8, 13, 0, []), (21, .bipush (-2), 0, 0, []), (23, .goto 4, 14, 0, []), (26, .iconst 0, 0, 0, []), (27, .istore_n 3, 0, 0, []), (28, .iload_n 3, 0, 0, []), (29, .ifCond .eq 9, 21, 0, []), (32, .aload_n 0, 0, 0, []), (33, .iload_n 3, 0, 0, []), (34, .invokevirtual 86, 144, 0, []), (37, .ireturn, 0, 0, []), (38, .bipush (-9), 0, 0, []), (40, .istore 4, 0, 0, []), (42, .iconst 1, 0, 0, []), (43, .istore 5, 0, 0, []), (45, .iload 5, 0, 0, []), (47, .aload_n 0, 0, 0, []), (48, .invokevirtual 215, 154, 0, []), (51, .if_icmp .gt 75, 62, 0, []), (54, .aload_n 0, 0, 0, []), (55, .iload 5, 0, 0, []), (57, .iload_n 1, 0, 0, []), (58, .invokevirtual 221, 202, 0, []), (61, .ifCond .ne 6, 35, 0, []), (64, .goto 56, 60, 0, []), (67, .iload 4, 0, 0, []), (69, .ifCond .ge 7, 39, 0, []), (72, .iconst (-1), 0, 0, []), (73, .goto 18, 48, 0, []), (76, .aload_n 0, 0, 0, []), (77, .iload_n 1, 0, 0, []), (78, .iload 5, 0, 0, []), (80, .invokevirtual 224, 203, 0, []), (83, .aload_n 0, 0, 0, []), (84, .iload_n 1, 0, 0, []), (85, .iload 4, 0, 0, []), (87, .invokevirtual 224, 203, 0, []), (90, .isub, 0, 0, []), (91, .istore 6, 0, 0, []), (93, .iload 6, 0, 0, []), (95, .ifCond .lt 21, 58, 0, []), (98, .iload 6, 0, 0, []), (100, .ifCond .ne 20, 60, 0, []), (103, .iload 5, 0, 0, []), (105, .invokestatic 172, 149, 0, []), (108, .iload 4, 0, 0, []), (110, .invokestatic 172, 149, 0, []), (113, .if_icmp .ge 7, 60, 0, []), (116, .iload 5, 0, 0, []), (118, .istore 4, 0, 0, []), (120, .iinc 5 1, 0, 0, []), (123, .goto (-78), 25, 0, []), (126, .iload_n 2, 0, 0, []), (127, .ifCond .eq 8, 66, 0, []), (130, .iload 4, 0, 0, []), (132, .ifCond .ge 8, 68, 0, []), (135, .iload 4, 0, 0, []), (137, .goto 10, 72, 0, []), (140, .aload_n 0, 0, 0, []), (141, .iload_n 1, 0, 0, []), (142, .iload 4, 0, 0, []), (144, .invokevirtual 224, 203, 0, []), (147, .ireturn, 0, 0, [])]
def eX7_nearest : ME := (yX7_nearest, cX7_nearest, 7, (some .int), { frames := 4, cells := 0, slots := 0, locals := 88 }, 3, 6, kX7_nearest)
def kX7_fair : List EI := [(0, .aload_n 0, 0, 0, []), (1, .iload_n 1, 0, 0, []), (2, .invokevirtual 75, 151, 0, []), (5, .ifCond .ne 7, 6, 0, []), (8, .iconst (-1), 0, 0, []), (9, .goto 35, 22, 0, []), (12, .iload_n 2, 0, 0, []), (13, .iconst 1, 0, 0, []), (14, .if_icmp .lt 7, 11, 0, []), (17, .iload_n 3, 0, 0, []), (18, .ifCond .ge 8, 13, 0, []), (21, .bipush (-4), 0, 0, []), (23, .goto 21, 22, 0, []), (26, .iload_n 2, 0, 0, []), (27, .bipush 6, 0, 0, []), (29, .if_icmp .gt 9, 19, 0, []), (32, .iload_n 3, 0, 0, []), (33, .bipush 99, 0, 0, []), (35, .if_icmp .le 8, 21, 0, []), (38, .bipush (-6), 0, 0, []), (40, .goto 4, 22, 0, []), (43, .iconst 0, 0, 0, []), (44, .istore 4, 0, 0, []), (46, .iload 4, 0, 0, []), (48, .ifCond .eq 10, 29, 0, []), (51, .aload_n 0, 0, 0, []), (52, .iload 4, 0, 0, []), (54, .invokevirtual 86, 144, 0, []), (57, .ireturn, 0, 0, []), (58, .iconst 0, 0, 0, []), (59, .istore 5, 0, 0, []), (61, .iconst 1, 0, 0, []), (62, .istore 6, 0, 0, []), (64, .iload 6, 0, 0, []), (66, .aload_n 0, 0, 0, []), (67, .invokevirtual 215, 154, 0, []), (70, .if_icmp .gt 49, 60, 0, []), (73, .iload 5, 0, 0, []), (75, .aload_n 0, 0, 0, []), (76, .iload 6, 0, 0, []), (78, .iload_n 1, 0, 0, []), (79, .invokevirtual 221, 202, 0, []), (82, .ifCond .eq 27, 55, 0, []), (85, .iload 6, 0, 0, []), (87, .invokestatic 172, 149, 0, []), (90, .iload_n 2, 0, 0, []), (91, .if_icmp .ne 18, 55, 0, []), (94, .aload_n 0, 0, 0, []), (95, .iload_n 1, 0, 0, []), (96, .iload 6, 0, 0, []), (98, .invokevirtual 224, 203, 0, []), (101, .iload_n 3, 0, 0, []), (102, .if_icmp .gt 7, 55, 0, []), (105, .iconst 1, 0, 0, []), (106, .goto 4, 56, 0, []), (109, .iconst 0, 0, 0, []), (110, .iadd, 0, 0, []), (111, .istore 5, 0, 0, []), (113, .iinc 6 1, 0, 0, []), (116, .goto (-52), 33, 0, []), (119, .iload 5, 0, 0, []), (121, .ireturn, 0, 0, [])]
def eX7_fair : ME := (yX7_fair, cX7_fair, 7, (some .int), { frames := 4, cells := 0, slots := 0, locals := 88 }, 4, 6, kX7_fair)
def kX7_worth : List EI := [(0, .aload_n 0, 0, 0, []), (1, .iload_n 1, 0, 0, []), (2, .invokevirtual 75, 151, 0, []), (5, .ifCond .ne 7, 6, 0, []), (8, .iconst (-1), 0, 0, []), (9, .goto 7, 8, 0, []), (12, .iload_n 2, 0, 0, []), (13, .invokestatic 187, 188, 0, []), (16, .istore_n 3, 0, 0, []), (17, .iload_n 3, 0, 0, []), (18, .ifCond .eq 9, 15, 0, []), (21, .aload_n 0, 0, 0, []), (22, .iload_n 3, 0, 0, []), (23, .invokevirtual 227, 145, 0, []), (26, .ireturn, 0, 0, []), (27, .aload_n 0, 0, 0, []), (28, .iload_n 2, 0, 0, []), (29, .invokevirtual 206, 193, 0, []), (32, .istore 4, 0, 0, []), (34, .aload_n 0, 0, 0, []), (35, .iconst 1, 0, 0, []), (36, .iconst 1, 0, 0, []), (37, .invokevirtual 135, 164, 0, []), (40, .iconst 0, 0, 0, []), (41, .istore 5, 0, 0, []), (43, .iload 5, 0, 0, []), (45, .aload_n 0, 0, 0, []), (46, .getfield 70, 6, 8, []), (49, .if_icmp .ge 24, 43, 0, []), (52, .aload_n 0, 0, 0, []), (53, .getfield 25, 6, 5, []), (56, .iload 5, 0, 0, []), (58, .dup2, 0, 0, []), (59, .iaload, 0, 0, []), (60, .iconst 1, 0, 0, []), (61, .iload_n 1, 0, 0, []), (62, .ishl, 0, 0, []), (63, .iconst (-1), 0, 0, []), (64, .ixor, 0, 0, []), (65, .iand, 0, 0, []), (66, .iastore, 0, 0, []), (67, .iinc 5 1, 0, 0, []), (70, .goto (-27), 25, 0, []), (73, .aload_n 0, 0, 0, []), (74, .iload_n 2, 0, 0, []), (75, .invokevirtual 206, 193, 0, []), (78, .istore 5, 0, 0, []), (80, .aload_n 0, 0, 0, []), (81, .iconst 1, 0, 0, []), (82, .iconst 0, 0, 0, []), (83, .invokevirtual 135, 164, 0, []), (86, .iload 5, 0, 0, []), (88, .iload 4, 0, 0, []), (90, .isub, 0, 0, []), (91, .ireturn, 0, 0, [])]
def eX7_worth : ME := (yX7_worth, cX7_worth, 6, (some .int), { frames := 6, cells := 0, slots := 0, locals := 132 }, 3, 6, kX7_worth)
def kX7_newEar : List EI := [(0, .iload_n 1, 0, 0, []), (1, .invokestatic 187, 188, 0, []), (4, .istore_n 2, 0, 0, []), (5, .iload_n 2, 0, 0, []), (6, .ifCond .eq 9, 9, 0, []), (9, .aload_n 0, 0, 0, []), (10, .iload_n 2, 0, 0, []), (11, .invokevirtual 86, 144, 0, []), (14, .ireturn, 0, 0, []), (15, .aload_n 0, 0, 0, []), (16, .iload_n 1, 0, 0, []), (17, .invokevirtual 206, 193, 0, []), (20, .istore_n 3, 0, 0, []), (21, .bipush (-9), 0, 0, []), (23, .istore 4, 0, 0, []), (25, .iconst 0, 0, 0, []), (26, .istore 5, 0, 0, []), (28, .iload 5, 0, 0, []), (30, .bipush 49, 0, 0, []), (32, .if_icmp .ge 109, 79, 0, []), (35, .iload 5, 0, 0, []), (37, .bipush 7, 0, 0, []), (39, .idiv, 0, 0, []), (40, .istore 6, 0, 0, []), (42, .iload 5, 0, 0, []), (44, .bipush 7, 0, 0, []), (46, .irem, 0, 0, []), (47, .istore 7, 0, 0, []), (49, .aload_n 0, 0, 0, []), (50, .iload 6, 0, 0, []), (52, .iload 7, 0, 0, []), (54, .invokevirtual 115, 152, 0, []), (57, .ifCond .eq 78, 77, 0, []), (60, .aload_n 0, 0, 0, []), (61, .getfield 25, 6, 5, []), (64, .iload 6, 0, 0, []), (66, .iaload, 0, 0, []), (67, .iload 7, 0, 0, []), (69, .invokestatic 165, 148, 0, []), (72, .ifCond .eq 6, 41, 0, []), (75, .goto 60, 77, 0, []), (78, .aload_n 0, 0, 0, []), (79, .getfield 25, 6, 5, []), (82, .iload 6, 0, 0, []), (84, .dup2, 0, 0, []), (85, .iaload, 0, 0, []), (86, .iconst 1, 0, 0, []), (87, .iload 7, 0, 0, []), (89, .ishl, 0, 0, []), (90, .ixor, 0, 0, []), (91, .iastore, 0, 0, []), (92, .aload_n 0, 0, 0, []), (93, .iload_n 1, 0, 0, []), (94, .invokevirtual 206, 193, 0, []), (97, .istore 8, 0, 0, []), (99, .aload_n 0, 0, 0, []), (100, .getfield 25, 6, 5, []), (103, .iload 6, 0, 0, []), (105, .dup2, 0, 0, []), (106, .iaload, 0, 0, []), (107, .iconst 1, 0, 0, []), (108, .iload 7, 0, 0, []), (110, .ishl, 0, 0, []), (111, .ixor, 0, 0, []), (112, .iastore, 0, 0, []), (113, .iload 8, 0, 0, []), (115, .iload_n 3, 0, 0, []), (116, .if_icmp .lt 6, 69, 0, []), (119, .goto 16, 77, 0, []), (122, .bipush 10, 0, 0, []), (124, .iload 6, 0, 0, []), (126, .imul, 0, 0, []), (127, .iload 7, 0, 0, []), (129, .iadd, 0, 0, []), (130, .istore 4, 0, 0, []), (132, .iload 8, 0, 0, []), (134, .istore_n 3, 0, 0, []), (135, .iinc 5 1, 0, 0, []), (138, .goto (-110), 17, 0, []), (141, .iload 4, 0, 0, []), (143, .ireturn, 0, 0, [])]
def eX7_newEar : ME := (yX7_newEar, cX7_newEar, 9, (some .int), { frames := 6, cells := 0, slots := 0, locals := 132 }, 2, 6, kX7_newEar)
def kX7_sisters : List EI := [(0, .aload_n 0, 0, 0, []), (1, .iload_n 1, 0, 0, []), (2, .iload_n 2, 0, 0, []), (3, .invokevirtual 115, 152, 0, []), (6, .ifCond .ne 7, 7, 0, []), (9, .iconst (-1), 0, 0, []), (10, .goto 7, 9, 0, []), (13, .iload_n 3, 0, 0, []), (14, .invokestatic 187, 188, 0, []), (17, .istore 5, 0, 0, []), (19, .iload 5, 0, 0, []), (21, .ifCond .ne 17, 19, 0, []), (24, .iload 4, 0, 0, []), (26, .iconst 0, 0, 0, []), (27, .iconst 1, 0, 0, []), (28, .invokestatic 97, 146, 0, []), (31, .ifCond .ne 7, 19, 0, []), (34, .bipush (-2), 0, 0, []), (36, .istore 5, 0, 0, []), (38, .iload 5, 0, 0, []), (40, .ifCond .eq 10, 25, 0, []), (43, .aload_n 0, 0, 0, []), (44, .iload 5, 0, 0, []), (46, .invokevirtual 86, 144, 0, []), (49, .ireturn, 0, 0, []), (50, .aload_n 0, 0, 0, []), (51, .getfield 25, 6, 5, []), (54, .iload_n 1, 0, 0, []), (55, .iaload, 0, 0, []), (56, .istore 6, 0, 0, []), (58, .aload_n 0, 0, 0, []), (59, .getfield 25, 6, 5, []), (62, .iload_n 2, 0, 0, []), (63, .iaload, 0, 0, []), (64, .istore 7, 0, 0, []), (66, .aload_n 0, 0, 0, []), (67, .getfield 25, 6, 5, []), (70, .iload_n 1, 0, 0, []), (71, .iconst 1, 0, 0, []), (72, .iload_n 2, 0, 0, []), (73, .ishl, 0, 0, []), (74, .iastore, 0, 0, []), (75, .aload_n 0, 0, 0, []), (76, .getfield 25, 6, 5, []), (79, .iload_n 2, 0, 0, []), (80, .iconst 1, 0, 0, []), (81, .iload_n 1, 0, 0, []), (82, .ishl, 0, 0, []), (83, .iastore, 0, 0, []), (84, .aload_n 0, 0, 0, []), (85, .iload_n 3, 0, 0, []), (86, .invokevirtual 190, 187, 0, []), (89, .aload_n 0, 0, 0, []), (90, .getfield 25, 6, 5, []), (93, .iload_n 1, 0, 0, []), (94, .iload 6, 0, 0, []), (96, .iastore, 0, 0, []), (97, .aload_n 0, 0, 0, []), (98, .getfield 25, 6, 5, []), (101, .iload_n 2, 0, 0, []), (102, .iload 7, 0, 0, []), (104, .iastore, 0, 0, []), (105, .iconst 0, 0, 0, []), (106, .istore 8, 0, 0, []), (108, .iconst 0, 0, 0, []), (109, .istore 9, 0, 0, []), (111, .iload 9, 0, 0, []), (113, .iload_n 3, 0, 0, []), (114, .if_icmp .gt 55, 94, 0, []), (117, .aload_n 0, 0, 0, []), (118, .iload 9, 0, 0, []), (120, .iload_n 1, 0, 0, []), (121, .invokevirtual 194, 189, 0, []), (124, .aload_n 0, 0, 0, []), (125, .iload 9, 0, 0, []), (127, .iload_n 2, 0, 0, []), (128, .invokevirtual 194, 189, 0, []), (131, .invokestatic 197, 150, 0, []), (134, .iload 8, 0, 0, []), (136, .if_icmp .le 23, 90, 0, []), (139, .aload_n 0, 0, 0, []), (140, .iload 9, 0, 0, []), (142, .iload_n 1, 0, 0, []), (143, .invokevirtual 194, 189, 0, []), (146, .aload_n 0, 0, 0, []), (147, .iload 9, 0, 0, []), (149, .iload_n 2, 0, 0, []), (150, .invokevirtual 194, 189, 0, []), (153, .invokestatic 197, 150, 0, []), (156, .goto 5, 91, 0, []), (159, .iload 8, 0, 0, []), (161, .istore 8, 0, 0, []), (163, .iinc 9 1, 0, 0, []), (166, .goto (-55), 66, 0, []), (169, .iload 4, 0, 0, []), (171, .ifCond .ne 21, 106, 0, []), (174, .aload_n 0, 0, 0, []), (175, .iload_n 3, 0, 0, []), (176, .iload_n 1, 0, 0, []), (177, .invokevirtual 194, 189, 0, []), (180, .aload_n 0, 0, 0, []), (181, .iload_n 3, 0, 0, []), (182, .iload_n 2, 0, 0, []), (183, .invokevirtual 194, 189, 0, []), (186, .invokestatic 197, 150, 0, []), (189, .goto 5, 107, 0, []), (192, .iload 8, 0, 0, []), (194, .ireturn, 0, 0, [])]
def eX7_sisters : ME := (yX7_sisters, cX7_sisters, 10, (some .int), { frames := 5, cells := 0, slots := 0, locals := 111 }, 5, 6, kX7_sisters)
def kX7_believesWith : List EI := [(0, .aload_n 0, 0, 0, []), (1, .getfield 19, 6, 3, []), (4, .iload_n 1, 0, 0, []), (5, .iaload, 0, 0, []), (6, .istore_n 3, 0, 0, []), (7, .aload_n 0, 0, 0, []), (8, .getfield 19, 6, 3, []), (11, .iload_n 1, 0, 0, []), (12, .iload_n 2, 0, 0, []), (13, .iastore, 0, 0, []), (14, .aload_n 0, 0, 0, []), (15, .iload_n 1, 0, 0, []), (16, .aload_n 0, 0, 0, []), (17, .getfield 25, 6, 5, []), (20, .iload_n 1, 0, 0, []), (21, .iaload, 0, 0, []), (22, .invokevirtual 175, 174, 0, []), (25, .istore 4, 0, 0, []), (27, .aload_n 0, 0, 0, []), (28, .getfield 19, 6, 3, []), (31, .iload_n 1, 0, 0, []), (32, .iload_n 3, 0, 0, []), (33, .iastore, 0, 0, []), (34, .iload 4, 0, 0, []), (36, .ireturn, 0, 0, [])]
def eX7_believesWith : ME := (yX7_believesWith, cX7_believesWith, 5, (some .int), { frames := 3, cells := 0, slots := 0, locals := 66 }, 3, 6, kX7_believesWith)
def kX7_cheat : List EI := [(0, .aload_n 0, 0, 0, []), (1, .iload_n 1, 0, 0, []), (2, .invokevirtual 75, 151, 0, []), (5, .ifCond .ne 7, 6, 0, []), (8, .iconst (-1), 0, 0, []), (9, .goto 10, 10, 0, []), (12, .iload_n 2, 0, 0, []), (13, .iconst 0, 0, 0, []), (14, .bipush 99, 0, 0, []), (16, .invokestatic 79, 147, 0, []), (19, .istore 4, 0, 0, []), (21, .iload 4, 0, 0, []), (23, .ifCond .ne 34, 29, 0, []), (26, .iload_n 3, 0, 0, []), (27, .iconst 0, 0, 0, []), (28, .iconst 1, 0, 0, []), (29, .invokestatic 97, 146, 0, []), (32, .ifCond .ne 8, 20, 0, []), (35, .bipush (-2), 0, 0, []), (37, .goto 18, 28, 0, []), (40, .aload_n 0, 0, 0, []), (41, .getfield 25, 6, 5, []), (44, .iload_n 1, 0, 0, []), (45, .iaload, 0, 0, []), (46, .ifCond .ne 8, 27, 0, []), (49, .bipush (-3), 0, 0, []), (51, .goto 4, 28, 0, []), (54, .iconst 0, 0, 0, []), (55, .istore 4, 0, 0, []), (57, .iload 4, 0, 0, []), (59, .ifCond .eq 10, 35, 0, []), (62, .aload_n 0, 0, 0, []), (63, .iload 4, 0, 0, []), (65, .invokevirtual 86, 144, 0, []), (68, .ireturn, 0, 0, []), (69, .iconst 0, 0, 0, []), (70, .istore 5, 0, 0, []), (72, .bipush (-9), 0, 0, []), (74, .istore 6, 0, 0, []), (76, .bipush 99, 0, 0, []), (78, .istore 7, 0, 0, []), (80, .iload 7, 0, 0, []), (82, .ifCond .lt 30, 55, 0, []), (85, .aload_n 0, 0, 0, []), (86, .iload_n 1, 0, 0, []), (87, .iload 7, 0, 0, []), (89, .invokevirtual 230, 210, 0, []), (92, .iload_n 2, 0, 0, []), (93, .if_icmp .eq 6, 50, 0, []), (96, .goto 10, 53, 0, []), (99, .iinc 5 1, 0, 0, []), (102, .iload 7, 0, 0, []), (104, .istore 6, 0, 0, []), (106, .iinc 7 (-1), 0, 0, []), (109, .goto (-29), 41, 0, []), (112, .iload_n 3, 0, 0, []), (113, .ifCond .ne 8, 59, 0, []), (116, .iload 5, 0, 0, []), (118, .goto 5, 60, 0, []), (121, .iload 6, 0, 0, []), (123, .ireturn, 0, 0, [])]
def eX7_cheat : ME := (yX7_cheat, cX7_cheat, 8, (some .int), { frames := 4, cells := 0, slots := 0, locals := 90 }, 4, 6, kX7_cheat)
def kX7_barber : List EI := [(0, .aload_n 0, 0, 0, []), (1, .iload_n 1, 0, 0, []), (2, .invokevirtual 75, 151, 0, []), (5, .ifCond .ne 7, 6, 0, []), (8, .iconst (-1), 0, 0, []), (9, .goto 10, 10, 0, []), (12, .iload_n 2, 0, 0, []), (13, .iconst 0, 0, 0, []), (14, .bipush 99, 0, 0, []), (16, .invokestatic 79, 147, 0, []), (19, .istore_n 3, 0, 0, []), (20, .iload_n 3, 0, 0, []), (21, .ifCond .ne 15, 20, 0, []), (24, .aload_n 0, 0, 0, []), (25, .getfield 25, 6, 5, []), (28, .iload_n 1, 0, 0, []), (29, .iaload, 0, 0, []), (30, .ifCond .ne 6, 20, 0, []), (33, .bipush (-3), 0, 0, []), (35, .istore_n 3, 0, 0, []), (36, .iload_n 3, 0, 0, []), (37, .ifCond .eq 9, 26, 0, []), (40, .aload_n 0, 0, 0, []), (41, .iload_n 3, 0, 0, []), (42, .invokevirtual 86, 144, 0, []), (45, .ireturn, 0, 0, []), (46, .bipush (-9), 0, 0, []), (48, .istore 4, 0, 0, []), (50, .iconst 0, 0, 0, []), (51, .istore 5, 0, 0, []), (53, .iload 5, 0, 0, []), (55, .bipush 99, 0, 0, []), (57, .if_icmp .gt 49, 55, 0, []), (60, .iload 5, 0, 0, []), (62, .aload_n 0, 0, 0, []), (63, .getfield 19, 6, 3, []), (66, .iload_n 1, 0, 0, []), (67, .iaload, 0, 0, []), (68, .invokestatic 197, 150, 0, []), (71, .istore 6, 0, 0, []), (73, .aload_n 0, 0, 0, []), (74, .iload_n 1, 0, 0, []), (75, .iload 5, 0, 0, []), (77, .invokevirtual 230, 210, 0, []), (80, .iload_n 2, 0, 0, []), (81, .if_icmp .lt 19, 53, 0, []), (84, .iload 4, 0, 0, []), (86, .ifCond .lt 10, 51, 0, []), (89, .iload 6, 0, 0, []), (91, .iload 4, 0, 0, []), (93, .if_icmp .ge 7, 53, 0, []), (96, .iload 6, 0, 0, []), (98, .istore 4, 0, 0, []), (100, .iinc 5 1, 0, 0, []), (103, .goto (-50), 30, 0, []), (106, .iload 4, 0, 0, []), (108, .ireturn, 0, 0, [])]
def eX7_barber : ME := (yX7_barber, cX7_barber, 7, (some .int), { frames := 4, cells := 0, slots := 0, locals := 90 }, 3, 6, kX7_barber)
def kX7_fits : List EI := [(0, .iconst 0, 0, 0, []), (1, .istore_n 2, 0, 0, []), (2, .iload_n 2, 0, 0, []), (3, .aload_n 0, 0, 0, []), (4, .getfield 233, 6, 25, []), (7, .if_icmp .ge 37, 25, 0, []), (10, .aload_n 0, 0, 0, []), (11, .getfield 55, 6, 24, []), (14, .iload_n 2, 0, 0, []), (15, .iaload, 0, 0, []), (16, .bipush 99, 0, 0, []), (18, .if_icmp .eq 20, 23, 0, []), (21, .aload_n 0, 0, 0, []), (22, .iload_n 2, 0, 0, []), (23, .iload_n 1, 0, 0, []), (24, .invokevirtual 168, 173, 0, []), (27, .aload_n 0, 0, 0, []), (28, .getfield 55, 6, 24, []), (31, .iload_n 2, 0, 0, []), (32, .iaload, 0, 0, []), (33, .if_icmp .eq 5, 23, 0, []), (36, .iconst 0, 0, 0, []), (37, .ireturn, 0, 0, []), (38, .iinc 2 1, 0, 0, []), (41, .goto (-39), 2, 0, []), (44, .iconst 1, 0, 0, []), (45, .ireturn, 0, 0, [])]
def eX7_fits : ME := (yX7_fits, cX7_fits, 3, (some .boolean), { frames := 2, cells := 0, slots := 0, locals := 42 }, 2, 6, kX7_fits)
def kX7_thief : List EI := [(0, .iload_n 1, 0, 0, []), (1, .iconst 0, 0, 0, []), (2, .iconst 2, 0, 0, []), (3, .invokestatic 97, 146, 0, []), (6, .ifCond .ne 8, 7, 0, []), (9, .bipush (-2), 0, 0, []), (11, .goto 20, 15, 0, []), (14, .aload_n 0, 0, 0, []), (15, .getfield 233, 6, 25, []), (18, .aload_n 0, 0, 0, []), (19, .getfield 70, 6, 8, []), (22, .if_icmp .le 8, 14, 0, []), (25, .bipush (-3), 0, 0, []), (27, .goto 4, 15, 0, []), (30, .iconst 0, 0, 0, []), (31, .istore_n 2, 0, 0, []), (32, .iload_n 2, 0, 0, []), (33, .ifCond .eq 9, 22, 0, []), (36, .aload_n 0, 0, 0, []), (37, .iload_n 2, 0, 0, []), (38, .invokevirtual 86, 144, 0, []), (41, .ireturn, 0, 0, []), (42, .iconst 0, 0, 0, []), (43, .istore_n 3, 0, 0, []), (44, .bipush (-9), 0, 0, []), (46, .istore 4, 0, 0, []), (48, .iconst 0, 0, 0, []), (49, .istore 5, 0, 0, []), (51, .bipush 99, 0, 0, []), (53, .istore 6, 0, 0, []), (55, .iload 6, 0, 0, []), (57, .ifCond .lt 71, 64, 0, []), (60, .aload_n 0, 0, 0, []), (61, .iload 6, 0, 0, []), (63, .invokevirtual 236, 213, 0, []), (66, .ifCond .ne 6, 37, 0, []), (69, .goto 53, 62, 0, []), (72, .iinc 3 1, 0, 0, []), (75, .iload 6, 0, 0, []), (77, .istore 4, 0, 0, []), (79, .iconst 0, 0, 0, []), (80, .istore 7, 0, 0, []), (82, .iload 7, 0, 0, []), (84, .aload_n 0, 0, 0, []), (85, .getfield 70, 6, 8, []), (88, .if_icmp .ge 34, 62, 0, []), (91, .iload 5, 0, 0, []), (93, .aload_n 0, 0, 0, []), (94, .getfield 19, 6, 3, []), (97, .iload 7, 0, 0, []), (99, .iaload, 0, 0, []), (100, .iload 6, 0, 0, []), (102, .if_icmp .ne 10, 57, 0, []), (105, .iconst 1, 0, 0, []), (106, .iload 7, 0, 0, []), (108, .ishl, 0, 0, []), (109, .goto 4, 58, 0, []), (112, .iconst 0, 0, 0, []), (113, .ior, 0, 0, []), (114, .istore 5, 0, 0, []), (116, .iinc 7 1, 0, 0, []), (119, .goto (-37), 42, 0, []), (122, .iinc 6 (-1), 0, 0, []), (125, .goto (-70), 30, 0, []), (128, .iload_n 1, 0, 0, []), (129, .ifCond .ne 7, 68, 0, []), (132, .iload_n 3, 0, 0, []), (133, .goto 15, 74, 0, []), (136, .iload_n 1, 0, 0, []), (137, .iconst 1, 0, 0, []), (138, .if_icmp .ne 8, 73, 0, []), (141, .iload 4, 0, 0, []), (143, .goto 5, 74, 0, []), (146, .iload 5, 0, 0, []), (148, .ireturn, 0, 0, [])]
def eX7_thief : ME := (yX7_thief, cX7_thief, 8, (some .int), { frames := 3, cells := 0, slots := 0, locals := 64 }, 2, 6, kX7_thief)
def kX7_kindsBy : List EI := [(0, .iconst 0, 0, 0, []), (1, .istore_n 2, 0, 0, []), (2, .iconst 0, 0, 0, []), (3, .istore_n 3, 0, 0, []), (4, .iload_n 3, 0, 0, []), (5, .bipush 99, 0, 0, []), (7, .if_icmp .gt 16, 14, 0, []), (10, .aload_n 0, 0, 0, []), (11, .getfield 58, 6, 26, []), (14, .iload_n 3, 0, 0, []), (15, .iconst 0, 0, 0, []), (16, .iastore, 0, 0, []), (17, .iinc 3 1, 0, 0, []), (20, .goto (-16), 4, 0, []), (23, .iconst 0, 0, 0, []), (24, .istore_n 3, 0, 0, []), (25, .iload_n 3, 0, 0, []), (26, .bipush 99, 0, 0, []), (28, .if_icmp .gt 48, 46, 0, []), (31, .aload_n 0, 0, 0, []), (32, .iload_n 3, 0, 0, []), (33, .invokevirtual 236, 213, 0, []), (36, .ifCond .ne 6, 24, 0, []), (39, .goto 31, 44, 0, []), (42, .iload_n 2, 0, 0, []), (43, .iconst 1, 0, 0, []), (44, .aload_n 0, 0, 0, []), (45, .getfield 58, 6, 26, []), (48, .aload_n 0, 0, 0, []), (49, .iload_n 1, 0, 0, []), (50, .iload_n 3, 0, 0, []), (51, .invokevirtual 168, 173, 0, []), (54, .iaload, 0, 0, []), (55, .isub, 0, 0, []), (56, .iadd, 0, 0, []), (57, .istore_n 2, 0, 0, []), (58, .aload_n 0, 0, 0, []), (59, .getfield 58, 6, 26, []), (62, .aload_n 0, 0, 0, []), (63, .iload_n 1, 0, 0, []), (64, .iload_n 3, 0, 0, []), (65, .invokevirtual 168, 173, 0, []), (68, .iconst 1, 0, 0, []), (69, .iastore, 0, 0, []), (70, .iinc 3 1, 0, 0, []), (73, .goto (-48), 16, 0, []), (76, .iload_n 2, 0, 0, []), (77, .ireturn, 0, 0, [])]
def eX7_kindsBy : ME := (yX7_kindsBy, cX7_kindsBy, 4, (some .int), { frames := 3, cells := 0, slots := 0, locals := 64 }, 2, 6, kX7_kindsBy)
def kX7_tellsMost : List EI := [(0, .iload_n 1, 0, 0, []), (1, .iconst 0, 0, 0, []), (2, .iconst 1, 0, 0, []), (3, .invokestatic 97, 146, 0, []), (6, .ifCond .ne 8, 7, 0, []), (9, .bipush (-2), 0, 0, []), (11, .goto 27, 18, 0, []), (14, .aload_n 0, 0, 0, []), (15, .getfield 233, 6, 25, []), (18, .aload_n 0, 0, 0, []), (19, .getfield 70, 6, 8, []), (22, .if_icmp .gt 10, 15, 0, []), (25, .aload_n 0, 0, 0, []), (26, .getfield 70, 6, 8, []), (29, .ifCond .ne 8, 17, 0, []), (32, .bipush (-3), 0, 0, []), (34, .goto 4, 18, 0, []), (37, .iconst 0, 0, 0, []), (38, .istore_n 2, 0, 0, []), (39, .iload_n 2, 0, 0, []), (40, .ifCond .eq 9, 25, 0, []), (43, .aload_n 0, 0, 0, []), (44, .iload_n 2, 0, 0, []), (45, .invokevirtual 86, 144, 0, []), (48, .ireturn, 0, 0, []), (49, .iconst 0, 0, 0, []), (50, .istore_n 3, 0, 0, []), (51, .iconst 1, 0, 0, []), (52, .istore 4, 0, 0, []), (54, .iload 4, 0, 0, []), (56, .aload_n 0, 0, 0, []), (57, .getfield 70, 6, 8, []), (60, .if_icmp .ge 30, 46, 0, []), (63, .aload_n 0, 0, 0, []), (64, .iload 4, 0, 0, []), (66, .invokevirtual 239, 215, 0, []), (69, .aload_n 0, 0, 0, []), (70, .iload_n 3, 0, 0, []), (71, .invokevirtual 239, 215, 0, []), (74, .if_icmp .le 8, 42, 0, []), (77, .iload 4, 0, 0, []), (79, .goto 4, 43, 0, []), (82, .iload_n 3, 0, 0, []), (83, .istore_n 3, 0, 0, []), (84, .iinc 4 1, 0, 0, []), (87, .goto (-33), 29, 0, []), (90, .aload_n 0, 0, 0, []), (91, .iload_n 3, 0, 0, []), (92, .invokevirtual 239, 215, 0, []), (95, .istore 4, 0, 0, []), (97, .iload 4, 0, 0, []), (99, .ifCond .ne 8, 54, 0, []), (102, .bipush (-9), 0, 0, []), (104, .goto 13, 59, 0, []), (107, .iload_n 1, 0, 0, []), (108, .ifCond .ne 7, 58, 0, []), (111, .iload_n 3, 0, 0, []), (112, .goto 5, 59, 0, []), (115, .iload 4, 0, 0, []), (117, .ireturn, 0, 0, [])]
def eX7_tellsMost : ME := (yX7_tellsMost, cX7_tellsMost, 5, (some .int), { frames := 4, cells := 0, slots := 0, locals := 87 }, 2, 6, kX7_tellsMost)
def kX7_findPhotos : List EI := [(0, .aload_n 0, 0, 0, []), (1, .invokevirtual 215, 154, 0, []), (4, .istore_n 1, 0, 0, []), (5, .iload_n 1, 0, 0, []), (6, .ifCond .lt 127, 74, 0, []), (9, .iload_n 1, 0, 0, []), (10, .invokestatic 172, 149, 0, []), (13, .istore_n 2, 0, 0, []), (14, .aload_n 0, 0, 0, []), (15, .getfield 61, 6, 27, []), (18, .iload_n 1, 0, 0, []), (19, .iload_n 2, 0, 0, []), (20, .aload_n 0, 0, 0, []), (21, .getfield 70, 6, 8, []), (24, .if_icmp .ne 7, 17, 0, []), (27, .iconst 0, 0, 0, []), (28, .goto 5, 18, 0, []), (31, .ldc 74, 1000000000, 0, []), (33, .iastore, 0, 0, []), (34, .iconst 0, 0, 0, []), (35, .istore_n 3, 0, 0, []), (36, .iload_n 3, 0, 0, []), (37, .aload_n 0, 0, 0, []), (38, .getfield 70, 6, 8, []), (41, .if_icmp .ge 86, 72, 0, []), (44, .iload_n 2, 0, 0, []), (45, .aload_n 0, 0, 0, []), (46, .getfield 70, 6, 8, []), (49, .if_icmp .ge 78, 72, 0, []), (52, .iload_n 1, 0, 0, []), (53, .iload_n 3, 0, 0, []), (54, .invokestatic 165, 148, 0, []), (57, .ifCond .eq 8, 35, 0, []), (60, .ldc 74, 1000000000, 0, []), (62, .goto 29, 53, 0, []), (65, .aload_n 0, 0, 0, []), (66, .getfield 19, 6, 3, []), (69, .iload_n 2, 0, 0, []), (70, .iaload, 0, 0, []), (71, .aload_n 0, 0, 0, []), (72, .getfield 55, 6, 24, []), (75, .iload_n 3, 0, 0, []), (76, .iaload, 0, 0, []), (77, .invokestatic 197, 150, 0, []), (80, .aload_n 0, 0, 0, []), (81, .getfield 61, 6, 27, []), (84, .iload_n 1, 0, 0, []), (85, .iconst 1, 0, 0, []), (86, .iload_n 3, 0, 0, []), (87, .ishl, 0, 0, []), (88, .ior, 0, 0, []), (89, .iaload, 0, 0, []), (90, .iadd, 0, 0, []), (91, .istore 4, 0, 0, []), (93, .aload_n 0, 0, 0, []), (94, .getfield 61, 6, 27, []), (97, .iload_n 1, 0, 0, []), (98, .iload 4, 0, 0, []), (100, .aload_n 0, 0, 0, []), (101, .getfield 61, 6, 27, []), (104, .iload_n 1, 0, 0, []), (105, .iaload, 0, 0, []), (106, .if_icmp .ge 8, 65, 0, []), (109, .iload 4, 0, 0, []), (111, .goto 9, 69, 0, []), (114, .aload_n 0, 0, 0, []), (115, .getfield 61, 6, 27, []), (118, .iload_n 1, 0, 0, []), (119, .iaload, 0, 0, []), (120, .iastore, 0, 0, []), (121, .iinc 3 1, 0, 0, []), (124, .goto (-88), 21, 0, []), (127, .iinc 1 (-1), 0, 0, []), (130, .goto (-125), 3, 0, []), (133, .return_, 0, 0, [])]
def eX7_findPhotos : ME := (yX7_findPhotos, cX7_findPhotos, 5, none, { frames := 1, cells := 0, slots := 0, locals := 22 }, 1, 6, kX7_findPhotos)
def kX7_photoOf : List EI := [(0, .iconst 0, 0, 0, []), (1, .istore_n 3, 0, 0, []), (2, .iload_n 2, 0, 0, []), (3, .iload_n 3, 0, 0, []), (4, .invokestatic 165, 148, 0, []), (7, .ifCond .ne 38, 29, 0, []), (10, .aload_n 0, 0, 0, []), (11, .getfield 19, 6, 3, []), (14, .iload_n 1, 0, 0, []), (15, .iaload, 0, 0, []), (16, .aload_n 0, 0, 0, []), (17, .getfield 55, 6, 24, []), (20, .iload_n 3, 0, 0, []), (21, .iaload, 0, 0, []), (22, .invokestatic 197, 150, 0, []), (25, .aload_n 0, 0, 0, []), (26, .getfield 61, 6, 27, []), (29, .iload_n 2, 0, 0, []), (30, .iconst 1, 0, 0, []), (31, .iload_n 3, 0, 0, []), (32, .ishl, 0, 0, []), (33, .ior, 0, 0, []), (34, .iaload, 0, 0, []), (35, .iadd, 0, 0, []), (36, .aload_n 0, 0, 0, []), (37, .getfield 61, 6, 27, []), (40, .iload_n 2, 0, 0, []), (41, .iaload, 0, 0, []), (42, .if_icmp .eq 9, 31, 0, []), (45, .iinc 3 1, 0, 0, []), (48, .goto (-46), 2, 0, []), (51, .iload_n 3, 0, 0, []), (52, .ireturn, 0, 0, [])]
def eX7_photoOf : ME := (yX7_photoOf, cX7_photoOf, 4, (some .int), { frames := 1, cells := 0, slots := 0, locals := 21 }, 3, 6, kX7_photoOf)
def kX7_photos : List EI := [(0, .iload_n 1, 0, 0, []), (1, .iconst (-1), 0, 0, []), (2, .if_icmp .ge 8, 5, 0, []), (5, .bipush (-4), 0, 0, []), (7, .goto 20, 13, 0, []), (10, .aload_n 0, 0, 0, []), (11, .getfield 233, 6, 25, []), (14, .aload_n 0, 0, 0, []), (15, .getfield 70, 6, 8, []), (18, .if_icmp .eq 8, 12, 0, []), (21, .bipush (-3), 0, 0, []), (23, .goto 4, 13, 0, []), (26, .iconst 0, 0, 0, []), (27, .istore_n 2, 0, 0, []), (28, .iload_n 2, 0, 0, []), (29, .ifCond .eq 9, 20, 0, []), (32, .aload_n 0, 0, 0, []), (33, .iload_n 2, 0, 0, []), (34, .invokevirtual 86, 144, 0, []), (37, .ireturn, 0, 0, []), (38, .aload_n 0, 0, 0, []), (39, .invokevirtual 242, 217, 0, []), (42, .iload_n 1, 0, 0, []), (43, .ifCond .ge 10, 29, 0, []), (46, .aload_n 0, 0, 0, []), (47, .getfield 61, 6, 27, []), (50, .iconst 0, 0, 0, []), (51, .iaload, 0, 0, []), (52, .ireturn, 0, 0, []), (53, .iload_n 1, 0, 0, []), (54, .aload_n 0, 0, 0, []), (55, .getfield 70, 6, 8, []), (58, .if_icmp .lt 6, 35, 0, []), (61, .bipush (-9), 0, 0, []), (63, .ireturn, 0, 0, []), (64, .iconst 0, 0, 0, []), (65, .istore_n 3, 0, 0, []), (66, .iconst 0, 0, 0, []), (67, .istore 4, 0, 0, []), (69, .iload 4, 0, 0, []), (71, .iload_n 1, 0, 0, []), (72, .if_icmp .ge 21, 53, 0, []), (75, .iload_n 3, 0, 0, []), (76, .iconst 1, 0, 0, []), (77, .aload_n 0, 0, 0, []), (78, .iload 4, 0, 0, []), (80, .iload_n 3, 0, 0, []), (81, .invokevirtual 245, 218, 0, []), (84, .ishl, 0, 0, []), (85, .ior, 0, 0, []), (86, .istore_n 3, 0, 0, []), (87, .iinc 4 1, 0, 0, []), (90, .goto (-21), 39, 0, []), (93, .aload_n 0, 0, 0, []), (94, .iload_n 1, 0, 0, []), (95, .iload_n 3, 0, 0, []), (96, .invokevirtual 245, 218, 0, []), (99, .ireturn, 0, 0, [])]
def eX7_photos : ME := (yX7_photos, cX7_photos, 5, (some .int), { frames := 2, cells := 0, slots := 0, locals := 46 }, 2, 6, kX7_photos)
def kX7_glanceOf : List EI := [(0, .iload_n 0, 0, 0, []), (1, .ifCond .ne 7, 4, 0, []), (4, .iconst 0, 0, 0, []), (5, .goto 23, 15, 0, []), (8, .iload_n 0, 0, 0, []), (9, .iconst 1, 0, 0, []), (10, .if_icmp .ne 7, 9, 0, []), (13, .iconst 1, 0, 0, []), (14, .goto 14, 15, 0, []), (17, .iload_n 0, 0, 0, []), (18, .iconst 2, 0, 0, []), (19, .if_icmp .ne 7, 14, 0, []), (22, .iconst 3, 0, 0, []), (23, .goto 5, 15, 0, []), (26, .bipush 7, 0, 0, []), (28, .ireturn, 0, 0, [])]
def eX7_glanceOf : ME := (yX7_glanceOf, cX7_glanceOf, 1, (some .int), { frames := 0, cells := 0, slots := 0, locals := 0 }, 1, 99, kX7_glanceOf)
def kX7_findWays : List EI := [(0, .iconst 0, 0, 0, []), (1, .istore_n 3, 0, 0, []), (2, .iload_n 3, 0, 0, []), (3, .bipush 8, 0, 0, []), (5, .if_icmp .ge 46, 27, 0, []), (8, .aload_n 0, 0, 0, []), (9, .getfield 64, 6, 28, []), (12, .iload_n 3, 0, 0, []), (13, .iload_n 3, 0, 0, []), (14, .iload_n 1, 0, 0, []), (15, .if_icmp .ne 27, 23, 0, []), (18, .iload_n 2, 0, 0, []), (19, .ifCond .eq 7, 15, 0, []), (22, .iconst 0, 0, 0, []), (23, .goto 21, 24, 0, []), (26, .sipush 1000, 0, 0, []), (29, .aload_n 0, 0, 0, []), (30, .getfield 31, 6, 7, []), (33, .iload_n 3, 0, 0, []), (34, .iaload, 0, 0, []), (35, .invokestatic 248, 220, 0, []), (38, .imul, 0, 0, []), (39, .goto 5, 24, 0, []), (42, .ldc 74, 1000000000, 0, []), (44, .iastore, 0, 0, []), (45, .iinc 3 1, 0, 0, []), (48, .goto (-46), 2, 0, []), (51, .iconst 0, 0, 0, []), (52, .istore_n 3, 0, 0, []), (53, .iload_n 3, 0, 0, []), (54, .bipush 8, 0, 0, []), (56, .if_icmp .ge 121, 92, 0, []), (59, .iconst 0, 0, 0, []), (60, .istore 4, 0, 0, []), (62, .iload 4, 0, 0, []), (64, .bipush 64, 0, 0, []), (66, .if_icmp .ge 105, 90, 0, []), (69, .iload 4, 0, 0, []), (71, .bipush 8, 0, 0, []), (73, .idiv, 0, 0, []), (74, .istore 5, 0, 0, []), (76, .iload 4, 0, 0, []), (78, .bipush 8, 0, 0, []), (80, .irem, 0, 0, []), (81, .istore 6, 0, 0, []), (83, .aload_n 0, 0, 0, []), (84, .getfield 64, 6, 28, []), (87, .iload 5, 0, 0, []), (89, .iaload, 0, 0, []), (90, .iconst 1, 0, 0, []), (91, .iadd, 0, 0, []), (92, .iload_n 2, 0, 0, []), (93, .ifCond .eq 7, 55, 0, []), (96, .iconst 0, 0, 0, []), (97, .goto 17, 62, 0, []), (100, .sipush 1000, 0, 0, []), (103, .aload_n 0, 0, 0, []), (104, .getfield 31, 6, 7, []), (107, .iload 6, 0, 0, []), (109, .iaload, 0, 0, []), (110, .invokestatic 248, 220, 0, []), (113, .imul, 0, 0, []), (114, .iadd, 0, 0, []), (115, .istore 7, 0, 0, []), (117, .aload_n 0, 0, 0, []), (118, .getfield 28, 6, 6, []), (121, .iload 5, 0, 0, []), (123, .iaload, 0, 0, []), (124, .iload 6, 0, 0, []), (126, .invokestatic 165, 148, 0, []), (129, .ifCond .eq 36, 88, 0, []), (132, .aload_n 0, 0, 0, []), (133, .getfield 64, 6, 28, []), (136, .iload 5, 0, 0, []), (138, .iaload, 0, 0, []), (139, .ldc 74, 1000000000, 0, []), (141, .if_icmp .ge 24, 88, 0, []), (144, .iload 7, 0, 0, []), (146, .aload_n 0, 0, 0, []), (147, .getfield 64, 6, 28, []), (150, .iload 6, 0, 0, []), (152, .iaload, 0, 0, []), (153, .if_icmp .ge 12, 88, 0, []), (156, .aload_n 0, 0, 0, []), (157, .getfield 64, 6, 28, []), (160, .iload 6, 0, 0, []), (162, .iload 7, 0, 0, []), (164, .iastore, 0, 0, []), (165, .iinc 4 1, 0, 0, []), (168, .goto (-106), 34, 0, []), (171, .iinc 3 1, 0, 0, []), (174, .goto (-121), 29, 0, []), (177, .return_, 0, 0, [])]
def eX7_findWays : ME := (yX7_findWays, cX7_findWays, 8, none, { frames := 1, cells := 0, slots := 0, locals := 21 }, 3, 6, kX7_findWays)
def kX7_steps : List EI := [(0, .iload_n 1, 0, 0, []), (1, .invokestatic 118, 153, 0, []), (4, .ifCond .eq 10, 6, 0, []), (7, .iload_n 2, 0, 0, []), (8, .invokestatic 118, 153, 0, []), (11, .ifCond .ne 9, 10, 0, []), (14, .aload_n 0, 0, 0, []), (15, .iconst (-1), 0, 0, []), (16, .invokevirtual 86, 144, 0, []), (19, .ireturn, 0, 0, []), (20, .aload_n 0, 0, 0, []), (21, .iload_n 1, 0, 0, []), (22, .iconst 1, 0, 0, []), (23, .invokevirtual 251, 221, 0, []), (26, .aload_n 0, 0, 0, []), (27, .getfield 64, 6, 28, []), (30, .iload_n 2, 0, 0, []), (31, .iaload, 0, 0, []), (32, .ldc 74, 1000000000, 0, []), (34, .if_icmp .ne 8, 22, 0, []), (37, .bipush (-9), 0, 0, []), (39, .goto 9, 26, 0, []), (42, .aload_n 0, 0, 0, []), (43, .getfield 64, 6, 28, []), (46, .iload_n 2, 0, 0, []), (47, .iaload, 0, 0, []), (48, .ireturn, 0, 0, [])]
def eX7_steps : ME := (yX7_steps, cX7_steps, 3, (some .int), { frames := 2, cells := 0, slots := 0, locals := 48 }, 3, 6, kX7_steps)
def kX7_glances : List EI := [(0, .iload_n 1, 0, 0, []), (1, .invokestatic 118, 153, 0, []), (4, .ifCond .eq 10, 6, 0, []), (7, .iload_n 2, 0, 0, []), (8, .invokestatic 118, 153, 0, []), (11, .ifCond .ne 7, 8, 0, []), (14, .iconst (-1), 0, 0, []), (15, .goto 18, 16, 0, []), (18, .iload_n 3, 0, 0, []), (19, .iconst 0, 0, 0, []), (20, .iconst 1, 0, 0, []), (21, .invokestatic 97, 146, 0, []), (24, .ifCond .ne 8, 15, 0, []), (27, .bipush (-2), 0, 0, []), (29, .goto 4, 16, 0, []), (32, .iconst 0, 0, 0, []), (33, .istore 4, 0, 0, []), (35, .iload 4, 0, 0, []), (37, .ifCond .eq 10, 23, 0, []), (40, .aload_n 0, 0, 0, []), (41, .iload 4, 0, 0, []), (43, .invokevirtual 86, 144, 0, []), (46, .ireturn, 0, 0, []), (47, .aload_n 0, 0, 0, []), (48, .iload_n 1, 0, 0, []), (49, .iconst 0, 0, 0, []), (50, .invokevirtual 251, 221, 0, []), (53, .aload_n 0, 0, 0, []), (54, .getfield 64, 6, 28, []), (57, .iload_n 2, 0, 0, []), (58, .iaload, 0, 0, []), (59, .ldc 74, 1000000000, 0, []), (61, .if_icmp .ne 8, 35, 0, []), (64, .bipush (-9), 0, 0, []), (66, .goto 30, 50, 0, []), (69, .iload_n 3, 0, 0, []), (70, .ifCond .ne 16, 44, 0, []), (73, .aload_n 0, 0, 0, []), (74, .getfield 64, 6, 28, []), (77, .iload_n 2, 0, 0, []), (78, .iaload, 0, 0, []), (79, .sipush 1000, 0, 0, []), (82, .idiv, 0, 0, []), (83, .goto 13, 50, 0, []), (86, .aload_n 0, 0, 0, []), (87, .getfield 64, 6, 28, []), (90, .iload_n 2, 0, 0, []), (91, .iaload, 0, 0, []), (92, .sipush 1000, 0, 0, []), (95, .irem, 0, 0, []), (96, .ireturn, 0, 0, [])]
def eX7_glances : ME := (yX7_glances, cX7_glances, 5, (some .int), { frames := 2, cells := 0, slots := 0, locals := 48 }, 4, 6, kX7_glances)
def kX7_unseen : List EI := [(0, .iload_n 1, 0, 0, []), (1, .invokestatic 118, 153, 0, []), (4, .ifCond .ne 9, 7, 0, []), (7, .aload_n 0, 0, 0, []), (8, .iconst (-1), 0, 0, []), (9, .invokevirtual 86, 144, 0, []), (12, .ireturn, 0, 0, []), (13, .iconst 1, 0, 0, []), (14, .iload_n 1, 0, 0, []), (15, .ishl, 0, 0, []), (16, .istore_n 2, 0, 0, []), (17, .iconst 0, 0, 0, []), (18, .istore_n 3, 0, 0, []), (19, .iload_n 3, 0, 0, []), (20, .bipush 8, 0, 0, []), (22, .if_icmp .ge 85, 59, 0, []), (25, .iconst 0, 0, 0, []), (26, .istore 4, 0, 0, []), (28, .iload 4, 0, 0, []), (30, .bipush 64, 0, 0, []), (32, .if_icmp .ge 69, 57, 0, []), (35, .iload_n 2, 0, 0, []), (36, .iload_n 2, 0, 0, []), (37, .iload 4, 0, 0, []), (39, .bipush 8, 0, 0, []), (41, .idiv, 0, 0, []), (42, .invokestatic 165, 148, 0, []), (45, .ifCond .eq 47, 52, 0, []), (48, .aload_n 0, 0, 0, []), (49, .getfield 28, 6, 6, []), (52, .iload 4, 0, 0, []), (54, .bipush 8, 0, 0, []), (56, .idiv, 0, 0, []), (57, .iaload, 0, 0, []), (58, .iload 4, 0, 0, []), (60, .bipush 8, 0, 0, []), (62, .irem, 0, 0, []), (63, .invokestatic 165, 148, 0, []), (66, .ifCond .eq 26, 52, 0, []), (69, .aload_n 0, 0, 0, []), (70, .getfield 31, 6, 7, []), (73, .iload 4, 0, 0, []), (75, .bipush 8, 0, 0, []), (77, .irem, 0, 0, []), (78, .iaload, 0, 0, []), (79, .ifCond .ne 13, 52, 0, []), (82, .iconst 1, 0, 0, []), (83, .iload 4, 0, 0, []), (85, .bipush 8, 0, 0, []), (87, .irem, 0, 0, []), (88, .ishl, 0, 0, []), (89, .goto 4, 53, 0, []), (92, .iconst 0, 0, 0, []), (93, .ior, 0, 0, []), (94, .istore_n 2, 0, 0, []), (95, .iinc 4 1, 0, 0, []), (98, .goto (-70), 18, 0, []), (101, .iinc 3 1, 0, 0, []), (104, .goto (-85), 13, 0, []), (107, .iload_n 2, 0, 0, []), (108, .ireturn, 0, 0, [])]
def eX7_unseen : ME := (yX7_unseen, cX7_unseen, 5, (some .int), { frames := 1, cells := 0, slots := 0, locals := 21 }, 2, 6, kX7_unseen)
def kX7_cover : List EI := [(0, .iload_n 1, 0, 0, []), (1, .invokestatic 118, 153, 0, []), (4, .ifCond .eq 10, 6, 0, []), (7, .iload_n 2, 0, 0, []), (8, .invokestatic 118, 153, 0, []), (11, .ifCond .ne 9, 10, 0, []), (14, .aload_n 0, 0, 0, []), (15, .iconst (-1), 0, 0, []), (16, .invokevirtual 86, 144, 0, []), (19, .ireturn, 0, 0, []), (20, .aload_n 0, 0, 0, []), (21, .iload_n 1, 0, 0, []), (22, .iconst 0, 0, 0, []), (23, .invokevirtual 251, 221, 0, []), (26, .aload_n 0, 0, 0, []), (27, .getfield 64, 6, 28, []), (30, .iload_n 2, 0, 0, []), (31, .iaload, 0, 0, []), (32, .sipush 1000, 0, 0, []), (35, .idiv, 0, 0, []), (36, .istore_n 3, 0, 0, []), (37, .bipush (-9), 0, 0, []), (39, .istore 4, 0, 0, []), (41, .iconst 0, 0, 0, []), (42, .istore 5, 0, 0, []), (44, .iload 5, 0, 0, []), (46, .bipush 8, 0, 0, []), (48, .if_icmp .ge 84, 73, 0, []), (51, .aload_n 0, 0, 0, []), (52, .getfield 64, 6, 28, []), (55, .iload_n 2, 0, 0, []), (56, .iaload, 0, 0, []), (57, .ldc 74, 1000000000, 0, []), (59, .if_icmp .ge 73, 73, 0, []), (62, .aload_n 0, 0, 0, []), (63, .getfield 31, 6, 7, []), (66, .iload 5, 0, 0, []), (68, .iaload, 0, 0, []), (69, .istore 6, 0, 0, []), (71, .aload_n 0, 0, 0, []), (72, .getfield 31, 6, 7, []), (75, .iload 5, 0, 0, []), (77, .iconst 0, 0, 0, []), (78, .iastore, 0, 0, []), (79, .aload_n 0, 0, 0, []), (80, .iload_n 1, 0, 0, []), (81, .iconst 0, 0, 0, []), (82, .invokevirtual 251, 221, 0, []), (85, .aload_n 0, 0, 0, []), (86, .getfield 31, 6, 7, []), (89, .iload 5, 0, 0, []), (91, .iload 6, 0, 0, []), (93, .iastore, 0, 0, []), (94, .aload_n 0, 0, 0, []), (95, .getfield 64, 6, 28, []), (98, .iload_n 2, 0, 0, []), (99, .iaload, 0, 0, []), (100, .sipush 1000, 0, 0, []), (103, .idiv, 0, 0, []), (104, .iload_n 3, 0, 0, []), (105, .if_icmp .lt 6, 62, 0, []), (108, .goto 18, 71, 0, []), (111, .iload 5, 0, 0, []), (113, .istore 4, 0, 0, []), (115, .aload_n 0, 0, 0, []), (116, .getfield 64, 6, 28, []), (119, .iload_n 2, 0, 0, []), (120, .iaload, 0, 0, []), (121, .sipush 1000, 0, 0, []), (124, .idiv, 0, 0, []), (125, .istore_n 3, 0, 0, []), (126, .iinc 5 1, 0, 0, []), (129, .goto (-85), 25, 0, []), (132, .iload 4, 0, 0, []), (134, .ireturn, 0, 0, [])]
def eX7_cover : ME := (yX7_cover, cX7_cover, 7, (some .int), { frames := 2, cells := 0, slots := 0, locals := 48 }, 3, 6, kX7_cover)
def kX7_hoursIn : List EI := [(0, .bipush 100, 0, 0, []), (2, .iload_n 1, 0, 0, []), (3, .iload_n 0, 0, 0, []), (4, .iconst 1, 0, 0, []), (5, .isub, 0, 0, []), (6, .imul, 0, 0, []), (7, .isub, 0, 0, []), (8, .ifCond .ge 7, 10, 0, []), (11, .iconst 0, 0, 0, []), (12, .goto 11, 17, 0, []), (15, .bipush 100, 0, 0, []), (17, .iload_n 1, 0, 0, []), (18, .iload_n 0, 0, 0, []), (19, .iconst 1, 0, 0, []), (20, .isub, 0, 0, []), (21, .imul, 0, 0, []), (22, .isub, 0, 0, []), (23, .ireturn, 0, 0, [])]
def eX7_hoursIn : ME := (yX7_hoursIn, cX7_hoursIn, 2, (some .int), { frames := 0, cells := 0, slots := 0, locals := 0 }, 2, 99, kX7_hoursIn)
def kX7_townHas : List EI := [(0, .iconst 0, 0, 0, []), (1, .istore_n 2, 0, 0, []), (2, .iload_n 0, 0, 0, []), (3, .istore_n 3, 0, 0, []), (4, .iload_n 3, 0, 0, []), (5, .ifCond .le 17, 14, 0, []), (8, .iload_n 3, 0, 0, []), (9, .iload_n 1, 0, 0, []), (10, .invokestatic 254, 226, 0, []), (13, .iload_n 2, 0, 0, []), (14, .isub, 0, 0, []), (15, .istore_n 2, 0, 0, []), (16, .iinc 3 (-1), 0, 0, []), (19, .goto (-15), 4, 0, []), (22, .iload_n 2, 0, 0, []), (23, .ireturn, 0, 0, [])]
def eX7_townHas : ME := (yX7_townHas, cX7_townHas, 4, (some .int), { frames := 1, cells := 0, slots := 0, locals := 21 }, 2, 99, kX7_townHas)
def kX7_bargain : List EI := [(0, .iload_n 1, 0, 0, []), (1, .iconst 1, 0, 0, []), (2, .if_icmp .lt 7, 5, 0, []), (5, .iload_n 2, 0, 0, []), (6, .ifCond .ge 8, 7, 0, []), (9, .bipush (-4), 0, 0, []), (11, .goto 21, 16, 0, []), (14, .iload_n 1, 0, 0, []), (15, .bipush 20, 0, 0, []), (17, .if_icmp .gt 9, 13, 0, []), (20, .iload_n 2, 0, 0, []), (21, .bipush 50, 0, 0, []), (23, .if_icmp .le 8, 15, 0, []), (26, .bipush (-6), 0, 0, []), (28, .goto 4, 16, 0, []), (31, .iconst 0, 0, 0, []), (32, .istore_n 3, 0, 0, []), (33, .iload_n 3, 0, 0, []), (34, .ifCond .eq 11, 23, 0, []), (37, .aload_n 0, 0, 0, []), (38, .iload_n 3, 0, 0, []), (39, .invokevirtual 86, 144, 0, []), (42, .goto 8, 26, 0, []), (45, .iload_n 1, 0, 0, []), (46, .iload_n 2, 0, 0, []), (47, .invokestatic 257, 227, 0, []), (50, .ireturn, 0, 0, [])]
def eX7_bargain : ME := (yX7_bargain, cX7_bargain, 4, (some .int), { frames := 2, cells := 0, slots := 0, locals := 44 }, 3, 6, kX7_bargain)
def kX7_strike : List EI := [(0, .iload_n 1, 0, 0, []), (1, .iconst 0, 0, 0, []), (2, .bipush 50, 0, 0, []), (4, .invokestatic 79, 147, 0, []), (7, .istore_n 2, 0, 0, []), (8, .iload_n 2, 0, 0, []), (9, .ifCond .eq 9, 11, 0, []), (12, .aload_n 0, 0, 0, []), (13, .iload_n 2, 0, 0, []), (14, .invokevirtual 86, 144, 0, []), (17, .ireturn, 0, 0, []), (18, .iconst 1, 0, 0, []), (19, .istore_n 3, 0, 0, []), (20, .iconst 2, 0, 0, []), (21, .istore 4, 0, 0, []), (23, .iload 4, 0, 0, []), (25, .bipush 21, 0, 0, []), (27, .if_icmp .ge 30, 31, 0, []), (30, .iload 4, 0, 0, []), (32, .iload_n 1, 0, 0, []), (33, .invokestatic 257, 227, 0, []), (36, .iload_n 3, 0, 0, []), (37, .iload_n 1, 0, 0, []), (38, .invokestatic 257, 227, 0, []), (41, .if_icmp .le 8, 27, 0, []), (44, .iload 4, 0, 0, []), (46, .goto 4, 28, 0, []), (49, .iload_n 3, 0, 0, []), (50, .istore_n 3, 0, 0, []), (51, .iinc 4 1, 0, 0, []), (54, .goto (-31), 15, 0, []), (57, .iload_n 3, 0, 0, []), (58, .ireturn, 0, 0, [])]
def eX7_strike : ME := (yX7_strike, cX7_strike, 5, (some .int), { frames := 2, cells := 0, slots := 0, locals := 44 }, 2, 6, kX7_strike)
def kX7_heardBy : List EI := [(0, .aload_n 0, 0, 0, []), (1, .getfield 25, 6, 5, []), (4, .iload_n 1, 0, 0, []), (5, .iaload, 0, 0, []), (6, .istore_n 2, 0, 0, []), (7, .iconst 0, 0, 0, []), (8, .istore_n 3, 0, 0, []), (9, .iload_n 3, 0, 0, []), (10, .bipush 7, 0, 0, []), (12, .if_icmp .ge 50, 33, 0, []), (15, .iconst 0, 0, 0, []), (16, .istore 4, 0, 0, []), (18, .iload 4, 0, 0, []), (20, .aload_n 0, 0, 0, []), (21, .getfield 70, 6, 8, []), (24, .if_icmp .ge 32, 31, 0, []), (27, .iload_n 2, 0, 0, []), (28, .iload_n 2, 0, 0, []), (29, .iload 4, 0, 0, []), (31, .invokestatic 165, 148, 0, []), (34, .ifCond .eq 13, 26, 0, []), (37, .aload_n 0, 0, 0, []), (38, .getfield 25, 6, 5, []), (41, .iload 4, 0, 0, []), (43, .iaload, 0, 0, []), (44, .goto 4, 27, 0, []), (47, .iconst 0, 0, 0, []), (48, .ior, 0, 0, []), (49, .istore_n 2, 0, 0, []), (50, .iinc 4 1, 0, 0, []), (53, .goto (-35), 12, 0, []), (56, .iinc 3 1, 0, 0, []), (59, .goto (-50), 7, 0, []), (62, .iload_n 2, 0, 0, []), (63, .ireturn, 0, 0, [])]
def eX7_heardBy : ME := (yX7_heardBy, cX7_heardBy, 5, (some .int), { frames := 1, cells := 0, slots := 0, locals := 21 }, 2, 6, kX7_heardBy)
def kX7_echo : List EI := [(0, .aload_n 0, 0, 0, []), (1, .iload_n 1, 0, 0, []), (2, .invokevirtual 75, 151, 0, []), (5, .ifCond .eq 11, 8, 0, []), (8, .aload_n 0, 0, 0, []), (9, .iload_n 1, 0, 0, []), (10, .invokevirtual 260, 230, 0, []), (13, .goto 8, 11, 0, []), (16, .aload_n 0, 0, 0, []), (17, .iconst (-1), 0, 0, []), (18, .invokevirtual 86, 144, 0, []), (21, .ireturn, 0, 0, [])]
def eX7_echo : ME := (yX7_echo, cX7_echo, 2, (some .int), { frames := 2, cells := 0, slots := 0, locals := 45 }, 2, 6, kX7_echo)
def kX7_loops : List EI := [(0, .iload_n 1, 0, 0, []), (1, .iconst 0, 0, 0, []), (2, .iconst 2, 0, 0, []), (3, .invokestatic 97, 146, 0, []), (6, .ifCond .ne 10, 9, 0, []), (9, .aload_n 0, 0, 0, []), (10, .bipush (-2), 0, 0, []), (12, .invokevirtual 86, 144, 0, []), (15, .ireturn, 0, 0, []), (16, .iconst 0, 0, 0, []), (17, .istore_n 2, 0, 0, []), (18, .iconst 0, 0, 0, []), (19, .istore_n 3, 0, 0, []), (20, .iconst 0, 0, 0, []), (21, .istore 4, 0, 0, []), (23, .iconst 0, 0, 0, []), (24, .istore 5, 0, 0, []), (26, .iload 5, 0, 0, []), (28, .aload_n 0, 0, 0, []), (29, .getfield 70, 6, 8, []), (32, .if_icmp .ge 67, 57, 0, []), (35, .iload_n 2, 0, 0, []), (36, .aload_n 0, 0, 0, []), (37, .iload 5, 0, 0, []), (39, .invokevirtual 260, 230, 0, []), (42, .iload 5, 0, 0, []), (44, .invokestatic 165, 148, 0, []), (47, .ifCond .eq 10, 32, 0, []), (50, .iconst 1, 0, 0, []), (51, .iload 5, 0, 0, []), (53, .ishl, 0, 0, []), (54, .goto 4, 33, 0, []), (57, .iconst 0, 0, 0, []), (58, .ior, 0, 0, []), (59, .istore_n 2, 0, 0, []), (60, .iload_n 3, 0, 0, []), (61, .aload_n 0, 0, 0, []), (62, .getfield 25, 6, 5, []), (65, .iload 5, 0, 0, []), (67, .iaload, 0, 0, []), (68, .ifCond .ne 10, 45, 0, []), (71, .iconst 1, 0, 0, []), (72, .iload 5, 0, 0, []), (74, .ishl, 0, 0, []), (75, .goto 4, 46, 0, []), (78, .iconst 0, 0, 0, []), (79, .ior, 0, 0, []), (80, .istore_n 3, 0, 0, []), (81, .iload 4, 0, 0, []), (83, .aload_n 0, 0, 0, []), (84, .getfield 25, 6, 5, []), (87, .iload 5, 0, 0, []), (89, .iaload, 0, 0, []), (90, .ior, 0, 0, []), (91, .istore 4, 0, 0, []), (93, .iinc 5 1, 0, 0, []), (96, .goto (-70), 17, 0, []), (99, .iload_n 1, 0, 0, []), (100, .ifCond .ne 7, 61, 0, []), (103, .iload_n 2, 0, 0, []), (104, .goto 21, 72, 0, []), (107, .iload_n 1, 0, 0, []), (108, .iconst 1, 0, 0, []), (109, .if_icmp .ne 7, 66, 0, []), (112, .iload_n 3, 0, 0, []), (113, .goto 12, 72, 0, []), (116, .aload_n 0, 0, 0, []), (117, .invokevirtual 215, 154, 0, []), (120, .iload 4, 0, 0, []), (122, .iconst (-1), 0, 0, []), (123, .ixor, 0, 0, []), (124, .iand, 0, 0, []), (125, .ireturn, 0, 0, [])]
def eX7_loops : ME := (yX7_loops, cX7_loops, 6, (some .int), { frames := 2, cells := 0, slots := 0, locals := 45 }, 2, 6, kX7_loops)
def kX7_humble : List EI := [(0, .iload_n 1, 0, 0, []), (1, .invokestatic 187, 188, 0, []), (4, .istore_n 2, 0, 0, []), (5, .iload_n 2, 0, 0, []), (6, .ifCond .eq 9, 9, 0, []), (9, .aload_n 0, 0, 0, []), (10, .iload_n 2, 0, 0, []), (11, .invokevirtual 86, 144, 0, []), (14, .ireturn, 0, 0, []), (15, .aload_n 0, 0, 0, []), (16, .iload_n 1, 0, 0, []), (17, .invokevirtual 206, 193, 0, []), (20, .istore_n 3, 0, 0, []), (21, .bipush (-9), 0, 0, []), (23, .istore 4, 0, 0, []), (25, .iconst 0, 0, 0, []), (26, .istore 5, 0, 0, []), (28, .iload 5, 0, 0, []), (30, .aload_n 0, 0, 0, []), (31, .getfield 70, 6, 8, []), (34, .if_icmp .ge 58, 50, 0, []), (37, .aload_n 0, 0, 0, []), (38, .getfield 16, 6, 2, []), (41, .iload 5, 0, 0, []), (43, .iaload, 0, 0, []), (44, .istore 6, 0, 0, []), (46, .aload_n 0, 0, 0, []), (47, .getfield 16, 6, 2, []), (50, .iload 5, 0, 0, []), (52, .iconst 0, 0, 0, []), (53, .iastore, 0, 0, []), (54, .aload_n 0, 0, 0, []), (55, .iload_n 1, 0, 0, []), (56, .invokevirtual 206, 193, 0, []), (59, .istore 7, 0, 0, []), (61, .aload_n 0, 0, 0, []), (62, .getfield 16, 6, 2, []), (65, .iload 5, 0, 0, []), (67, .iload 6, 0, 0, []), (69, .iastore, 0, 0, []), (70, .iload 7, 0, 0, []), (72, .iload_n 3, 0, 0, []), (73, .if_icmp .lt 6, 44, 0, []), (76, .goto 10, 48, 0, []), (79, .iload 5, 0, 0, []), (81, .istore 4, 0, 0, []), (83, .iload 7, 0, 0, []), (85, .istore_n 3, 0, 0, []), (86, .iinc 5 1, 0, 0, []), (89, .goto (-61), 17, 0, []), (92, .iload 4, 0, 0, []), (94, .ireturn, 0, 0, [])]
def eX7_humble : ME := (yX7_humble, cX7_humble, 8, (some .int), { frames := 6, cells := 0, slots := 0, locals := 132 }, 2, 6, kX7_humble)
def kX7_highest : List EI := [(0, .aload_n 0, 0, 0, []), (1, .iload_n 1, 0, 0, []), (2, .invokevirtual 75, 151, 0, []), (5, .ifCond .ne 7, 6, 0, []), (8, .iconst (-1), 0, 0, []), (9, .goto 18, 14, 0, []), (12, .iload_n 2, 0, 0, []), (13, .iconst 0, 0, 0, []), (14, .iconst 1, 0, 0, []), (15, .invokestatic 97, 146, 0, []), (18, .ifCond .ne 8, 13, 0, []), (21, .bipush (-2), 0, 0, []), (23, .goto 4, 14, 0, []), (26, .iconst 0, 0, 0, []), (27, .istore_n 3, 0, 0, []), (28, .iload_n 3, 0, 0, []), (29, .ifCond .eq 9, 21, 0, []), (32, .aload_n 0, 0, 0, []), (33, .iload_n 3, 0, 0, []), (34, .invokevirtual 86, 144, 0, []), (37, .ireturn, 0, 0, []), (38, .bipush (-9), 0, 0, []), (40, .istore 4, 0, 0, []), (42, .iconst 1, 0, 0, []), (43, .istore 5, 0, 0, []), (45, .iload 5, 0, 0, []), (47, .aload_n 0, 0, 0, []), (48, .invokevirtual 215, 154, 0, []), (51, .if_icmp .gt 61, 55, 0, []), (54, .aload_n 0, 0, 0, []), (55, .iload 5, 0, 0, []), (57, .iload_n 1, 0, 0, []), (58, .invokevirtual 221, 202, 0, []), (61, .ifCond .ne 6, 35, 0, []), (64, .goto 42, 53, 0, []), (67, .aload_n 0, 0, 0, []), (68, .iload_n 1, 0, 0, []), (69, .iload 5, 0, 0, []), (71, .invokevirtual 175, 174, 0, []), (74, .istore 6, 0, 0, []), (76, .iload 4, 0, 0, []), (78, .ifCond .lt 24, 51, 0, []), (81, .iload_n 2, 0, 0, []), (82, .ifCond .ne 13, 48, 0, []), (85, .iload 6, 0, 0, []), (87, .iload 4, 0, 0, []), (89, .if_icmp .le 17, 53, 0, []), (92, .goto 10, 51, 0, []), (95, .iload 6, 0, 0, []), (97, .iload 4, 0, 0, []), (99, .if_icmp .ge 7, 53, 0, []), (102, .iload 6, 0, 0, []), (104, .istore 4, 0, 0, []), (106, .iinc 5 1, 0, 0, []), (109, .goto (-64), 25, 0, []), (112, .iload 4, 0, 0, []), (114, .ireturn, 0, 0, [])]
def eX7_highest : ME := (yX7_highest, cX7_highest, 7, (some .int), { frames := 3, cells := 0, slots := 0, locals := 66 }, 3, 6, kX7_highest)
def kX7_spread : List EI := [(0, .iload_n 1, 0, 0, []), (1, .invokestatic 187, 188, 0, []), (4, .istore_n 2, 0, 0, []), (5, .iload_n 2, 0, 0, []), (6, .ifCond .eq 9, 9, 0, []), (9, .aload_n 0, 0, 0, []), (10, .iload_n 2, 0, 0, []), (11, .invokevirtual 86, 144, 0, []), (14, .ireturn, 0, 0, []), (15, .aload_n 0, 0, 0, []), (16, .iload_n 1, 0, 0, []), (17, .invokevirtual 190, 187, 0, []), (20, .bipush 99, 0, 0, []), (22, .istore_n 3, 0, 0, []), (23, .iconst 0, 0, 0, []), (24, .istore 4, 0, 0, []), (26, .iconst 0, 0, 0, []), (27, .istore 5, 0, 0, []), (29, .iload 5, 0, 0, []), (31, .aload_n 0, 0, 0, []), (32, .getfield 70, 6, 8, []), (35, .if_icmp .ge 58, 50, 0, []), (38, .aload_n 0, 0, 0, []), (39, .iload_n 1, 0, 0, []), (40, .iload 5, 0, 0, []), (42, .invokevirtual 194, 189, 0, []), (45, .iload_n 3, 0, 0, []), (46, .if_icmp .ge 13, 33, 0, []), (49, .aload_n 0, 0, 0, []), (50, .iload_n 1, 0, 0, []), (51, .iload 5, 0, 0, []), (53, .invokevirtual 194, 189, 0, []), (56, .goto 4, 34, 0, []), (59, .iload_n 3, 0, 0, []), (60, .istore_n 3, 0, 0, []), (61, .aload_n 0, 0, 0, []), (62, .iload_n 1, 0, 0, []), (63, .iload 5, 0, 0, []), (65, .invokevirtual 194, 189, 0, []), (68, .iload 4, 0, 0, []), (70, .if_icmp .le 13, 46, 0, []), (73, .aload_n 0, 0, 0, []), (74, .iload_n 1, 0, 0, []), (75, .iload 5, 0, 0, []), (77, .invokevirtual 194, 189, 0, []), (80, .goto 5, 47, 0, []), (83, .iload 4, 0, 0, []), (85, .istore 4, 0, 0, []), (87, .iinc 5 1, 0, 0, []), (90, .goto (-61), 18, 0, []), (93, .aload_n 0, 0, 0, []), (94, .getfield 70, 6, 8, []), (97, .ifCond .ne 7, 55, 0, []), (100, .iconst 0, 0, 0, []), (101, .goto 7, 58, 0, []), (104, .iload 4, 0, 0, []), (106, .iload_n 3, 0, 0, []), (107, .isub, 0, 0, []), (108, .ireturn, 0, 0, [])]
def eX7_spread : ME := (yX7_spread, cX7_spread, 6, (some .int), { frames := 5, cells := 0, slots := 0, locals := 111 }, 2, 6, kX7_spread)
def kX7_pairs : List EI := [(0, .bipush (-9), 0, 0, []), (2, .istore_n 1, 0, 0, []), (3, .iconst (-1), 0, 0, []), (4, .istore_n 2, 0, 0, []), (5, .iconst 0, 0, 0, []), (6, .istore_n 3, 0, 0, []), (7, .iload_n 3, 0, 0, []), (8, .aload_n 0, 0, 0, []), (9, .getfield 70, 6, 8, []), (12, .if_icmp .ge 105, 64, 0, []), (15, .iload_n 3, 0, 0, []), (16, .iconst 1, 0, 0, []), (17, .iadd, 0, 0, []), (18, .istore 4, 0, 0, []), (20, .iload 4, 0, 0, []), (22, .aload_n 0, 0, 0, []), (23, .getfield 70, 6, 8, []), (26, .if_icmp .ge 85, 62, 0, []), (29, .aload_n 0, 0, 0, []), (30, .getfield 25, 6, 5, []), (33, .iload_n 3, 0, 0, []), (34, .iaload, 0, 0, []), (35, .iload 4, 0, 0, []), (37, .invokestatic 165, 148, 0, []), (40, .ifCond .eq 65, 60, 0, []), (43, .aload_n 0, 0, 0, []), (44, .getfield 25, 6, 5, []), (47, .iload 4, 0, 0, []), (49, .iaload, 0, 0, []), (50, .iload_n 3, 0, 0, []), (51, .invokestatic 165, 148, 0, []), (54, .ifCond .eq 51, 60, 0, []), (57, .aload_n 0, 0, 0, []), (58, .getfield 22, 6, 4, []), (61, .iload_n 3, 0, 0, []), (62, .iaload, 0, 0, []), (63, .aload_n 0, 0, 0, []), (64, .getfield 22, 6, 4, []), (67, .iload 4, 0, 0, []), (69, .iaload, 0, 0, []), (70, .invokestatic 197, 150, 0, []), (73, .iload_n 2, 0, 0, []), (74, .if_icmp .gt 6, 44, 0, []), (77, .goto 28, 60, 0, []), (80, .bipush 10, 0, 0, []), (82, .iload_n 3, 0, 0, []), (83, .imul, 0, 0, []), (84, .iload 4, 0, 0, []), (86, .iadd, 0, 0, []), (87, .istore_n 1, 0, 0, []), (88, .aload_n 0, 0, 0, []), (89, .getfield 22, 6, 4, []), (92, .iload_n 3, 0, 0, []), (93, .iaload, 0, 0, []), (94, .aload_n 0, 0, 0, []), (95, .getfield 22, 6, 4, []), (98, .iload 4, 0, 0, []), (100, .iaload, 0, 0, []), (101, .invokestatic 197, 150, 0, []), (104, .istore_n 2, 0, 0, []), (105, .iinc 4 1, 0, 0, []), (108, .goto (-88), 14, 0, []), (111, .iinc 3 1, 0, 0, []), (114, .goto (-107), 6, 0, []), (117, .iload_n 1, 0, 0, []), (118, .ireturn, 0, 0, [])]
def eX7_pairs : ME := (yX7_pairs, cX7_pairs, 5, (some .int), { frames := 1, cells := 0, slots := 0, locals := 21 }, 1, 6, kX7_pairs)
def kX7_isCalm : List EI := [(0, .iconst 0, 0, 0, []), (1, .istore_n 3, 0, 0, []), (2, .iload_n 3, 0, 0, []), (3, .aload_n 0, 0, 0, []), (4, .getfield 70, 6, 8, []), (7, .if_icmp .ge 32, 23, 0, []), (10, .aload_n 0, 0, 0, []), (11, .iload_n 1, 0, 0, []), (12, .iload_n 3, 0, 0, []), (13, .invokevirtual 194, 189, 0, []), (16, .aload_n 0, 0, 0, []), (17, .iload_n 1, 0, 0, []), (18, .iconst 1, 0, 0, []), (19, .iadd, 0, 0, []), (20, .iload_n 3, 0, 0, []), (21, .invokevirtual 194, 189, 0, []), (24, .invokestatic 197, 150, 0, []), (27, .iload_n 2, 0, 0, []), (28, .if_icmp .le 5, 21, 0, []), (31, .iconst 0, 0, 0, []), (32, .ireturn, 0, 0, []), (33, .iinc 3 1, 0, 0, []), (36, .goto (-34), 2, 0, []), (39, .iconst 1, 0, 0, []), (40, .ireturn, 0, 0, [])]
def eX7_isCalm : ME := (yX7_isCalm, cX7_isCalm, 4, (some .boolean), { frames := 1, cells := 0, slots := 0, locals := 22 }, 3, 6, kX7_isCalm)
def kX7_calm : List EI := [(0, .iload_n 1, 0, 0, []), (1, .iconst 0, 0, 0, []), (2, .bipush 99, 0, 0, []), (4, .invokestatic 79, 147, 0, []), (7, .istore_n 2, 0, 0, []), (8, .iload_n 2, 0, 0, []), (9, .ifCond .eq 9, 11, 0, []), (12, .aload_n 0, 0, 0, []), (13, .iload_n 2, 0, 0, []), (14, .invokevirtual 86, 144, 0, []), (17, .ireturn, 0, 0, []), (18, .aload_n 0, 0, 0, []), (19, .bipush 61, 0, 0, []), (21, .invokevirtual 190, 187, 0, []), (24, .iconst 0, 0, 0, []), (25, .istore_n 3, 0, 0, []), (26, .iload_n 3, 0, 0, []), (27, .bipush 60, 0, 0, []), (29, .if_icmp .gt 29, 33, 0, []), (32, .aload_n 0, 0, 0, []), (33, .iload_n 3, 0, 0, []), (34, .iload_n 1, 0, 0, []), (35, .invokevirtual 263, 237, 0, []), (38, .ifCond .eq 14, 31, 0, []), (41, .aload_n 0, 0, 0, []), (42, .iload_n 3, 0, 0, []), (43, .iload_n 1, 0, 0, []), (44, .invokevirtual 203, 191, 0, []), (47, .ifCond .eq 5, 31, 0, []), (50, .iload_n 3, 0, 0, []), (51, .ireturn, 0, 0, []), (52, .iinc 3 1, 0, 0, []), (55, .goto (-29), 16, 0, []), (58, .bipush (-9), 0, 0, []), (60, .ireturn, 0, 0, [])]
def eX7_calm : ME := (yX7_calm, cX7_calm, 4, (some .int), { frames := 5, cells := 0, slots := 0, locals := 111 }, 2, 6, kX7_calm)
def kX7_untrue : List EI := [(0, .iconst 0, 0, 0, []), (1, .istore_n 2, 0, 0, []), (2, .iconst 0, 0, 0, []), (3, .istore_n 3, 0, 0, []), (4, .iload_n 3, 0, 0, []), (5, .aload_n 0, 0, 0, []), (6, .getfield 70, 6, 8, []), (9, .if_icmp .ge 41, 30, 0, []), (12, .iload_n 2, 0, 0, []), (13, .iload_n 3, 0, 0, []), (14, .iload_n 1, 0, 0, []), (15, .if_icmp .ne 7, 14, 0, []), (18, .iconst 0, 0, 0, []), (19, .goto 23, 26, 0, []), (22, .aload_n 0, 0, 0, []), (23, .iload_n 1, 0, 0, []), (24, .aload_n 0, 0, 0, []), (25, .getfield 19, 6, 3, []), (28, .iload_n 3, 0, 0, []), (29, .iaload, 0, 0, []), (30, .invokevirtual 168, 173, 0, []), (33, .aload_n 0, 0, 0, []), (34, .getfield 19, 6, 3, []), (37, .iload_n 3, 0, 0, []), (38, .iaload, 0, 0, []), (39, .invokestatic 197, 150, 0, []), (42, .iadd, 0, 0, []), (43, .istore_n 2, 0, 0, []), (44, .iinc 3 1, 0, 0, []), (47, .goto (-43), 4, 0, []), (50, .iload_n 2, 0, 0, []), (51, .ireturn, 0, 0, [])]
def eX7_untrue : ME := (yX7_untrue, cX7_untrue, 4, (some .int), { frames := 2, cells := 0, slots := 0, locals := 42 }, 2, 6, kX7_untrue)
def kX7_honest : List EI := [(0, .iload_n 1, 0, 0, []), (1, .iconst 0, 0, 0, []), (2, .iconst 1, 0, 0, []), (3, .invokestatic 97, 146, 0, []), (6, .ifCond .ne 10, 9, 0, []), (9, .aload_n 0, 0, 0, []), (10, .bipush (-2), 0, 0, []), (12, .invokevirtual 86, 144, 0, []), (15, .ireturn, 0, 0, []), (16, .aload_n 0, 0, 0, []), (17, .getfield 70, 6, 8, []), (20, .iconst 2, 0, 0, []), (21, .if_icmp .ge 6, 15, 0, []), (24, .bipush (-9), 0, 0, []), (26, .ireturn, 0, 0, []), (27, .iconst 0, 0, 0, []), (28, .istore_n 2, 0, 0, []), (29, .iconst 1, 0, 0, []), (30, .istore_n 3, 0, 0, []), (31, .iload_n 3, 0, 0, []), (32, .aload_n 0, 0, 0, []), (33, .getfield 70, 6, 8, []), (36, .if_icmp .ge 28, 36, 0, []), (39, .aload_n 0, 0, 0, []), (40, .iload_n 3, 0, 0, []), (41, .invokevirtual 266, 239, 0, []), (44, .aload_n 0, 0, 0, []), (45, .iload_n 2, 0, 0, []), (46, .invokevirtual 266, 239, 0, []), (49, .if_icmp .ge 7, 32, 0, []), (52, .iload_n 3, 0, 0, []), (53, .goto 4, 33, 0, []), (56, .iload_n 2, 0, 0, []), (57, .istore_n 2, 0, 0, []), (58, .iinc 3 1, 0, 0, []), (61, .goto (-30), 19, 0, []), (64, .iload_n 1, 0, 0, []), (65, .ifCond .ne 7, 40, 0, []), (68, .iload_n 2, 0, 0, []), (69, .goto 8, 43, 0, []), (72, .aload_n 0, 0, 0, []), (73, .iload_n 2, 0, 0, []), (74, .invokevirtual 266, 239, 0, []), (77, .ireturn, 0, 0, [])]
def eX7_honest : ME := (yX7_honest, cX7_honest, 4, (some .int), { frames := 3, cells := 0, slots := 0, locals := 65 }, 2, 6, kX7_honest)
def kX7_chainOf : List EI := [(0, .iconst 1, 0, 0, []), (1, .iload_n 1, 0, 0, []), (2, .ishl, 0, 0, []), (3, .istore 4, 0, 0, []), (5, .iconst 1, 0, 0, []), (6, .istore 5, 0, 0, []), (8, .iload 5, 0, 0, []), (10, .bipush 7, 0, 0, []), (12, .if_icmp .gt 79, 48, 0, []), (15, .iconst 0, 0, 0, []), (16, .istore 6, 0, 0, []), (18, .iconst 0, 0, 0, []), (19, .istore 7, 0, 0, []), (21, .iload 7, 0, 0, []), (23, .aload_n 0, 0, 0, []), (24, .getfield 70, 6, 8, []), (27, .if_icmp .ge 35, 32, 0, []), (30, .iload 6, 0, 0, []), (32, .iload 4, 0, 0, []), (34, .iload 7, 0, 0, []), (36, .invokestatic 165, 148, 0, []), (39, .ifCond .eq 13, 27, 0, []), (42, .aload_n 0, 0, 0, []), (43, .getfield 25, 6, 5, []), (46, .iload 7, 0, 0, []), (48, .iaload, 0, 0, []), (49, .goto 4, 28, 0, []), (52, .iconst 0, 0, 0, []), (53, .ior, 0, 0, []), (54, .istore 6, 0, 0, []), (56, .iinc 7 1, 0, 0, []), (59, .goto (-38), 13, 0, []), (62, .iload 4, 0, 0, []), (64, .iload 6, 0, 0, []), (66, .iload_n 3, 0, 0, []), (67, .iconst (-1), 0, 0, []), (68, .ixor, 0, 0, []), (69, .iand, 0, 0, []), (70, .ior, 0, 0, []), (71, .istore 4, 0, 0, []), (73, .iload 4, 0, 0, []), (75, .iload_n 2, 0, 0, []), (76, .invokestatic 165, 148, 0, []), (79, .ifCond .eq 6, 46, 0, []), (82, .iload 5, 0, 0, []), (84, .ireturn, 0, 0, []), (85, .iinc 5 1, 0, 0, []), (88, .goto (-80), 6, 0, []), (91, .bipush (-9), 0, 0, []), (93, .ireturn, 0, 0, [])]
def eX7_chainOf : ME := (yX7_chainOf, cX7_chainOf, 8, (some .int), { frames := 1, cells := 0, slots := 0, locals := 21 }, 4, 6, kX7_chainOf)
def kX7_chain : List EI := [(0, .aload_n 0, 0, 0, []), (1, .iload_n 1, 0, 0, []), (2, .iload_n 2, 0, 0, []), (3, .invokevirtual 115, 152, 0, []), (6, .ifCond .eq 13, 11, 0, []), (9, .aload_n 0, 0, 0, []), (10, .iload_n 1, 0, 0, []), (11, .iload_n 2, 0, 0, []), (12, .iconst 0, 0, 0, []), (13, .invokevirtual 269, 241, 0, []), (16, .goto 8, 14, 0, []), (19, .aload_n 0, 0, 0, []), (20, .iconst (-1), 0, 0, []), (21, .invokevirtual 86, 144, 0, []), (24, .ireturn, 0, 0, [])]
def eX7_chain : ME := (yX7_chain, cX7_chain, 3, (some .int), { frames := 2, cells := 0, slots := 0, locals := 48 }, 3, 6, kX7_chain)
def kX7_isClique : List EI := [(0, .iconst 0, 0, 0, []), (1, .istore_n 2, 0, 0, []), (2, .iload_n 2, 0, 0, []), (3, .aload_n 0, 0, 0, []), (4, .getfield 70, 6, 8, []), (7, .if_icmp .ge 38, 29, 0, []), (10, .iload_n 1, 0, 0, []), (11, .iload_n 2, 0, 0, []), (12, .invokestatic 165, 148, 0, []), (15, .ifCond .eq 24, 27, 0, []), (18, .iload_n 1, 0, 0, []), (19, .iconst 1, 0, 0, []), (20, .iload_n 2, 0, 0, []), (21, .ishl, 0, 0, []), (22, .iconst (-1), 0, 0, []), (23, .ixor, 0, 0, []), (24, .iand, 0, 0, []), (25, .aload_n 0, 0, 0, []), (26, .getfield 25, 6, 5, []), (29, .iload_n 2, 0, 0, []), (30, .iaload, 0, 0, []), (31, .iconst (-1), 0, 0, []), (32, .ixor, 0, 0, []), (33, .iand, 0, 0, []), (34, .ifCond .eq 5, 27, 0, []), (37, .iconst 0, 0, 0, []), (38, .ireturn, 0, 0, []), (39, .iinc 2 1, 0, 0, []), (42, .goto (-40), 2, 0, []), (45, .iconst 1, 0, 0, []), (46, .ireturn, 0, 0, [])]
def eX7_isClique : ME := (yX7_isClique, cX7_isClique, 3, (some .boolean), { frames := 1, cells := 0, slots := 0, locals := 21 }, 2, 6, kX7_isClique)
def kX7_clique : List EI := [(0, .iconst 0, 0, 0, []), (1, .istore_n 1, 0, 0, []), (2, .iconst 1, 0, 0, []), (3, .istore_n 2, 0, 0, []), (4, .iload_n 2, 0, 0, []), (5, .aload_n 0, 0, 0, []), (6, .invokevirtual 215, 154, 0, []), (9, .if_icmp .gt 34, 23, 0, []), (12, .aload_n 0, 0, 0, []), (13, .iload_n 2, 0, 0, []), (14, .invokevirtual 272, 243, 0, []), (17, .ifCond .eq 18, 19, 0, []), (20, .iload_n 2, 0, 0, []), (21, .invokestatic 172, 149, 0, []), (24, .iload_n 1, 0, 0, []), (25, .invokestatic 172, 149, 0, []), (28, .if_icmp .le 7, 19, 0, []), (31, .iload_n 2, 0, 0, []), (32, .goto 4, 20, 0, []), (35, .iload_n 1, 0, 0, []), (36, .istore_n 1, 0, 0, []), (37, .iinc 2 1, 0, 0, []), (40, .goto (-36), 4, 0, []), (43, .iload_n 1, 0, 0, []), (44, .ireturn, 0, 0, [])]
def eX7_clique : ME := (yX7_clique, cX7_clique, 3, (some .int), { frames := 2, cells := 0, slots := 0, locals := 43 }, 1, 6, kX7_clique)
def kX7_cut : List EI := [(0, .aload_n 0, 0, 0, []), (1, .iload_n 1, 0, 0, []), (2, .iload_n 2, 0, 0, []), (3, .invokevirtual 115, 152, 0, []), (6, .ifCond .ne 9, 9, 0, []), (9, .aload_n 0, 0, 0, []), (10, .iconst (-1), 0, 0, []), (11, .invokevirtual 86, 144, 0, []), (14, .ireturn, 0, 0, []), (15, .bipush (-9), 0, 0, []), (17, .istore_n 3, 0, 0, []), (18, .iconst 0, 0, 0, []), (19, .istore 4, 0, 0, []), (21, .iload 4, 0, 0, []), (23, .aload_n 0, 0, 0, []), (24, .invokevirtual 215, 154, 0, []), (27, .if_icmp .gt 60, 43, 0, []), (30, .iload 4, 0, 0, []), (32, .iload_n 1, 0, 0, []), (33, .invokestatic 165, 148, 0, []), (36, .ifCond .ne 45, 41, 0, []), (39, .iload 4, 0, 0, []), (41, .iload_n 2, 0, 0, []), (42, .invokestatic 165, 148, 0, []), (45, .ifCond .ne 36, 41, 0, []), (48, .aload_n 0, 0, 0, []), (49, .iload_n 1, 0, 0, []), (50, .iload_n 2, 0, 0, []), (51, .iload 4, 0, 0, []), (53, .invokevirtual 269, 241, 0, []), (56, .ifCond .le 6, 32, 0, []), (59, .goto 22, 41, 0, []), (62, .iload_n 3, 0, 0, []), (63, .ifCond .lt 15, 39, 0, []), (66, .iload 4, 0, 0, []), (68, .invokestatic 172, 149, 0, []), (71, .iload_n 3, 0, 0, []), (72, .invokestatic 172, 149, 0, []), (75, .if_icmp .ge 6, 41, 0, []), (78, .iload 4, 0, 0, []), (80, .istore_n 3, 0, 0, []), (81, .iinc 4 1, 0, 0, []), (84, .goto (-63), 13, 0, []), (87, .iload_n 3, 0, 0, []), (88, .ireturn, 0, 0, [])]
def eX7_cut : ME := (yX7_cut, cX7_cut, 5, (some .int), { frames := 2, cells := 0, slots := 0, locals := 48 }, 3, 6, kX7_cut)
def kX7_wanted : List EI := [(0, .aload_n 0, 0, 0, []), (1, .iload_n 1, 0, 0, []), (2, .invokevirtual 75, 151, 0, []), (5, .ifCond .ne 7, 6, 0, []), (8, .iconst (-1), 0, 0, []), (9, .goto 10, 10, 0, []), (12, .iload_n 2, 0, 0, []), (13, .iconst 0, 0, 0, []), (14, .bipush 99, 0, 0, []), (16, .invokestatic 79, 147, 0, []), (19, .istore_n 3, 0, 0, []), (20, .iload_n 3, 0, 0, []), (21, .ifCond .eq 9, 17, 0, []), (24, .aload_n 0, 0, 0, []), (25, .iload_n 3, 0, 0, []), (26, .invokevirtual 86, 144, 0, []), (29, .ireturn, 0, 0, []), (30, .aload_n 0, 0, 0, []), (31, .bipush 60, 0, 0, []), (33, .invokevirtual 190, 187, 0, []), (36, .iconst 0, 0, 0, []), (37, .istore 4, 0, 0, []), (39, .iload 4, 0, 0, []), (41, .bipush 60, 0, 0, []), (43, .if_icmp .gt 23, 35, 0, []), (46, .aload_n 0, 0, 0, []), (47, .iload 4, 0, 0, []), (49, .iload_n 1, 0, 0, []), (50, .invokevirtual 194, 189, 0, []), (53, .iload_n 2, 0, 0, []), (54, .if_icmp .lt 6, 33, 0, []), (57, .iload 4, 0, 0, []), (59, .ireturn, 0, 0, []), (60, .iinc 4 1, 0, 0, []), (63, .goto (-24), 22, 0, []), (66, .bipush (-9), 0, 0, []), (68, .ireturn, 0, 0, [])]
def eX7_wanted : ME := (yX7_wanted, cX7_wanted, 5, (some .int), { frames := 5, cells := 0, slots := 0, locals := 111 }, 3, 6, kX7_wanted)
def kX7_panel : List EI := [(0, .aload_n 0, 0, 0, []), (1, .iload_n 1, 0, 0, []), (2, .invokevirtual 75, 151, 0, []), (5, .ifCond .ne 7, 6, 0, []), (8, .iconst (-1), 0, 0, []), (9, .goto 10, 10, 0, []), (12, .iload_n 2, 0, 0, []), (13, .iconst 1, 0, 0, []), (14, .bipush 6, 0, 0, []), (16, .invokestatic 79, 147, 0, []), (19, .istore_n 3, 0, 0, []), (20, .iload_n 3, 0, 0, []), (21, .ifCond .eq 9, 17, 0, []), (24, .aload_n 0, 0, 0, []), (25, .iload_n 3, 0, 0, []), (26, .invokevirtual 86, 144, 0, []), (29, .ireturn, 0, 0, []), (30, .bipush (-9), 0, 0, []), (32, .istore 4, 0, 0, []), (34, .iconst 1, 0, 0, []), (35, .istore 5, 0, 0, []), (37, .iload 5, 0, 0, []), (39, .aload_n 0, 0, 0, []), (40, .invokevirtual 215, 154, 0, []), (43, .if_icmp .gt 54, 49, 0, []), (46, .aload_n 0, 0, 0, []), (47, .iload 5, 0, 0, []), (49, .iload_n 1, 0, 0, []), (50, .invokevirtual 221, 202, 0, []), (53, .ifCond .eq 38, 47, 0, []), (56, .iload 5, 0, 0, []), (58, .invokestatic 172, 149, 0, []), (61, .iload_n 2, 0, 0, []), (62, .if_icmp .ne 29, 47, 0, []), (65, .iload 4, 0, 0, []), (67, .ifCond .lt 20, 45, 0, []), (70, .aload_n 0, 0, 0, []), (71, .iload_n 1, 0, 0, []), (72, .iload 5, 0, 0, []), (74, .invokevirtual 175, 174, 0, []), (77, .aload_n 0, 0, 0, []), (78, .iload_n 1, 0, 0, []), (79, .iload 4, 0, 0, []), (81, .invokevirtual 175, 174, 0, []), (84, .if_icmp .le 7, 47, 0, []), (87, .iload 5, 0, 0, []), (89, .istore 4, 0, 0, []), (91, .iinc 5 1, 0, 0, []), (94, .goto (-57), 21, 0, []), (97, .iload 4, 0, 0, []), (99, .ireturn, 0, 0, [])]
def eX7_panel : ME := (yX7_panel, cX7_panel, 6, (some .int), { frames := 3, cells := 0, slots := 0, locals := 66 }, 3, 6, kX7_panel)
def kX7_changed : List EI := [(0, .aload_n 0, 0, 0, []), (1, .iload_n 1, 0, 0, []), (2, .invokevirtual 75, 151, 0, []), (5, .ifCond .ne 7, 6, 0, []), (8, .iconst (-1), 0, 0, []), (9, .goto 34, 21, 0, []), (12, .iload_n 2, 0, 0, []), (13, .ifCond .lt 7, 10, 0, []), (16, .iload_n 3, 0, 0, []), (17, .ifCond .ge 8, 12, 0, []), (20, .bipush (-4), 0, 0, []), (22, .goto 21, 21, 0, []), (25, .iload_n 2, 0, 0, []), (26, .bipush 60, 0, 0, []), (28, .if_icmp .gt 9, 18, 0, []), (31, .iload_n 3, 0, 0, []), (32, .bipush 9, 0, 0, []), (34, .if_icmp .le 8, 20, 0, []), (37, .bipush (-6), 0, 0, []), (39, .goto 4, 21, 0, []), (42, .iconst 0, 0, 0, []), (43, .istore 4, 0, 0, []), (45, .iload 4, 0, 0, []), (47, .ifCond .eq 10, 28, 0, []), (50, .aload_n 0, 0, 0, []), (51, .iload 4, 0, 0, []), (53, .invokevirtual 86, 144, 0, []), (56, .ireturn, 0, 0, []), (57, .aload_n 0, 0, 0, []), (58, .iload_n 2, 0, 0, []), (59, .invokevirtual 190, 187, 0, []), (62, .iconst 0, 0, 0, []), (63, .istore 5, 0, 0, []), (65, .iload 5, 0, 0, []), (67, .aload_n 0, 0, 0, []), (68, .getfield 70, 6, 8, []), (71, .if_icmp .ge 23, 47, 0, []), (74, .aload_n 0, 0, 0, []), (75, .getfield 61, 6, 27, []), (78, .iload 5, 0, 0, []), (80, .aload_n 0, 0, 0, []), (81, .iload_n 2, 0, 0, []), (82, .iload 5, 0, 0, []), (84, .invokevirtual 194, 189, 0, []), (87, .iastore, 0, 0, []), (88, .iinc 5 1, 0, 0, []), (91, .goto (-26), 33, 0, []), (94, .aload_n 0, 0, 0, []), (95, .getfield 16, 6, 2, []), (98, .iload_n 1, 0, 0, []), (99, .iaload, 0, 0, []), (100, .istore 5, 0, 0, []), (102, .aload_n 0, 0, 0, []), (103, .getfield 16, 6, 2, []), (106, .iload_n 1, 0, 0, []), (107, .iload_n 3, 0, 0, []), (108, .iastore, 0, 0, []), (109, .aload_n 0, 0, 0, []), (110, .iload_n 2, 0, 0, []), (111, .invokevirtual 190, 187, 0, []), (114, .aload_n 0, 0, 0, []), (115, .getfield 16, 6, 2, []), (118, .iload_n 1, 0, 0, []), (119, .iload 5, 0, 0, []), (121, .iastore, 0, 0, []), (122, .iconst 0, 0, 0, []), (123, .istore 6, 0, 0, []), (125, .iconst 0, 0, 0, []), (126, .istore 7, 0, 0, []), (128, .iload 7, 0, 0, []), (130, .aload_n 0, 0, 0, []), (131, .getfield 70, 6, 8, []), (134, .if_icmp .ge 36, 90, 0, []), (137, .iload 6, 0, 0, []), (139, .aload_n 0, 0, 0, []), (140, .getfield 61, 6, 27, []), (143, .iload 7, 0, 0, []), (145, .iaload, 0, 0, []), (146, .aload_n 0, 0, 0, []), (147, .iload_n 2, 0, 0, []), (148, .iload 7, 0, 0, []), (150, .invokevirtual 194, 189, 0, []), (153, .if_icmp .ne 7, 85, 0, []), (156, .iconst 0, 0, 0, []), (157, .goto 4, 86, 0, []), (160, .iconst 1, 0, 0, []), (161, .iadd, 0, 0, []), (162, .istore 6, 0, 0, []), (164, .iinc 7 1, 0, 0, []), (167, .goto (-39), 69, 0, []), (170, .iload 6, 0, 0, []), (172, .ireturn, 0, 0, [])]
def eX7_changed : ME := (yX7_changed, cX7_changed, 8, (some .int), { frames := 5, cells := 0, slots := 0, locals := 111 }, 4, 6, kX7_changed)
def kX7_tour : List EI := [(0, .iload_n 1, 0, 0, []), (1, .invokestatic 118, 153, 0, []), (4, .ifCond .ne 7, 5, 0, []), (7, .iconst (-1), 0, 0, []), (8, .goto 11, 9, 0, []), (11, .iload_n 2, 0, 0, []), (12, .iconst 0, 0, 0, []), (13, .sipush 255, 0, 0, []), (16, .invokestatic 79, 147, 0, []), (19, .istore_n 3, 0, 0, []), (20, .iload_n 3, 0, 0, []), (21, .ifCond .eq 9, 16, 0, []), (24, .aload_n 0, 0, 0, []), (25, .iload_n 3, 0, 0, []), (26, .invokevirtual 86, 144, 0, []), (29, .ireturn, 0, 0, []), (30, .iconst 0, 0, 0, []), (31, .istore 4, 0, 0, []), (33, .iload 4, 0, 0, []), (35, .sipush 2048, 0, 0, []), (38, .if_icmp .ge 18, 28, 0, []), (41, .aload_n 0, 0, 0, []), (42, .getfield 67, 6, 29, []), (45, .iload 4, 0, 0, []), (47, .ldc 74, 1000000000, 0, []), (49, .iastore, 0, 0, []), (50, .iinc 4 1, 0, 0, []), (53, .goto (-20), 18, 0, []), (56, .aload_n 0, 0, 0, []), (57, .getfield 67, 6, 29, []), (60, .bipush 8, 0, 0, []), (62, .iconst 1, 0, 0, []), (63, .iload_n 1, 0, 0, []), (64, .ishl, 0, 0, []), (65, .imul, 0, 0, []), (66, .iload_n 1, 0, 0, []), (67, .iadd, 0, 0, []), (68, .iconst 0, 0, 0, []), (69, .iastore, 0, 0, []), (70, .iconst 0, 0, 0, []), (71, .istore 4, 0, 0, []), (73, .iconst 1, 0, 0, []), (74, .istore 5, 0, 0, []), (76, .iload 5, 0, 0, []), (78, .ifCond .eq 74, 82, 0, []), (81, .iconst 0, 0, 0, []), (82, .istore 5, 0, 0, []), (84, .iconst 0, 0, 0, []), (85, .istore 6, 0, 0, []), (87, .iload 6, 0, 0, []), (89, .sipush 2048, 0, 0, []), (92, .if_icmp .ge 54, 80, 0, []), (95, .aload_n 0, 0, 0, []), (96, .getfield 67, 6, 29, []), (99, .iload 6, 0, 0, []), (101, .iaload, 0, 0, []), (102, .iload 4, 0, 0, []), (104, .if_icmp .eq 6, 59, 0, []), (107, .goto 33, 78, 0, []), (110, .iload_n 2, 0, 0, []), (111, .iload 6, 0, 0, []), (113, .bipush 8, 0, 0, []), (115, .idiv, 0, 0, []), (116, .iconst (-1), 0, 0, []), (117, .ixor, 0, 0, []), (118, .iand, 0, 0, []), (119, .ifCond .ne 6, 69, 0, []), (122, .iload 4, 0, 0, []), (124, .ireturn, 0, 0, []), (125, .iload 5, 0, 0, []), (127, .aload_n 0, 0, 0, []), (128, .iload 6, 0, 0, []), (130, .iload 4, 0, 0, []), (132, .iconst 1, 0, 0, []), (133, .iadd, 0, 0, []), (134, .invokevirtual 275, 250, 0, []), (137, .ior, 0, 0, []), (138, .istore 5, 0, 0, []), (140, .iinc 6 1, 0, 0, []), (143, .goto (-56), 49, 0, []), (146, .iinc 4 1, 0, 0, []), (149, .goto (-73), 43, 0, []), (152, .bipush (-9), 0, 0, []), (154, .ireturn, 0, 0, [])]
def eX7_tour : ME := (yX7_tour, cX7_tour, 7, (some .int), { frames := 2, cells := 0, slots := 0, locals := 46 }, 3, 6, kX7_tour)
def kX7_stepsOn : List EI := [(0, .iconst 0, 0, 0, []), (1, .istore_n 3, 0, 0, []), (2, .iconst 0, 0, 0, []), (3, .istore 4, 0, 0, []), (5, .iload 4, 0, 0, []), (7, .bipush 8, 0, 0, []), (9, .if_icmp .ge 67, 44, 0, []), (12, .bipush 8, 0, 0, []), (14, .iload_n 1, 0, 0, []), (15, .bipush 8, 0, 0, []), (17, .idiv, 0, 0, []), (18, .iconst 1, 0, 0, []), (19, .iload 4, 0, 0, []), (21, .ishl, 0, 0, []), (22, .ior, 0, 0, []), (23, .imul, 0, 0, []), (24, .iload 4, 0, 0, []), (26, .iadd, 0, 0, []), (27, .istore 5, 0, 0, []), (29, .aload_n 0, 0, 0, []), (30, .getfield 28, 6, 6, []), (33, .iload_n 1, 0, 0, []), (34, .bipush 8, 0, 0, []), (36, .irem, 0, 0, []), (37, .iaload, 0, 0, []), (38, .iload 4, 0, 0, []), (40, .invokestatic 165, 148, 0, []), (43, .ifCond .eq 27, 42, 0, []), (46, .aload_n 0, 0, 0, []), (47, .getfield 67, 6, 29, []), (50, .iload 5, 0, 0, []), (52, .iaload, 0, 0, []), (53, .iload_n 2, 0, 0, []), (54, .if_icmp .gt 6, 35, 0, []), (57, .goto 13, 42, 0, []), (60, .aload_n 0, 0, 0, []), (61, .getfield 67, 6, 29, []), (64, .iload 5, 0, 0, []), (66, .iload_n 2, 0, 0, []), (67, .iastore, 0, 0, []), (68, .iconst 1, 0, 0, []), (69, .istore_n 3, 0, 0, []), (70, .iinc 4 1, 0, 0, []), (73, .goto (-68), 4, 0, []), (76, .iload_n 3, 0, 0, []), (77, .ireturn, 0, 0, [])]
def eX7_stepsOn : ME := (yX7_stepsOn, cX7_stepsOn, 6, (some .boolean), { frames := 1, cells := 0, slots := 0, locals := 21 }, 3, 6, kX7_stepsOn)
def kX7_isWayWithout : List EI := [(0, .iconst 1, 0, 0, []), (1, .iload_n 1, 0, 0, []), (2, .ishl, 0, 0, []), (3, .istore 4, 0, 0, []), (5, .iconst 0, 0, 0, []), (6, .istore 5, 0, 0, []), (8, .iload 5, 0, 0, []), (10, .bipush 8, 0, 0, []), (12, .if_icmp .ge 65, 41, 0, []), (15, .iconst 0, 0, 0, []), (16, .istore 6, 0, 0, []), (18, .iconst 0, 0, 0, []), (19, .istore 7, 0, 0, []), (21, .iload 7, 0, 0, []), (23, .bipush 8, 0, 0, []), (25, .if_icmp .ge 35, 31, 0, []), (28, .iload 6, 0, 0, []), (30, .iload 4, 0, 0, []), (32, .iload 7, 0, 0, []), (34, .invokestatic 165, 148, 0, []), (37, .ifCond .eq 13, 26, 0, []), (40, .aload_n 0, 0, 0, []), (41, .getfield 28, 6, 6, []), (44, .iload 7, 0, 0, []), (46, .iaload, 0, 0, []), (47, .goto 4, 27, 0, []), (50, .iconst 0, 0, 0, []), (51, .ior, 0, 0, []), (52, .istore 6, 0, 0, []), (54, .iinc 7 1, 0, 0, []), (57, .goto (-36), 13, 0, []), (60, .iload 4, 0, 0, []), (62, .iload 6, 0, 0, []), (64, .iload_n 3, 0, 0, []), (65, .iconst (-1), 0, 0, []), (66, .ixor, 0, 0, []), (67, .iand, 0, 0, []), (68, .ior, 0, 0, []), (69, .istore 4, 0, 0, []), (71, .iinc 5 1, 0, 0, []), (74, .goto (-66), 6, 0, []), (77, .iload 4, 0, 0, []), (79, .iload_n 2, 0, 0, []), (80, .invokestatic 165, 148, 0, []), (83, .ireturn, 0, 0, [])]
def eX7_isWayWithout : ME := (yX7_isWayWithout, cX7_isWayWithout, 8, (some .boolean), { frames := 1, cells := 0, slots := 0, locals := 21 }, 4, 6, kX7_isWayWithout)
def kX7_narrows : List EI := [(0, .iload_n 1, 0, 0, []), (1, .invokestatic 118, 153, 0, []), (4, .ifCond .eq 15, 9, 0, []), (7, .iload_n 2, 0, 0, []), (8, .invokestatic 118, 153, 0, []), (11, .ifCond .eq 8, 9, 0, []), (14, .iload_n 1, 0, 0, []), (15, .iload_n 2, 0, 0, []), (16, .if_icmp .ne 9, 13, 0, []), (19, .aload_n 0, 0, 0, []), (20, .iconst (-1), 0, 0, []), (21, .invokevirtual 86, 144, 0, []), (24, .ireturn, 0, 0, []), (25, .aload_n 0, 0, 0, []), (26, .iload_n 1, 0, 0, []), (27, .iload_n 2, 0, 0, []), (28, .iconst 0, 0, 0, []), (29, .invokevirtual 278, 251, 0, []), (32, .ifCond .ne 6, 21, 0, []), (35, .bipush (-9), 0, 0, []), (37, .ireturn, 0, 0, []), (38, .iconst 0, 0, 0, []), (39, .istore_n 3, 0, 0, []), (40, .iconst 0, 0, 0, []), (41, .istore 4, 0, 0, []), (43, .iload 4, 0, 0, []), (45, .bipush 8, 0, 0, []), (47, .if_icmp .ge 45, 52, 0, []), (50, .iload_n 3, 0, 0, []), (51, .iload 4, 0, 0, []), (53, .iload_n 1, 0, 0, []), (54, .if_icmp .eq 29, 47, 0, []), (57, .iload 4, 0, 0, []), (59, .iload_n 2, 0, 0, []), (60, .if_icmp .eq 23, 47, 0, []), (63, .aload_n 0, 0, 0, []), (64, .iload_n 1, 0, 0, []), (65, .iload_n 2, 0, 0, []), (66, .iconst 1, 0, 0, []), (67, .iload 4, 0, 0, []), (69, .ishl, 0, 0, []), (70, .invokevirtual 278, 251, 0, []), (73, .ifCond .ne 10, 47, 0, []), (76, .iconst 1, 0, 0, []), (77, .iload 4, 0, 0, []), (79, .ishl, 0, 0, []), (80, .goto 4, 48, 0, []), (83, .iconst 0, 0, 0, []), (84, .ior, 0, 0, []), (85, .istore_n 3, 0, 0, []), (86, .iinc 4 1, 0, 0, []), (89, .goto (-46), 25, 0, []), (92, .iload_n 3, 0, 0, []), (93, .ireturn, 0, 0, [])]
def eX7_narrows : ME := (yX7_narrows, cX7_narrows, 5, (some .int), { frames := 2, cells := 0, slots := 0, locals := 48 }, 3, 6, kX7_narrows)
def kX7_farthest : List EI := [(0, .aload_n 0, 0, 0, []), (1, .iload_n 1, 0, 0, []), (2, .iconst 1, 0, 0, []), (3, .invokevirtual 251, 221, 0, []), (6, .iconst 0, 0, 0, []), (7, .istore_n 2, 0, 0, []), (8, .iconst 0, 0, 0, []), (9, .istore_n 3, 0, 0, []), (10, .iload_n 3, 0, 0, []), (11, .bipush 8, 0, 0, []), (13, .if_icmp .ge 41, 32, 0, []), (16, .aload_n 0, 0, 0, []), (17, .getfield 64, 6, 28, []), (20, .iload_n 3, 0, 0, []), (21, .iaload, 0, 0, []), (22, .ldc 74, 1000000000, 0, []), (24, .if_icmp .ge 22, 28, 0, []), (27, .aload_n 0, 0, 0, []), (28, .getfield 64, 6, 28, []), (31, .iload_n 3, 0, 0, []), (32, .iaload, 0, 0, []), (33, .iload_n 2, 0, 0, []), (34, .if_icmp .le 12, 28, 0, []), (37, .aload_n 0, 0, 0, []), (38, .getfield 64, 6, 28, []), (41, .iload_n 3, 0, 0, []), (42, .iaload, 0, 0, []), (43, .goto 4, 29, 0, []), (46, .iload_n 2, 0, 0, []), (47, .istore_n 2, 0, 0, []), (48, .iinc 3 1, 0, 0, []), (51, .goto (-41), 8, 0, []), (54, .iload_n 2, 0, 0, []), (55, .ireturn, 0, 0, [])]
def eX7_farthest : ME := (yX7_farthest, cX7_farthest, 4, (some .int), { frames := 2, cells := 0, slots := 0, locals := 48 }, 2, 6, kX7_farthest)
def kX7_middle : List EI := [(0, .iload_n 1, 0, 0, []), (1, .invokestatic 118, 153, 0, []), (4, .ifCond .ne 7, 5, 0, []), (7, .iconst (-1), 0, 0, []), (8, .goto 18, 13, 0, []), (11, .iload_n 2, 0, 0, []), (12, .iconst 0, 0, 0, []), (13, .iconst 1, 0, 0, []), (14, .invokestatic 97, 146, 0, []), (17, .ifCond .ne 8, 12, 0, []), (20, .bipush (-2), 0, 0, []), (22, .goto 4, 13, 0, []), (25, .iconst 0, 0, 0, []), (26, .istore_n 3, 0, 0, []), (27, .iload_n 3, 0, 0, []), (28, .ifCond .eq 9, 20, 0, []), (31, .aload_n 0, 0, 0, []), (32, .iload_n 3, 0, 0, []), (33, .invokevirtual 86, 144, 0, []), (36, .ireturn, 0, 0, []), (37, .iload_n 1, 0, 0, []), (38, .istore 4, 0, 0, []), (40, .bipush 7, 0, 0, []), (42, .istore 5, 0, 0, []), (44, .iload 5, 0, 0, []), (46, .ifCond .lt 44, 45, 0, []), (49, .aload_n 0, 0, 0, []), (50, .iload_n 1, 0, 0, []), (51, .iload 5, 0, 0, []), (53, .iconst 0, 0, 0, []), (54, .invokevirtual 278, 251, 0, []), (57, .ifCond .eq 23, 41, 0, []), (60, .aload_n 0, 0, 0, []), (61, .iload 5, 0, 0, []), (63, .invokevirtual 281, 253, 0, []), (66, .aload_n 0, 0, 0, []), (67, .iload 4, 0, 0, []), (69, .invokevirtual 281, 253, 0, []), (72, .if_icmp .gt 8, 41, 0, []), (75, .iload 5, 0, 0, []), (77, .goto 5, 42, 0, []), (80, .iload 4, 0, 0, []), (82, .istore 4, 0, 0, []), (84, .iinc 5 (-1), 0, 0, []), (87, .goto (-43), 24, 0, []), (90, .iload_n 2, 0, 0, []), (91, .ifCond .ne 8, 49, 0, []), (94, .iload 4, 0, 0, []), (96, .goto 9, 52, 0, []), (99, .aload_n 0, 0, 0, []), (100, .iload 4, 0, 0, []), (102, .invokevirtual 281, 253, 0, []), (105, .ireturn, 0, 0, [])]
def eX7_middle : ME := (yX7_middle, cX7_middle, 6, (some .int), { frames := 3, cells := 0, slots := 0, locals := 71 }, 3, 6, kX7_middle)
def kX7_row : List EI := [(0, .iload_n 1, 0, 0, []), (1, .iconst 0, 0, 0, []), (2, .bipush 99, 0, 0, []), (4, .invokestatic 79, 147, 0, []), (7, .istore_n 2, 0, 0, []), (8, .iload_n 2, 0, 0, []), (9, .ifCond .ne 15, 13, 0, []), (12, .aload_n 0, 0, 0, []), (13, .getfield 233, 6, 25, []), (16, .bipush 12, 0, 0, []), (18, .if_icmp .ne 6, 13, 0, []), (21, .bipush (-6), 0, 0, []), (23, .istore_n 2, 0, 0, []), (24, .iload_n 2, 0, 0, []), (25, .ifCond .eq 9, 19, 0, []), (28, .aload_n 0, 0, 0, []), (29, .iload_n 2, 0, 0, []), (30, .invokevirtual 86, 144, 0, []), (33, .ireturn, 0, 0, []), (34, .aload_n 0, 0, 0, []), (35, .getfield 55, 6, 24, []), (38, .aload_n 0, 0, 0, []), (39, .getfield 233, 6, 25, []), (42, .iload_n 1, 0, 0, []), (43, .iastore, 0, 0, []), (44, .aload_n 0, 0, 0, []), (45, .dup, 0, 0, []), (46, .getfield 233, 6, 25, []), (49, .iconst 1, 0, 0, []), (50, .iadd, 0, 0, []), (51, .putfield 233, 6, 25, []), (54, .aload_n 0, 0, 0, []), (55, .getfield 233, 6, 25, []), (58, .ireturn, 0, 0, [])]
def eX7_row : ME := (yX7_row, cX7_row, 3, (some .int), { frames := 1, cells := 0, slots := 0, locals := 22 }, 2, 6, kX7_row)
def kX7_judge : List EI := [(0, .aload_n 0, 0, 0, []), (1, .getfield 233, 6, 25, []), (4, .istore_n 1, 0, 0, []), (5, .aload_n 0, 0, 0, []), (6, .iconst 0, 0, 0, []), (7, .putfield 233, 6, 25, []), (10, .iconst 0, 0, 0, []), (11, .istore_n 2, 0, 0, []), (12, .iload_n 2, 0, 0, []), (13, .iload_n 1, 0, 0, []), (14, .if_icmp .ge 34, 28, 0, []), (17, .iload_n 2, 0, 0, []), (18, .aload_n 0, 0, 0, []), (19, .getfield 70, 6, 8, []), (22, .if_icmp .ge 18, 24, 0, []), (25, .aload_n 0, 0, 0, []), (26, .getfield 22, 6, 4, []), (29, .iload_n 2, 0, 0, []), (30, .iaload, 0, 0, []), (31, .aload_n 0, 0, 0, []), (32, .getfield 55, 6, 24, []), (35, .iload_n 2, 0, 0, []), (36, .iaload, 0, 0, []), (37, .if_icmp .eq 5, 26, 0, []), (40, .iload_n 2, 0, 0, []), (41, .ireturn, 0, 0, []), (42, .iinc 2 1, 0, 0, []), (45, .goto (-33), 8, 0, []), (48, .bipush (-9), 0, 0, []), (50, .ireturn, 0, 0, [])]
def eX7_judge : ME := (yX7_judge, cX7_judge, 3, (some .int), { frames := 0, cells := 0, slots := 0, locals := 0 }, 1, 6, kX7_judge)
def kX7_clear : List EI := [(0, .aload_n 0, 0, 0, []), (1, .getfield 233, 6, 25, []), (4, .istore_n 1, 0, 0, []), (5, .aload_n 0, 0, 0, []), (6, .iconst 0, 0, 0, []), (7, .putfield 233, 6, 25, []), (10, .iload_n 1, 0, 0, []), (11, .ireturn, 0, 0, [])]
def eX7_clear : ME := (yX7_clear, cX7_clear, 2, (some .int), { frames := 0, cells := 0, slots := 0, locals := 0 }, 1, 6, kX7_clear)
def kX7_lots : List EI := [(0, .iload_n 1, 0, 0, []), (1, .iconst 1, 0, 0, []), (2, .bipush 20, 0, 0, []), (4, .invokestatic 79, 147, 0, []), (7, .istore 4, 0, 0, []), (9, .iload 4, 0, 0, []), (11, .ifCond .ne 16, 14, 0, []), (14, .iload_n 3, 0, 0, []), (15, .iconst 0, 0, 0, []), (16, .iconst 1, 0, 0, []), (17, .invokestatic 97, 146, 0, []), (20, .ifCond .ne 7, 14, 0, []), (23, .bipush (-2), 0, 0, []), (25, .istore 4, 0, 0, []), (27, .iload 4, 0, 0, []), (29, .ifCond .eq 10, 20, 0, []), (32, .aload_n 0, 0, 0, []), (33, .iload 4, 0, 0, []), (35, .invokevirtual 86, 144, 0, []), (38, .ireturn, 0, 0, []), (39, .aload_n 0, 0, 0, []), (40, .iconst 1, 0, 0, []), (41, .iconst 1, 0, 0, []), (42, .invokevirtual 135, 164, 0, []), (45, .iload_n 2, 0, 0, []), (46, .istore 5, 0, 0, []), (48, .iconst 0, 0, 0, []), (49, .istore 6, 0, 0, []), (51, .iconst 0, 0, 0, []), (52, .istore 7, 0, 0, []), (54, .iconst 0, 0, 0, []), (55, .istore 8, 0, 0, []), (57, .iload 8, 0, 0, []), (59, .iload_n 1, 0, 0, []), (60, .if_icmp .ge 98, 83, 0, []), (63, .iconst 0, 0, 0, []), (64, .istore 9, 0, 0, []), (66, .iload 9, 0, 0, []), (68, .aload_n 0, 0, 0, []), (69, .getfield 70, 6, 8, []), (72, .if_icmp .ge 49, 64, 0, []), (75, .iload 5, 0, 0, []), (77, .ldc_w 284, 1103515245, 0, []), (80, .imul, 0, 0, []), (81, .sipush 12345, 0, 0, []), (84, .iadd, 0, 0, []), (85, .istore 5, 0, 0, []), (87, .aload_n 0, 0, 0, []), (88, .getfield 25, 6, 5, []), (91, .iload 9, 0, 0, []), (93, .iload 5, 0, 0, []), (95, .ldc_w 285, 2147483647, 0, []), (98, .iand, 0, 0, []), (99, .ldc_w 286, 65536, 0, []), (102, .idiv, 0, 0, []), (103, .sipush 128, 0, 0, []), (106, .irem, 0, 0, []), (107, .aload_n 0, 0, 0, []), (108, .iload 9, 0, 0, []), (110, .invokevirtual 218, 201, 0, []), (113, .iand, 0, 0, []), (114, .iastore, 0, 0, []), (115, .iinc 9 1, 0, 0, []), (118, .goto (-52), 37, 0, []), (121, .iload 6, 0, 0, []), (123, .aload_n 0, 0, 0, []), (124, .bipush 10, 0, 0, []), (126, .invokevirtual 206, 193, 0, []), (129, .iadd, 0, 0, []), (130, .istore 6, 0, 0, []), (132, .iload 7, 0, 0, []), (134, .aload_n 0, 0, 0, []), (135, .bipush 10, 0, 0, []), (137, .iconst 5, 0, 0, []), (138, .invokevirtual 203, 191, 0, []), (141, .ifCond .ne 7, 78, 0, []), (144, .iconst 1, 0, 0, []), (145, .goto 4, 79, 0, []), (148, .iconst 0, 0, 0, []), (149, .iadd, 0, 0, []), (150, .istore 7, 0, 0, []), (152, .iinc 8 1, 0, 0, []), (155, .goto (-98), 32, 0, []), (158, .aload_n 0, 0, 0, []), (159, .iconst 1, 0, 0, []), (160, .iconst 0, 0, 0, []), (161, .invokevirtual 135, 164, 0, []), (164, .iload_n 3, 0, 0, []), (165, .ifCond .ne 8, 91, 0, []), (168, .iload 6, 0, 0, []), (170, .goto 5, 92, 0, []), (173, .iload 7, 0, 0, []), (175, .ireturn, 0, 0, [])]
def eX7_lots : ME := (yX7_lots, cX7_lots, 10, (some .int), { frames := 6, cells := 0, slots := 0, locals := 132 }, 4, 6, kX7_lots)
def kX7_count : List EI := [(0, .iload_n 1, 0, 0, []), (1, .bipush 11, 0, 0, []), (3, .bipush 16, 0, 0, []), (5, .invokestatic 97, 146, 0, []), (8, .ifCond .eq 13, 12, 0, []), (11, .aload_n 0, 0, 0, []), (12, .getfield 7, 6, 0, []), (15, .iload_n 1, 0, 0, []), (16, .bipush 10, 0, 0, []), (18, .isub, 0, 0, []), (19, .iaload, 0, 0, []), (20, .ireturn, 0, 0, []), (21, .iconst 0, 0, 0, []), (22, .istore_n 2, 0, 0, []), (23, .iload_n 1, 0, 0, []), (24, .tableswitch 157 0 7 #[48, 53, 58, 85, 112, 142, 147, 152], 0, 0, [84, 16, 19, 22, 39, 56, 75, 78, 81]), (72, .aload_n 0, 0, 0, []), (73, .getfield 70, 6, 8, []), (76, .ireturn, 0, 0, []), (77, .aload_n 0, 0, 0, []), (78, .getfield 125, 6, 9, []), (81, .ireturn, 0, 0, []), (82, .iconst 0, 0, 0, []), (83, .istore_n 3, 0, 0, []), (84, .iload_n 3, 0, 0, []), (85, .aload_n 0, 0, 0, []), (86, .getfield 70, 6, 8, []), (89, .if_icmp .ge 18, 37, 0, []), (92, .iload_n 2, 0, 0, []), (93, .aload_n 0, 0, 0, []), (94, .getfield 19, 6, 3, []), (97, .iload_n 3, 0, 0, []), (98, .iaload, 0, 0, []), (99, .iadd, 0, 0, []), (100, .istore_n 2, 0, 0, []), (101, .iinc 3 1, 0, 0, []), (104, .goto (-20), 24, 0, []), (107, .iload_n 2, 0, 0, []), (108, .ireturn, 0, 0, []), (109, .iconst 0, 0, 0, []), (110, .istore_n 3, 0, 0, []), (111, .iload_n 3, 0, 0, []), (112, .aload_n 0, 0, 0, []), (113, .getfield 70, 6, 8, []), (116, .if_icmp .ge 18, 54, 0, []), (119, .iload_n 2, 0, 0, []), (120, .aload_n 0, 0, 0, []), (121, .getfield 22, 6, 4, []), (124, .iload_n 3, 0, 0, []), (125, .iaload, 0, 0, []), (126, .iadd, 0, 0, []), (127, .istore_n 2, 0, 0, []), (128, .iinc 3 1, 0, 0, []), (131, .goto (-20), 41, 0, []), (134, .iload_n 2, 0, 0, []), (135, .ireturn, 0, 0, []), (136, .iconst 0, 0, 0, []), (137, .istore_n 3, 0, 0, []), (138, .iload_n 3, 0, 0, []), (139, .bipush 8, 0, 0, []), (141, .if_icmp .ge 21, 71, 0, []), (144, .iload_n 2, 0, 0, []), (145, .aload_n 0, 0, 0, []), (146, .getfield 28, 6, 6, []), (149, .iload_n 3, 0, 0, []), (150, .iaload, 0, 0, []), (151, .invokestatic 172, 149, 0, []), (154, .iadd, 0, 0, []), (155, .istore_n 2, 0, 0, []), (156, .iinc 3 1, 0, 0, []), (159, .goto (-21), 58, 0, []), (162, .iload_n 2, 0, 0, []), (163, .iconst 2, 0, 0, []), (164, .idiv, 0, 0, []), (165, .ireturn, 0, 0, []), (166, .aload_n 0, 0, 0, []), (167, .getfield 83, 6, 14, []), (170, .ireturn, 0, 0, []), (171, .aload_n 0, 0, 0, []), (172, .getfield 233, 6, 25, []), (175, .ireturn, 0, 0, []), (176, .aload_n 0, 0, 0, []), (177, .getfield 142, 6, 21, []), (180, .ireturn, 0, 0, []), (181, .bipush (-9), 0, 0, []), (183, .ireturn, 0, 0, [])]
def eX7_count : ME := (yX7_count, cX7_count, 4, (some .int), { frames := 1, cells := 0, slots := 0, locals := 22 }, 2, 6, kX7_count)
def kJ6_bitCount_0f7a4 : List EI := [(0, .iload_n 0, 0, 0, []), (1, .iload_n 0, 0, 0, []), (2, .iconst 1, 0, 0, []), (3, .iushr, 0, 0, []), (4, .ldc_w 265, 1431655765, 0, []), (7, .iand, 0, 0, []), (8, .isub, 0, 0, []), (9, .istore_n 0, 0, 0, []), (10, .iload_n 0, 0, 0, []), (11, .ldc_w 266, 858993459, 0, []), (14, .iand, 0, 0, []), (15, .iload_n 0, 0, 0, []), (16, .iconst 2, 0, 0, []), (17, .iushr, 0, 0, []), (18, .ldc_w 266, 858993459, 0, []), (21, .iand, 0, 0, []), (22, .iadd, 0, 0, []), (23, .istore_n 0, 0, 0, []), (24, .iload_n 0, 0, 0, []), (25, .iload_n 0, 0, 0, []), (26, .iconst 4, 0, 0, []), (27, .iushr, 0, 0, []), (28, .iadd, 0, 0, []), (29, .ldc_w 267, 252645135, 0, []), (32, .iand, 0, 0, []), (33, .istore_n 0, 0, 0, []), (34, .iload_n 0, 0, 0, []), (35, .iload_n 0, 0, 0, []), (36, .bipush 8, 0, 0, []), (38, .iushr, 0, 0, []), (39, .iadd, 0, 0, []), (40, .istore_n 0, 0, 0, []), (41, .iload_n 0, 0, 0, []), (42, .iload_n 0, 0, 0, []), (43, .bipush 16, 0, 0, []), (45, .iushr, 0, 0, []), (46, .iadd, 0, 0, []), (47, .istore_n 0, 0, 0, []), (48, .iload_n 0, 0, 0, []), (49, .bipush 63, 0, 0, []), (51, .iand, 0, 0, []), (52, .ireturn, 0, 0, [])]
def eJ6_bitCount_0f7a4 : ME := (yJ6_bitCount_0f7a4, cJ6_bitCount_0f7a4, 1, (some .int), { frames := 0, cells := 0, slots := 0, locals := 0 }, 1, 99, kJ6_bitCount_0f7a4)
def kJ9_abs_0f7a4 : List EI := [(0, .iload_n 0, 0, 0, []), (1, .ifCond .ge 8, 5, 0, []), (4, .iload_n 0, 0, 0, []), (5, .ineg, 0, 0, []), (6, .goto 4, 6, 0, []), (9, .iload_n 0, 0, 0, []), (10, .ireturn, 0, 0, [])]
def eJ9_abs_0f7a4 : ME := (yJ9_abs_0f7a4, cJ9_abs_0f7a4, 1, (some .int), { frames := 0, cells := 0, slots := 0, locals := 0 }, 1, 99, kJ9_abs_0f7a4)
def kJ9_max_7cf53 : List EI := [(0, .iload_n 0, 0, 0, []), (1, .iload_n 1, 0, 0, []), (2, .if_icmp .lt 7, 5, 0, []), (5, .iload_n 0, 0, 0, []), (6, .goto 4, 6, 0, []), (9, .iload_n 1, 0, 0, []), (10, .ireturn, 0, 0, [])]
def eJ9_max_7cf53 : ME := (yJ9_max_7cf53, cJ9_max_7cf53, 2, (some .int), { frames := 0, cells := 0, slots := 0, locals := 0 }, 2, 99, kJ9_max_7cf53)
def kJ9_min_7cf53 : List EI := [(0, .iload_n 0, 0, 0, []), (1, .iload_n 1, 0, 0, []), (2, .if_icmp .gt 7, 5, 0, []), (5, .iload_n 0, 0, 0, []), (6, .goto 4, 6, 0, []), (9, .iload_n 1, 0, 0, []), (10, .ireturn, 0, 0, [])]
def eJ9_min_7cf53 : ME := (yJ9_min_7cf53, cJ9_min_7cf53, 2, (some .int), { frames := 0, cells := 0, slots := 0, locals := 0 }, 2, 99, kJ9_min_7cf53)
def kJ7_fill_53178 : List EI := [(0, .iconst 0, 0, 0, []), (1, .istore_n 2, 0, 0, []), (2, .aload_n 0, 0, 0, []), (3, .arraylength, 0, 0, []), (4, .istore_n 3, 0, 0, []), (5, .iload_n 2, 0, 0, []), (6, .iload_n 3, 0, 0, []), (7, .if_icmp .ge 13, 14, 0, []), (10, .aload_n 0, 0, 0, []), (11, .iload_n 2, 0, 0, []), (12, .iload_n 1, 0, 0, []), (13, .iastore, 0, 0, []), (14, .iinc 2 1, 0, 0, []), (17, .goto (-12), 5, 0, []), (20, .return_, 0, 0, [])]
def eJ7_fill_53178 : ME := (yJ7_fill_53178, cJ7_fill_53178, 4, none, { frames := 0, cells := 0, slots := 0, locals := 0 }, 2, 99, kJ7_fill_53178)
def kL_law_0 : List EI := [(0, .new 7, 5, 0, []), (3, .dup, 0, 0, []), (4, .invokespecial 9, 53, 0, []), (7, .astore_n 1, 0, 0, []), (8, .new 10, 6, 0, []), (11, .dup, 0, 0, []), (12, .invokespecial 12, 143, 0, []), (15, .astore_n 2, 0, 0, []), (16, .iconst 0, 0, 0, []), (17, .istore_n 3, 0, 0, []), (18, .iload_n 3, 0, 0, []), (19, .aload_n 0, 0, 0, []), (20, .arraylength, 0, 0, []), (21, .iconst 5, 0, 0, []), (22, .isub, 0, 0, []), (23, .if_icmp .gt 1951, 1344, 0, []), (26, .aload_n 0, 0, 0, []), (27, .iload_n 3, 0, 0, []), (28, .iaload, 0, 0, []), (29, .bipush 63, 0, 0, []), (31, .iand, 0, 0, []), (32, .tableswitch 1936 0 59 #[256, 279, 292, 325, 368, 401, 434, 477, 510, 543, 556, 569, 602, 635, 668, 701, 724, 757, 770, 783, 806, 839, 882, 915, 938, 991, 1034, 1057, 1080, 1103, 1136, 1169, 1212, 1235, 1268, 1301, 1324, 1347, 1370, 1393, 1426, 1449, 1462, 1485, 1508, 1541, 1554, 1587, 1620, 1653, 1686, 1719, 1752, 1795, 1818, 1831, 1844, 1887, 1900, 1913], 0, 0, [1342, 22, 39, 46, 73, 110, 137, 164, 201, 228, 255, 262, 269, 296, 323, 350, 377, 394, 421, 428, 435, 452, 479, 516, 543, 560, 607, 644, 661, 678, 695, 722, 749, 786, 803, 830, 857, 874, 891, 908, 925, 952, 969, 976, 993, 1010, 1037, 1044, 1071, 1098, 1125, 1152, 1179, 1206, 1243, 1260, 1267, 1274, 1311, 1318, 1325]), (288, .aload_n 1, 0, 0, []), (289, .aload_n 0, 0, 0, []), (290, .iload_n 3, 0, 0, []), (291, .iconst 1, 0, 0, []), (292, .iadd, 0, 0, []), (293, .iaload, 0, 0, []), (294, .invokevirtual 13, 70, 0, []), (297, .aload_n 2, 0, 0, []), (298, .aload_n 0, 0, 0, []), (299, .iload_n 3, 0, 0, []), (300, .iconst 1, 0, 0, []), (301, .iadd, 0, 0, []), (302, .iaload, 0, 0, []), (303, .invokevirtual 17, 155, 0, []), (306, .if_icmp .eq 1662, 1342, 0, []), (309, .iconst 0, 0, 0, []), (310, .ireturn, 0, 0, []), (311, .aload_n 1, 0, 0, []), (312, .invokevirtual 18, 71, 0, []), (315, .aload_n 2, 0, 0, []), (316, .invokevirtual 22, 161, 0, []), (319, .if_icmp .eq 1649, 1342, 0, []), (322, .iconst 0, 0, 0, []), (323, .ireturn, 0, 0, []), (324, .aload_n 1, 0, 0, []), (325, .aload_n 0, 0, 0, []), (326, .iload_n 3, 0, 0, []), (327, .iconst 1, 0, 0, [])]
def kL_law_1 : List EI := [(328, .iadd, 0, 0, []), (329, .iaload, 0, 0, []), (330, .aload_n 0, 0, 0, []), (331, .iload_n 3, 0, 0, []), (332, .iconst 2, 0, 0, []), (333, .iadd, 0, 0, []), (334, .iaload, 0, 0, []), (335, .invokevirtual 23, 72, 0, []), (338, .aload_n 2, 0, 0, []), (339, .aload_n 0, 0, 0, []), (340, .iload_n 3, 0, 0, []), (341, .iconst 1, 0, 0, []), (342, .iadd, 0, 0, []), (343, .iaload, 0, 0, []), (344, .aload_n 0, 0, 0, []), (345, .iload_n 3, 0, 0, []), (346, .iconst 2, 0, 0, []), (347, .iadd, 0, 0, []), (348, .iaload, 0, 0, []), (349, .invokevirtual 27, 177, 0, []), (352, .if_icmp .eq 1616, 1342, 0, []), (355, .iconst 0, 0, 0, []), (356, .ireturn, 0, 0, []), (357, .aload_n 1, 0, 0, []), (358, .aload_n 0, 0, 0, []), (359, .iload_n 3, 0, 0, []), (360, .iconst 1, 0, 0, []), (361, .iadd, 0, 0, []), (362, .iaload, 0, 0, []), (363, .aload_n 0, 0, 0, []), (364, .iload_n 3, 0, 0, []), (365, .iconst 2, 0, 0, []), (366, .iadd, 0, 0, []), (367, .iaload, 0, 0, []), (368, .aload_n 0, 0, 0, []), (369, .iload_n 3, 0, 0, []), (370, .iconst 3, 0, 0, []), (371, .iadd, 0, 0, []), (372, .iaload, 0, 0, []), (373, .invokevirtual 28, 73, 0, []), (376, .aload_n 2, 0, 0, []), (377, .aload_n 0, 0, 0, []), (378, .iload_n 3, 0, 0, []), (379, .iconst 1, 0, 0, []), (380, .iadd, 0, 0, []), (381, .iaload, 0, 0, []), (382, .aload_n 0, 0, 0, []), (383, .iload_n 3, 0, 0, []), (384, .iconst 2, 0, 0, []), (385, .iadd, 0, 0, [])]
def kL_law_2 : List EI := [(386, .iaload, 0, 0, []), (387, .aload_n 0, 0, 0, []), (388, .iload_n 3, 0, 0, []), (389, .iconst 3, 0, 0, []), (390, .iadd, 0, 0, []), (391, .iaload, 0, 0, []), (392, .invokevirtual 32, 178, 0, []), (395, .if_icmp .eq 1573, 1342, 0, []), (398, .iconst 0, 0, 0, []), (399, .ireturn, 0, 0, []), (400, .aload_n 1, 0, 0, []), (401, .aload_n 0, 0, 0, []), (402, .iload_n 3, 0, 0, []), (403, .iconst 1, 0, 0, []), (404, .iadd, 0, 0, []), (405, .iaload, 0, 0, []), (406, .aload_n 0, 0, 0, []), (407, .iload_n 3, 0, 0, []), (408, .iconst 2, 0, 0, []), (409, .iadd, 0, 0, []), (410, .iaload, 0, 0, []), (411, .invokevirtual 33, 74, 0, []), (414, .aload_n 2, 0, 0, []), (415, .aload_n 0, 0, 0, []), (416, .iload_n 3, 0, 0, []), (417, .iconst 1, 0, 0, []), (418, .iadd, 0, 0, []), (419, .iaload, 0, 0, []), (420, .aload_n 0, 0, 0, []), (421, .iload_n 3, 0, 0, []), (422, .iconst 2, 0, 0, []), (423, .iadd, 0, 0, []), (424, .iaload, 0, 0, []), (425, .invokevirtual 36, 179, 0, []), (428, .if_icmp .eq 1540, 1342, 0, []), (431, .iconst 0, 0, 0, []), (432, .ireturn, 0, 0, []), (433, .aload_n 1, 0, 0, []), (434, .aload_n 0, 0, 0, []), (435, .iload_n 3, 0, 0, []), (436, .iconst 1, 0, 0, []), (437, .iadd, 0, 0, []), (438, .iaload, 0, 0, []), (439, .aload_n 0, 0, 0, []), (440, .iload_n 3, 0, 0, []), (441, .iconst 2, 0, 0, []), (442, .iadd, 0, 0, []), (443, .iaload, 0, 0, []), (444, .invokevirtual 37, 75, 0, []), (447, .aload_n 2, 0, 0, [])]
def kL_law_3 : List EI := [(448, .aload_n 0, 0, 0, []), (449, .iload_n 3, 0, 0, []), (450, .iconst 1, 0, 0, []), (451, .iadd, 0, 0, []), (452, .iaload, 0, 0, []), (453, .aload_n 0, 0, 0, []), (454, .iload_n 3, 0, 0, []), (455, .iconst 2, 0, 0, []), (456, .iadd, 0, 0, []), (457, .iaload, 0, 0, []), (458, .invokevirtual 40, 180, 0, []), (461, .if_icmp .eq 1507, 1342, 0, []), (464, .iconst 0, 0, 0, []), (465, .ireturn, 0, 0, []), (466, .aload_n 1, 0, 0, []), (467, .aload_n 0, 0, 0, []), (468, .iload_n 3, 0, 0, []), (469, .iconst 1, 0, 0, []), (470, .iadd, 0, 0, []), (471, .iaload, 0, 0, []), (472, .aload_n 0, 0, 0, []), (473, .iload_n 3, 0, 0, []), (474, .iconst 2, 0, 0, []), (475, .iadd, 0, 0, []), (476, .iaload, 0, 0, []), (477, .aload_n 0, 0, 0, []), (478, .iload_n 3, 0, 0, []), (479, .iconst 3, 0, 0, []), (480, .iadd, 0, 0, []), (481, .iaload, 0, 0, []), (482, .invokevirtual 41, 76, 0, []), (485, .aload_n 2, 0, 0, []), (486, .aload_n 0, 0, 0, []), (487, .iload_n 3, 0, 0, []), (488, .iconst 1, 0, 0, []), (489, .iadd, 0, 0, []), (490, .iaload, 0, 0, []), (491, .aload_n 0, 0, 0, []), (492, .iload_n 3, 0, 0, []), (493, .iconst 2, 0, 0, []), (494, .iadd, 0, 0, []), (495, .iaload, 0, 0, []), (496, .aload_n 0, 0, 0, []), (497, .iload_n 3, 0, 0, []), (498, .iconst 3, 0, 0, []), (499, .iadd, 0, 0, []), (500, .iaload, 0, 0, []), (501, .invokevirtual 44, 181, 0, []), (504, .if_icmp .eq 1464, 1342, 0, []), (507, .iconst 0, 0, 0, [])]
def kL_law_4 : List EI := [(508, .ireturn, 0, 0, []), (509, .aload_n 1, 0, 0, []), (510, .aload_n 0, 0, 0, []), (511, .iload_n 3, 0, 0, []), (512, .iconst 1, 0, 0, []), (513, .iadd, 0, 0, []), (514, .iaload, 0, 0, []), (515, .aload_n 0, 0, 0, []), (516, .iload_n 3, 0, 0, []), (517, .iconst 2, 0, 0, []), (518, .iadd, 0, 0, []), (519, .iaload, 0, 0, []), (520, .invokevirtual 45, 77, 0, []), (523, .aload_n 2, 0, 0, []), (524, .aload_n 0, 0, 0, []), (525, .iload_n 3, 0, 0, []), (526, .iconst 1, 0, 0, []), (527, .iadd, 0, 0, []), (528, .iaload, 0, 0, []), (529, .aload_n 0, 0, 0, []), (530, .iload_n 3, 0, 0, []), (531, .iconst 2, 0, 0, []), (532, .iadd, 0, 0, []), (533, .iaload, 0, 0, []), (534, .invokevirtual 48, 182, 0, []), (537, .if_icmp .eq 1431, 1342, 0, []), (540, .iconst 0, 0, 0, []), (541, .ireturn, 0, 0, []), (542, .aload_n 1, 0, 0, []), (543, .aload_n 0, 0, 0, []), (544, .iload_n 3, 0, 0, []), (545, .iconst 1, 0, 0, []), (546, .iadd, 0, 0, []), (547, .iaload, 0, 0, []), (548, .aload_n 0, 0, 0, []), (549, .iload_n 3, 0, 0, []), (550, .iconst 2, 0, 0, []), (551, .iadd, 0, 0, []), (552, .iaload, 0, 0, []), (553, .invokevirtual 49, 78, 0, []), (556, .aload_n 2, 0, 0, []), (557, .aload_n 0, 0, 0, []), (558, .iload_n 3, 0, 0, []), (559, .iconst 1, 0, 0, []), (560, .iadd, 0, 0, []), (561, .iaload, 0, 0, []), (562, .aload_n 0, 0, 0, []), (563, .iload_n 3, 0, 0, []), (564, .iconst 2, 0, 0, []), (565, .iadd, 0, 0, [])]
def kL_law_5 : List EI := [(566, .iaload, 0, 0, []), (567, .invokevirtual 52, 183, 0, []), (570, .if_icmp .eq 1398, 1342, 0, []), (573, .iconst 0, 0, 0, []), (574, .ireturn, 0, 0, []), (575, .aload_n 1, 0, 0, []), (576, .invokevirtual 53, 79, 0, []), (579, .aload_n 2, 0, 0, []), (580, .invokevirtual 56, 184, 0, []), (583, .if_icmp .eq 1385, 1342, 0, []), (586, .iconst 0, 0, 0, []), (587, .ireturn, 0, 0, []), (588, .aload_n 1, 0, 0, []), (589, .invokevirtual 57, 80, 0, []), (592, .aload_n 2, 0, 0, []), (593, .invokevirtual 60, 168, 0, []), (596, .if_icmp .eq 1372, 1342, 0, []), (599, .iconst 0, 0, 0, []), (600, .ireturn, 0, 0, []), (601, .aload_n 1, 0, 0, []), (602, .aload_n 0, 0, 0, []), (603, .iload_n 3, 0, 0, []), (604, .iconst 1, 0, 0, []), (605, .iadd, 0, 0, []), (606, .iaload, 0, 0, []), (607, .aload_n 0, 0, 0, []), (608, .iload_n 3, 0, 0, []), (609, .iconst 2, 0, 0, []), (610, .iadd, 0, 0, []), (611, .iaload, 0, 0, []), (612, .invokevirtual 61, 81, 0, []), (615, .aload_n 2, 0, 0, []), (616, .aload_n 0, 0, 0, []), (617, .iload_n 3, 0, 0, []), (618, .iconst 1, 0, 0, []), (619, .iadd, 0, 0, []), (620, .iaload, 0, 0, []), (621, .aload_n 0, 0, 0, []), (622, .iload_n 3, 0, 0, []), (623, .iconst 2, 0, 0, []), (624, .iadd, 0, 0, []), (625, .iaload, 0, 0, []), (626, .invokevirtual 64, 185, 0, []), (629, .if_icmp .eq 1339, 1342, 0, []), (632, .iconst 0, 0, 0, []), (633, .ireturn, 0, 0, []), (634, .aload_n 1, 0, 0, []), (635, .aload_n 0, 0, 0, []), (636, .iload_n 3, 0, 0, []), (637, .iconst 1, 0, 0, [])]
def kL_law_6 : List EI := [(638, .iadd, 0, 0, []), (639, .iaload, 0, 0, []), (640, .aload_n 0, 0, 0, []), (641, .iload_n 3, 0, 0, []), (642, .iconst 2, 0, 0, []), (643, .iadd, 0, 0, []), (644, .iaload, 0, 0, []), (645, .invokevirtual 65, 82, 0, []), (648, .aload_n 2, 0, 0, []), (649, .aload_n 0, 0, 0, []), (650, .iload_n 3, 0, 0, []), (651, .iconst 1, 0, 0, []), (652, .iadd, 0, 0, []), (653, .iaload, 0, 0, []), (654, .aload_n 0, 0, 0, []), (655, .iload_n 3, 0, 0, []), (656, .iconst 2, 0, 0, []), (657, .iadd, 0, 0, []), (658, .iaload, 0, 0, []), (659, .invokevirtual 68, 186, 0, []), (662, .if_icmp .eq 1306, 1342, 0, []), (665, .iconst 0, 0, 0, []), (666, .ireturn, 0, 0, []), (667, .aload_n 1, 0, 0, []), (668, .aload_n 0, 0, 0, []), (669, .iload_n 3, 0, 0, []), (670, .iconst 1, 0, 0, []), (671, .iadd, 0, 0, []), (672, .iaload, 0, 0, []), (673, .aload_n 0, 0, 0, []), (674, .iload_n 3, 0, 0, []), (675, .iconst 2, 0, 0, []), (676, .iadd, 0, 0, []), (677, .iaload, 0, 0, []), (678, .invokevirtual 69, 83, 0, []), (681, .aload_n 2, 0, 0, []), (682, .aload_n 0, 0, 0, []), (683, .iload_n 3, 0, 0, []), (684, .iconst 1, 0, 0, []), (685, .iadd, 0, 0, []), (686, .iaload, 0, 0, []), (687, .aload_n 0, 0, 0, []), (688, .iload_n 3, 0, 0, []), (689, .iconst 2, 0, 0, []), (690, .iadd, 0, 0, []), (691, .iaload, 0, 0, []), (692, .invokevirtual 72, 190, 0, []), (695, .if_icmp .eq 1273, 1342, 0, []), (698, .iconst 0, 0, 0, []), (699, .ireturn, 0, 0, [])]
def kL_law_7 : List EI := [(700, .aload_n 1, 0, 0, []), (701, .aload_n 0, 0, 0, []), (702, .iload_n 3, 0, 0, []), (703, .iconst 1, 0, 0, []), (704, .iadd, 0, 0, []), (705, .iaload, 0, 0, []), (706, .aload_n 0, 0, 0, []), (707, .iload_n 3, 0, 0, []), (708, .iconst 2, 0, 0, []), (709, .iadd, 0, 0, []), (710, .iaload, 0, 0, []), (711, .invokevirtual 73, 84, 0, []), (714, .aload_n 2, 0, 0, []), (715, .aload_n 0, 0, 0, []), (716, .iload_n 3, 0, 0, []), (717, .iconst 1, 0, 0, []), (718, .iadd, 0, 0, []), (719, .iaload, 0, 0, []), (720, .aload_n 0, 0, 0, []), (721, .iload_n 3, 0, 0, []), (722, .iconst 2, 0, 0, []), (723, .iadd, 0, 0, []), (724, .iaload, 0, 0, []), (725, .invokevirtual 76, 194, 0, []), (728, .if_icmp .eq 1240, 1342, 0, []), (731, .iconst 0, 0, 0, []), (732, .ireturn, 0, 0, []), (733, .aload_n 1, 0, 0, []), (734, .aload_n 0, 0, 0, []), (735, .iload_n 3, 0, 0, []), (736, .iconst 1, 0, 0, []), (737, .iadd, 0, 0, []), (738, .iaload, 0, 0, []), (739, .invokevirtual 77, 85, 0, []), (742, .aload_n 2, 0, 0, []), (743, .aload_n 0, 0, 0, []), (744, .iload_n 3, 0, 0, []), (745, .iconst 1, 0, 0, []), (746, .iadd, 0, 0, []), (747, .iaload, 0, 0, []), (748, .invokevirtual 80, 195, 0, []), (751, .if_icmp .eq 1217, 1342, 0, []), (754, .iconst 0, 0, 0, []), (755, .ireturn, 0, 0, []), (756, .aload_n 1, 0, 0, []), (757, .aload_n 0, 0, 0, []), (758, .iload_n 3, 0, 0, []), (759, .iconst 1, 0, 0, []), (760, .iadd, 0, 0, []), (761, .iaload, 0, 0, [])]
def kL_law_8 : List EI := [(762, .aload_n 0, 0, 0, []), (763, .iload_n 3, 0, 0, []), (764, .iconst 2, 0, 0, []), (765, .iadd, 0, 0, []), (766, .iaload, 0, 0, []), (767, .invokevirtual 81, 86, 0, []), (770, .aload_n 2, 0, 0, []), (771, .aload_n 0, 0, 0, []), (772, .iload_n 3, 0, 0, []), (773, .iconst 1, 0, 0, []), (774, .iadd, 0, 0, []), (775, .iaload, 0, 0, []), (776, .aload_n 0, 0, 0, []), (777, .iload_n 3, 0, 0, []), (778, .iconst 2, 0, 0, []), (779, .iadd, 0, 0, []), (780, .iaload, 0, 0, []), (781, .invokevirtual 84, 197, 0, []), (784, .if_icmp .eq 1184, 1342, 0, []), (787, .iconst 0, 0, 0, []), (788, .ireturn, 0, 0, []), (789, .aload_n 1, 0, 0, []), (790, .invokevirtual 85, 87, 0, []), (793, .aload_n 2, 0, 0, []), (794, .invokevirtual 88, 199, 0, []), (797, .if_icmp .eq 1171, 1342, 0, []), (800, .iconst 0, 0, 0, []), (801, .ireturn, 0, 0, []), (802, .aload_n 1, 0, 0, []), (803, .invokevirtual 89, 88, 0, []), (806, .aload_n 2, 0, 0, []), (807, .invokevirtual 92, 200, 0, []), (810, .if_icmp .eq 1158, 1342, 0, []), (813, .iconst 0, 0, 0, []), (814, .ireturn, 0, 0, []), (815, .aload_n 1, 0, 0, []), (816, .aload_n 0, 0, 0, []), (817, .iload_n 3, 0, 0, []), (818, .iconst 1, 0, 0, []), (819, .iadd, 0, 0, []), (820, .iaload, 0, 0, []), (821, .invokevirtual 93, 89, 0, []), (824, .aload_n 2, 0, 0, []), (825, .aload_n 0, 0, 0, []), (826, .iload_n 3, 0, 0, []), (827, .iconst 1, 0, 0, []), (828, .iadd, 0, 0, []), (829, .iaload, 0, 0, []), (830, .invokevirtual 96, 204, 0, []), (833, .if_icmp .eq 1135, 1342, 0, [])]
def kL_law_9 : List EI := [(836, .iconst 0, 0, 0, []), (837, .ireturn, 0, 0, []), (838, .aload_n 1, 0, 0, []), (839, .aload_n 0, 0, 0, []), (840, .iload_n 3, 0, 0, []), (841, .iconst 1, 0, 0, []), (842, .iadd, 0, 0, []), (843, .iaload, 0, 0, []), (844, .aload_n 0, 0, 0, []), (845, .iload_n 3, 0, 0, []), (846, .iconst 2, 0, 0, []), (847, .iadd, 0, 0, []), (848, .iaload, 0, 0, []), (849, .invokevirtual 97, 90, 0, []), (852, .aload_n 2, 0, 0, []), (853, .aload_n 0, 0, 0, []), (854, .iload_n 3, 0, 0, []), (855, .iconst 1, 0, 0, []), (856, .iadd, 0, 0, []), (857, .iaload, 0, 0, []), (858, .aload_n 0, 0, 0, []), (859, .iload_n 3, 0, 0, []), (860, .iconst 2, 0, 0, []), (861, .iadd, 0, 0, []), (862, .iaload, 0, 0, []), (863, .invokevirtual 100, 205, 0, []), (866, .if_icmp .eq 1102, 1342, 0, []), (869, .iconst 0, 0, 0, []), (870, .ireturn, 0, 0, []), (871, .aload_n 1, 0, 0, []), (872, .aload_n 0, 0, 0, []), (873, .iload_n 3, 0, 0, []), (874, .iconst 1, 0, 0, []), (875, .iadd, 0, 0, []), (876, .iaload, 0, 0, []), (877, .aload_n 0, 0, 0, []), (878, .iload_n 3, 0, 0, []), (879, .iconst 2, 0, 0, []), (880, .iadd, 0, 0, []), (881, .iaload, 0, 0, []), (882, .aload_n 0, 0, 0, []), (883, .iload_n 3, 0, 0, []), (884, .iconst 3, 0, 0, []), (885, .iadd, 0, 0, []), (886, .iaload, 0, 0, []), (887, .invokevirtual 101, 92, 0, []), (890, .aload_n 2, 0, 0, []), (891, .aload_n 0, 0, 0, []), (892, .iload_n 3, 0, 0, []), (893, .iconst 1, 0, 0, [])]
def kL_law_10 : List EI := [(894, .iadd, 0, 0, []), (895, .iaload, 0, 0, []), (896, .aload_n 0, 0, 0, []), (897, .iload_n 3, 0, 0, []), (898, .iconst 2, 0, 0, []), (899, .iadd, 0, 0, []), (900, .iaload, 0, 0, []), (901, .aload_n 0, 0, 0, []), (902, .iload_n 3, 0, 0, []), (903, .iconst 3, 0, 0, []), (904, .iadd, 0, 0, []), (905, .iaload, 0, 0, []), (906, .invokevirtual 104, 206, 0, []), (909, .if_icmp .eq 1059, 1342, 0, []), (912, .iconst 0, 0, 0, []), (913, .ireturn, 0, 0, []), (914, .aload_n 1, 0, 0, []), (915, .aload_n 0, 0, 0, []), (916, .iload_n 3, 0, 0, []), (917, .iconst 1, 0, 0, []), (918, .iadd, 0, 0, []), (919, .iaload, 0, 0, []), (920, .aload_n 0, 0, 0, []), (921, .iload_n 3, 0, 0, []), (922, .iconst 2, 0, 0, []), (923, .iadd, 0, 0, []), (924, .iaload, 0, 0, []), (925, .invokevirtual 105, 93, 0, []), (928, .aload_n 2, 0, 0, []), (929, .aload_n 0, 0, 0, []), (930, .iload_n 3, 0, 0, []), (931, .iconst 1, 0, 0, []), (932, .iadd, 0, 0, []), (933, .iaload, 0, 0, []), (934, .aload_n 0, 0, 0, []), (935, .iload_n 3, 0, 0, []), (936, .iconst 2, 0, 0, []), (937, .iadd, 0, 0, []), (938, .iaload, 0, 0, []), (939, .invokevirtual 108, 207, 0, []), (942, .if_icmp .eq 1026, 1342, 0, []), (945, .iconst 0, 0, 0, []), (946, .ireturn, 0, 0, []), (947, .aload_n 1, 0, 0, []), (948, .aload_n 0, 0, 0, []), (949, .iload_n 3, 0, 0, []), (950, .iconst 1, 0, 0, []), (951, .iadd, 0, 0, []), (952, .iaload, 0, 0, []), (953, .invokevirtual 109, 94, 0, [])]
def kL_law_11 : List EI := [(956, .aload_n 2, 0, 0, []), (957, .aload_n 0, 0, 0, []), (958, .iload_n 3, 0, 0, []), (959, .iconst 1, 0, 0, []), (960, .iadd, 0, 0, []), (961, .iaload, 0, 0, []), (962, .invokevirtual 112, 208, 0, []), (965, .if_icmp .eq 1003, 1342, 0, []), (968, .iconst 0, 0, 0, []), (969, .ireturn, 0, 0, []), (970, .aload_n 1, 0, 0, []), (971, .aload_n 0, 0, 0, []), (972, .iload_n 3, 0, 0, []), (973, .iconst 1, 0, 0, []), (974, .iadd, 0, 0, []), (975, .iaload, 0, 0, []), (976, .aload_n 0, 0, 0, []), (977, .iload_n 3, 0, 0, []), (978, .iconst 2, 0, 0, []), (979, .iadd, 0, 0, []), (980, .iaload, 0, 0, []), (981, .aload_n 0, 0, 0, []), (982, .iload_n 3, 0, 0, []), (983, .iconst 3, 0, 0, []), (984, .iadd, 0, 0, []), (985, .iaload, 0, 0, []), (986, .aload_n 0, 0, 0, []), (987, .iload_n 3, 0, 0, []), (988, .iconst 4, 0, 0, []), (989, .iadd, 0, 0, []), (990, .iaload, 0, 0, []), (991, .invokevirtual 113, 96, 0, []), (994, .aload_n 2, 0, 0, []), (995, .aload_n 0, 0, 0, []), (996, .iload_n 3, 0, 0, []), (997, .iconst 1, 0, 0, []), (998, .iadd, 0, 0, []), (999, .iaload, 0, 0, []), (1000, .aload_n 0, 0, 0, []), (1001, .iload_n 3, 0, 0, []), (1002, .iconst 2, 0, 0, []), (1003, .iadd, 0, 0, []), (1004, .iaload, 0, 0, []), (1005, .aload_n 0, 0, 0, []), (1006, .iload_n 3, 0, 0, []), (1007, .iconst 3, 0, 0, []), (1008, .iadd, 0, 0, []), (1009, .iaload, 0, 0, []), (1010, .aload_n 0, 0, 0, []), (1011, .iload_n 3, 0, 0, [])]
def kL_law_12 : List EI := [(1012, .iconst 4, 0, 0, []), (1013, .iadd, 0, 0, []), (1014, .iaload, 0, 0, []), (1015, .invokevirtual 117, 209, 0, []), (1018, .if_icmp .eq 950, 1342, 0, []), (1021, .iconst 0, 0, 0, []), (1022, .ireturn, 0, 0, []), (1023, .aload_n 1, 0, 0, []), (1024, .aload_n 0, 0, 0, []), (1025, .iload_n 3, 0, 0, []), (1026, .iconst 1, 0, 0, []), (1027, .iadd, 0, 0, []), (1028, .iaload, 0, 0, []), (1029, .aload_n 0, 0, 0, []), (1030, .iload_n 3, 0, 0, []), (1031, .iconst 2, 0, 0, []), (1032, .iadd, 0, 0, []), (1033, .iaload, 0, 0, []), (1034, .aload_n 0, 0, 0, []), (1035, .iload_n 3, 0, 0, []), (1036, .iconst 3, 0, 0, []), (1037, .iadd, 0, 0, []), (1038, .iaload, 0, 0, []), (1039, .invokevirtual 118, 97, 0, []), (1042, .aload_n 2, 0, 0, []), (1043, .aload_n 0, 0, 0, []), (1044, .iload_n 3, 0, 0, []), (1045, .iconst 1, 0, 0, []), (1046, .iadd, 0, 0, []), (1047, .iaload, 0, 0, []), (1048, .aload_n 0, 0, 0, []), (1049, .iload_n 3, 0, 0, []), (1050, .iconst 2, 0, 0, []), (1051, .iadd, 0, 0, []), (1052, .iaload, 0, 0, []), (1053, .aload_n 0, 0, 0, []), (1054, .iload_n 3, 0, 0, []), (1055, .iconst 3, 0, 0, []), (1056, .iadd, 0, 0, []), (1057, .iaload, 0, 0, []), (1058, .invokevirtual 121, 211, 0, []), (1061, .if_icmp .eq 907, 1342, 0, []), (1064, .iconst 0, 0, 0, []), (1065, .ireturn, 0, 0, []), (1066, .aload_n 1, 0, 0, []), (1067, .aload_n 0, 0, 0, []), (1068, .iload_n 3, 0, 0, []), (1069, .iconst 1, 0, 0, []), (1070, .iadd, 0, 0, []), (1071, .iaload, 0, 0, [])]
def kL_law_13 : List EI := [(1072, .invokevirtual 122, 99, 0, []), (1075, .aload_n 2, 0, 0, []), (1076, .aload_n 0, 0, 0, []), (1077, .iload_n 3, 0, 0, []), (1078, .iconst 1, 0, 0, []), (1079, .iadd, 0, 0, []), (1080, .iaload, 0, 0, []), (1081, .invokevirtual 125, 214, 0, []), (1084, .if_icmp .eq 884, 1342, 0, []), (1087, .iconst 0, 0, 0, []), (1088, .ireturn, 0, 0, []), (1089, .aload_n 1, 0, 0, []), (1090, .aload_n 0, 0, 0, []), (1091, .iload_n 3, 0, 0, []), (1092, .iconst 1, 0, 0, []), (1093, .iadd, 0, 0, []), (1094, .iaload, 0, 0, []), (1095, .invokevirtual 126, 101, 0, []), (1098, .aload_n 2, 0, 0, []), (1099, .aload_n 0, 0, 0, []), (1100, .iload_n 3, 0, 0, []), (1101, .iconst 1, 0, 0, []), (1102, .iadd, 0, 0, []), (1103, .iaload, 0, 0, []), (1104, .invokevirtual 129, 216, 0, []), (1107, .if_icmp .eq 861, 1342, 0, []), (1110, .iconst 0, 0, 0, []), (1111, .ireturn, 0, 0, []), (1112, .aload_n 1, 0, 0, []), (1113, .aload_n 0, 0, 0, []), (1114, .iload_n 3, 0, 0, []), (1115, .iconst 1, 0, 0, []), (1116, .iadd, 0, 0, []), (1117, .iaload, 0, 0, []), (1118, .invokevirtual 130, 103, 0, []), (1121, .aload_n 2, 0, 0, []), (1122, .aload_n 0, 0, 0, []), (1123, .iload_n 3, 0, 0, []), (1124, .iconst 1, 0, 0, []), (1125, .iadd, 0, 0, []), (1126, .iaload, 0, 0, []), (1127, .invokevirtual 133, 219, 0, []), (1130, .if_icmp .eq 838, 1342, 0, []), (1133, .iconst 0, 0, 0, []), (1134, .ireturn, 0, 0, []), (1135, .aload_n 1, 0, 0, []), (1136, .aload_n 0, 0, 0, []), (1137, .iload_n 3, 0, 0, []), (1138, .iconst 1, 0, 0, []), (1139, .iadd, 0, 0, [])]
def kL_law_14 : List EI := [(1140, .iaload, 0, 0, []), (1141, .aload_n 0, 0, 0, []), (1142, .iload_n 3, 0, 0, []), (1143, .iconst 2, 0, 0, []), (1144, .iadd, 0, 0, []), (1145, .iaload, 0, 0, []), (1146, .invokevirtual 134, 108, 0, []), (1149, .aload_n 2, 0, 0, []), (1150, .aload_n 0, 0, 0, []), (1151, .iload_n 3, 0, 0, []), (1152, .iconst 1, 0, 0, []), (1153, .iadd, 0, 0, []), (1154, .iaload, 0, 0, []), (1155, .aload_n 0, 0, 0, []), (1156, .iload_n 3, 0, 0, []), (1157, .iconst 2, 0, 0, []), (1158, .iadd, 0, 0, []), (1159, .iaload, 0, 0, []), (1160, .invokevirtual 137, 212, 0, []), (1163, .if_icmp .eq 805, 1342, 0, []), (1166, .iconst 0, 0, 0, []), (1167, .ireturn, 0, 0, []), (1168, .aload_n 1, 0, 0, []), (1169, .aload_n 0, 0, 0, []), (1170, .iload_n 3, 0, 0, []), (1171, .iconst 1, 0, 0, []), (1172, .iadd, 0, 0, []), (1173, .iaload, 0, 0, []), (1174, .aload_n 0, 0, 0, []), (1175, .iload_n 3, 0, 0, []), (1176, .iconst 2, 0, 0, []), (1177, .iadd, 0, 0, []), (1178, .iaload, 0, 0, []), (1179, .invokevirtual 138, 109, 0, []), (1182, .aload_n 2, 0, 0, []), (1183, .aload_n 0, 0, 0, []), (1184, .iload_n 3, 0, 0, []), (1185, .iconst 1, 0, 0, []), (1186, .iadd, 0, 0, []), (1187, .iaload, 0, 0, []), (1188, .aload_n 0, 0, 0, []), (1189, .iload_n 3, 0, 0, []), (1190, .iconst 2, 0, 0, []), (1191, .iadd, 0, 0, []), (1192, .iaload, 0, 0, []), (1193, .invokevirtual 141, 222, 0, []), (1196, .if_icmp .eq 772, 1342, 0, []), (1199, .iconst 0, 0, 0, []), (1200, .ireturn, 0, 0, []), (1201, .aload_n 1, 0, 0, [])]
def kL_law_15 : List EI := [(1202, .aload_n 0, 0, 0, []), (1203, .iload_n 3, 0, 0, []), (1204, .iconst 1, 0, 0, []), (1205, .iadd, 0, 0, []), (1206, .iaload, 0, 0, []), (1207, .aload_n 0, 0, 0, []), (1208, .iload_n 3, 0, 0, []), (1209, .iconst 2, 0, 0, []), (1210, .iadd, 0, 0, []), (1211, .iaload, 0, 0, []), (1212, .aload_n 0, 0, 0, []), (1213, .iload_n 3, 0, 0, []), (1214, .iconst 3, 0, 0, []), (1215, .iadd, 0, 0, []), (1216, .iaload, 0, 0, []), (1217, .invokevirtual 142, 110, 0, []), (1220, .aload_n 2, 0, 0, []), (1221, .aload_n 0, 0, 0, []), (1222, .iload_n 3, 0, 0, []), (1223, .iconst 1, 0, 0, []), (1224, .iadd, 0, 0, []), (1225, .iaload, 0, 0, []), (1226, .aload_n 0, 0, 0, []), (1227, .iload_n 3, 0, 0, []), (1228, .iconst 2, 0, 0, []), (1229, .iadd, 0, 0, []), (1230, .iaload, 0, 0, []), (1231, .aload_n 0, 0, 0, []), (1232, .iload_n 3, 0, 0, []), (1233, .iconst 3, 0, 0, []), (1234, .iadd, 0, 0, []), (1235, .iaload, 0, 0, []), (1236, .invokevirtual 145, 223, 0, []), (1239, .if_icmp .eq 729, 1342, 0, []), (1242, .iconst 0, 0, 0, []), (1243, .ireturn, 0, 0, []), (1244, .aload_n 1, 0, 0, []), (1245, .aload_n 0, 0, 0, []), (1246, .iload_n 3, 0, 0, []), (1247, .iconst 1, 0, 0, []), (1248, .iadd, 0, 0, []), (1249, .iaload, 0, 0, []), (1250, .invokevirtual 146, 111, 0, []), (1253, .aload_n 2, 0, 0, []), (1254, .aload_n 0, 0, 0, []), (1255, .iload_n 3, 0, 0, []), (1256, .iconst 1, 0, 0, []), (1257, .iadd, 0, 0, []), (1258, .iaload, 0, 0, []), (1259, .invokevirtual 149, 224, 0, [])]
def kL_law_16 : List EI := [(1262, .if_icmp .eq 706, 1342, 0, []), (1265, .iconst 0, 0, 0, []), (1266, .ireturn, 0, 0, []), (1267, .aload_n 1, 0, 0, []), (1268, .aload_n 0, 0, 0, []), (1269, .iload_n 3, 0, 0, []), (1270, .iconst 1, 0, 0, []), (1271, .iadd, 0, 0, []), (1272, .iaload, 0, 0, []), (1273, .aload_n 0, 0, 0, []), (1274, .iload_n 3, 0, 0, []), (1275, .iconst 2, 0, 0, []), (1276, .iadd, 0, 0, []), (1277, .iaload, 0, 0, []), (1278, .invokevirtual 150, 112, 0, []), (1281, .aload_n 2, 0, 0, []), (1282, .aload_n 0, 0, 0, []), (1283, .iload_n 3, 0, 0, []), (1284, .iconst 1, 0, 0, []), (1285, .iadd, 0, 0, []), (1286, .iaload, 0, 0, []), (1287, .aload_n 0, 0, 0, []), (1288, .iload_n 3, 0, 0, []), (1289, .iconst 2, 0, 0, []), (1290, .iadd, 0, 0, []), (1291, .iaload, 0, 0, []), (1292, .invokevirtual 153, 225, 0, []), (1295, .if_icmp .eq 673, 1342, 0, []), (1298, .iconst 0, 0, 0, []), (1299, .ireturn, 0, 0, []), (1300, .aload_n 1, 0, 0, []), (1301, .aload_n 0, 0, 0, []), (1302, .iload_n 3, 0, 0, []), (1303, .iconst 1, 0, 0, []), (1304, .iadd, 0, 0, []), (1305, .iaload, 0, 0, []), (1306, .aload_n 0, 0, 0, []), (1307, .iload_n 3, 0, 0, []), (1308, .iconst 2, 0, 0, []), (1309, .iadd, 0, 0, []), (1310, .iaload, 0, 0, []), (1311, .invokevirtual 154, 113, 0, []), (1314, .aload_n 2, 0, 0, []), (1315, .aload_n 0, 0, 0, []), (1316, .iload_n 3, 0, 0, []), (1317, .iconst 1, 0, 0, []), (1318, .iadd, 0, 0, []), (1319, .iaload, 0, 0, []), (1320, .aload_n 0, 0, 0, []), (1321, .iload_n 3, 0, 0, [])]
def kL_law_17 : List EI := [(1322, .iconst 2, 0, 0, []), (1323, .iadd, 0, 0, []), (1324, .iaload, 0, 0, []), (1325, .invokevirtual 157, 228, 0, []), (1328, .if_icmp .eq 640, 1342, 0, []), (1331, .iconst 0, 0, 0, []), (1332, .ireturn, 0, 0, []), (1333, .aload_n 1, 0, 0, []), (1334, .aload_n 0, 0, 0, []), (1335, .iload_n 3, 0, 0, []), (1336, .iconst 1, 0, 0, []), (1337, .iadd, 0, 0, []), (1338, .iaload, 0, 0, []), (1339, .invokevirtual 158, 115, 0, []), (1342, .aload_n 2, 0, 0, []), (1343, .aload_n 0, 0, 0, []), (1344, .iload_n 3, 0, 0, []), (1345, .iconst 1, 0, 0, []), (1346, .iadd, 0, 0, []), (1347, .iaload, 0, 0, []), (1348, .invokevirtual 161, 229, 0, []), (1351, .if_icmp .eq 617, 1342, 0, []), (1354, .iconst 0, 0, 0, []), (1355, .ireturn, 0, 0, []), (1356, .aload_n 1, 0, 0, []), (1357, .aload_n 0, 0, 0, []), (1358, .iload_n 3, 0, 0, []), (1359, .iconst 1, 0, 0, []), (1360, .iadd, 0, 0, []), (1361, .iaload, 0, 0, []), (1362, .invokevirtual 162, 116, 0, []), (1365, .aload_n 2, 0, 0, []), (1366, .aload_n 0, 0, 0, []), (1367, .iload_n 3, 0, 0, []), (1368, .iconst 1, 0, 0, []), (1369, .iadd, 0, 0, []), (1370, .iaload, 0, 0, []), (1371, .invokevirtual 165, 231, 0, []), (1374, .if_icmp .eq 594, 1342, 0, []), (1377, .iconst 0, 0, 0, []), (1378, .ireturn, 0, 0, []), (1379, .aload_n 1, 0, 0, []), (1380, .aload_n 0, 0, 0, []), (1381, .iload_n 3, 0, 0, []), (1382, .iconst 1, 0, 0, []), (1383, .iadd, 0, 0, []), (1384, .iaload, 0, 0, []), (1385, .invokevirtual 166, 117, 0, []), (1388, .aload_n 2, 0, 0, []), (1389, .aload_n 0, 0, 0, [])]
def kL_law_18 : List EI := [(1390, .iload_n 3, 0, 0, []), (1391, .iconst 1, 0, 0, []), (1392, .iadd, 0, 0, []), (1393, .iaload, 0, 0, []), (1394, .invokevirtual 169, 232, 0, []), (1397, .if_icmp .eq 571, 1342, 0, []), (1400, .iconst 0, 0, 0, []), (1401, .ireturn, 0, 0, []), (1402, .aload_n 1, 0, 0, []), (1403, .aload_n 0, 0, 0, []), (1404, .iload_n 3, 0, 0, []), (1405, .iconst 1, 0, 0, []), (1406, .iadd, 0, 0, []), (1407, .iaload, 0, 0, []), (1408, .invokevirtual 170, 118, 0, []), (1411, .aload_n 2, 0, 0, []), (1412, .aload_n 0, 0, 0, []), (1413, .iload_n 3, 0, 0, []), (1414, .iconst 1, 0, 0, []), (1415, .iadd, 0, 0, []), (1416, .iaload, 0, 0, []), (1417, .invokevirtual 173, 233, 0, []), (1420, .if_icmp .eq 548, 1342, 0, []), (1423, .iconst 0, 0, 0, []), (1424, .ireturn, 0, 0, []), (1425, .aload_n 1, 0, 0, []), (1426, .aload_n 0, 0, 0, []), (1427, .iload_n 3, 0, 0, []), (1428, .iconst 1, 0, 0, []), (1429, .iadd, 0, 0, []), (1430, .iaload, 0, 0, []), (1431, .aload_n 0, 0, 0, []), (1432, .iload_n 3, 0, 0, []), (1433, .iconst 2, 0, 0, []), (1434, .iadd, 0, 0, []), (1435, .iaload, 0, 0, []), (1436, .invokevirtual 174, 120, 0, []), (1439, .aload_n 2, 0, 0, []), (1440, .aload_n 0, 0, 0, []), (1441, .iload_n 3, 0, 0, []), (1442, .iconst 1, 0, 0, []), (1443, .iadd, 0, 0, []), (1444, .iaload, 0, 0, []), (1445, .aload_n 0, 0, 0, []), (1446, .iload_n 3, 0, 0, []), (1447, .iconst 2, 0, 0, []), (1448, .iadd, 0, 0, []), (1449, .iaload, 0, 0, []), (1450, .invokevirtual 177, 234, 0, []), (1453, .if_icmp .eq 515, 1342, 0, [])]
def kL_law_19 : List EI := [(1456, .iconst 0, 0, 0, []), (1457, .ireturn, 0, 0, []), (1458, .aload_n 1, 0, 0, []), (1459, .aload_n 0, 0, 0, []), (1460, .iload_n 3, 0, 0, []), (1461, .iconst 1, 0, 0, []), (1462, .iadd, 0, 0, []), (1463, .iaload, 0, 0, []), (1464, .invokevirtual 178, 121, 0, []), (1467, .aload_n 2, 0, 0, []), (1468, .aload_n 0, 0, 0, []), (1469, .iload_n 3, 0, 0, []), (1470, .iconst 1, 0, 0, []), (1471, .iadd, 0, 0, []), (1472, .iaload, 0, 0, []), (1473, .invokevirtual 181, 235, 0, []), (1476, .if_icmp .eq 492, 1342, 0, []), (1479, .iconst 0, 0, 0, []), (1480, .ireturn, 0, 0, []), (1481, .aload_n 1, 0, 0, []), (1482, .invokevirtual 182, 122, 0, []), (1485, .aload_n 2, 0, 0, []), (1486, .invokevirtual 185, 236, 0, []), (1489, .if_icmp .eq 479, 1342, 0, []), (1492, .iconst 0, 0, 0, []), (1493, .ireturn, 0, 0, []), (1494, .aload_n 1, 0, 0, []), (1495, .aload_n 0, 0, 0, []), (1496, .iload_n 3, 0, 0, []), (1497, .iconst 1, 0, 0, []), (1498, .iadd, 0, 0, []), (1499, .iaload, 0, 0, []), (1500, .invokevirtual 186, 123, 0, []), (1503, .aload_n 2, 0, 0, []), (1504, .aload_n 0, 0, 0, []), (1505, .iload_n 3, 0, 0, []), (1506, .iconst 1, 0, 0, []), (1507, .iadd, 0, 0, []), (1508, .iaload, 0, 0, []), (1509, .invokevirtual 189, 238, 0, []), (1512, .if_icmp .eq 456, 1342, 0, []), (1515, .iconst 0, 0, 0, []), (1516, .ireturn, 0, 0, []), (1517, .aload_n 1, 0, 0, []), (1518, .aload_n 0, 0, 0, []), (1519, .iload_n 3, 0, 0, []), (1520, .iconst 1, 0, 0, []), (1521, .iadd, 0, 0, []), (1522, .iaload, 0, 0, []), (1523, .invokevirtual 190, 124, 0, [])]
def kL_law_20 : List EI := [(1526, .aload_n 2, 0, 0, []), (1527, .aload_n 0, 0, 0, []), (1528, .iload_n 3, 0, 0, []), (1529, .iconst 1, 0, 0, []), (1530, .iadd, 0, 0, []), (1531, .iaload, 0, 0, []), (1532, .invokevirtual 193, 240, 0, []), (1535, .if_icmp .eq 433, 1342, 0, []), (1538, .iconst 0, 0, 0, []), (1539, .ireturn, 0, 0, []), (1540, .aload_n 1, 0, 0, []), (1541, .aload_n 0, 0, 0, []), (1542, .iload_n 3, 0, 0, []), (1543, .iconst 1, 0, 0, []), (1544, .iadd, 0, 0, []), (1545, .iaload, 0, 0, []), (1546, .aload_n 0, 0, 0, []), (1547, .iload_n 3, 0, 0, []), (1548, .iconst 2, 0, 0, []), (1549, .iadd, 0, 0, []), (1550, .iaload, 0, 0, []), (1551, .invokevirtual 194, 125, 0, []), (1554, .aload_n 2, 0, 0, []), (1555, .aload_n 0, 0, 0, []), (1556, .iload_n 3, 0, 0, []), (1557, .iconst 1, 0, 0, []), (1558, .iadd, 0, 0, []), (1559, .iaload, 0, 0, []), (1560, .aload_n 0, 0, 0, []), (1561, .iload_n 3, 0, 0, []), (1562, .iconst 2, 0, 0, []), (1563, .iadd, 0, 0, []), (1564, .iaload, 0, 0, []), (1565, .invokevirtual 197, 242, 0, []), (1568, .if_icmp .eq 400, 1342, 0, []), (1571, .iconst 0, 0, 0, []), (1572, .ireturn, 0, 0, []), (1573, .aload_n 1, 0, 0, []), (1574, .invokevirtual 198, 126, 0, []), (1577, .aload_n 2, 0, 0, []), (1578, .invokevirtual 201, 244, 0, []), (1581, .if_icmp .eq 387, 1342, 0, []), (1584, .iconst 0, 0, 0, []), (1585, .ireturn, 0, 0, []), (1586, .aload_n 1, 0, 0, []), (1587, .aload_n 0, 0, 0, []), (1588, .iload_n 3, 0, 0, []), (1589, .iconst 1, 0, 0, []), (1590, .iadd, 0, 0, []), (1591, .iaload, 0, 0, [])]
def kL_law_21 : List EI := [(1592, .aload_n 0, 0, 0, []), (1593, .iload_n 3, 0, 0, []), (1594, .iconst 2, 0, 0, []), (1595, .iadd, 0, 0, []), (1596, .iaload, 0, 0, []), (1597, .invokevirtual 202, 127, 0, []), (1600, .aload_n 2, 0, 0, []), (1601, .aload_n 0, 0, 0, []), (1602, .iload_n 3, 0, 0, []), (1603, .iconst 1, 0, 0, []), (1604, .iadd, 0, 0, []), (1605, .iaload, 0, 0, []), (1606, .aload_n 0, 0, 0, []), (1607, .iload_n 3, 0, 0, []), (1608, .iconst 2, 0, 0, []), (1609, .iadd, 0, 0, []), (1610, .iaload, 0, 0, []), (1611, .invokevirtual 205, 245, 0, []), (1614, .if_icmp .eq 354, 1342, 0, []), (1617, .iconst 0, 0, 0, []), (1618, .ireturn, 0, 0, []), (1619, .aload_n 1, 0, 0, []), (1620, .aload_n 0, 0, 0, []), (1621, .iload_n 3, 0, 0, []), (1622, .iconst 1, 0, 0, []), (1623, .iadd, 0, 0, []), (1624, .iaload, 0, 0, []), (1625, .aload_n 0, 0, 0, []), (1626, .iload_n 3, 0, 0, []), (1627, .iconst 2, 0, 0, []), (1628, .iadd, 0, 0, []), (1629, .iaload, 0, 0, []), (1630, .invokevirtual 206, 128, 0, []), (1633, .aload_n 2, 0, 0, []), (1634, .aload_n 0, 0, 0, []), (1635, .iload_n 3, 0, 0, []), (1636, .iconst 1, 0, 0, []), (1637, .iadd, 0, 0, []), (1638, .iaload, 0, 0, []), (1639, .aload_n 0, 0, 0, []), (1640, .iload_n 3, 0, 0, []), (1641, .iconst 2, 0, 0, []), (1642, .iadd, 0, 0, []), (1643, .iaload, 0, 0, []), (1644, .invokevirtual 209, 246, 0, []), (1647, .if_icmp .eq 321, 1342, 0, []), (1650, .iconst 0, 0, 0, []), (1651, .ireturn, 0, 0, []), (1652, .aload_n 1, 0, 0, []), (1653, .aload_n 0, 0, 0, [])]
def kL_law_22 : List EI := [(1654, .iload_n 3, 0, 0, []), (1655, .iconst 1, 0, 0, []), (1656, .iadd, 0, 0, []), (1657, .iaload, 0, 0, []), (1658, .aload_n 0, 0, 0, []), (1659, .iload_n 3, 0, 0, []), (1660, .iconst 2, 0, 0, []), (1661, .iadd, 0, 0, []), (1662, .iaload, 0, 0, []), (1663, .invokevirtual 210, 129, 0, []), (1666, .aload_n 2, 0, 0, []), (1667, .aload_n 0, 0, 0, []), (1668, .iload_n 3, 0, 0, []), (1669, .iconst 1, 0, 0, []), (1670, .iadd, 0, 0, []), (1671, .iaload, 0, 0, []), (1672, .aload_n 0, 0, 0, []), (1673, .iload_n 3, 0, 0, []), (1674, .iconst 2, 0, 0, []), (1675, .iadd, 0, 0, []), (1676, .iaload, 0, 0, []), (1677, .invokevirtual 213, 247, 0, []), (1680, .if_icmp .eq 288, 1342, 0, []), (1683, .iconst 0, 0, 0, []), (1684, .ireturn, 0, 0, []), (1685, .aload_n 1, 0, 0, []), (1686, .aload_n 0, 0, 0, []), (1687, .iload_n 3, 0, 0, []), (1688, .iconst 1, 0, 0, []), (1689, .iadd, 0, 0, []), (1690, .iaload, 0, 0, []), (1691, .aload_n 0, 0, 0, []), (1692, .iload_n 3, 0, 0, []), (1693, .iconst 2, 0, 0, []), (1694, .iadd, 0, 0, []), (1695, .iaload, 0, 0, []), (1696, .invokevirtual 214, 130, 0, []), (1699, .aload_n 2, 0, 0, []), (1700, .aload_n 0, 0, 0, []), (1701, .iload_n 3, 0, 0, []), (1702, .iconst 1, 0, 0, []), (1703, .iadd, 0, 0, []), (1704, .iaload, 0, 0, []), (1705, .aload_n 0, 0, 0, []), (1706, .iload_n 3, 0, 0, []), (1707, .iconst 2, 0, 0, []), (1708, .iadd, 0, 0, []), (1709, .iaload, 0, 0, []), (1710, .invokevirtual 217, 249, 0, []), (1713, .if_icmp .eq 255, 1342, 0, [])]
def kL_law_23 : List EI := [(1716, .iconst 0, 0, 0, []), (1717, .ireturn, 0, 0, []), (1718, .aload_n 1, 0, 0, []), (1719, .aload_n 0, 0, 0, []), (1720, .iload_n 3, 0, 0, []), (1721, .iconst 1, 0, 0, []), (1722, .iadd, 0, 0, []), (1723, .iaload, 0, 0, []), (1724, .aload_n 0, 0, 0, []), (1725, .iload_n 3, 0, 0, []), (1726, .iconst 2, 0, 0, []), (1727, .iadd, 0, 0, []), (1728, .iaload, 0, 0, []), (1729, .invokevirtual 218, 133, 0, []), (1732, .aload_n 2, 0, 0, []), (1733, .aload_n 0, 0, 0, []), (1734, .iload_n 3, 0, 0, []), (1735, .iconst 1, 0, 0, []), (1736, .iadd, 0, 0, []), (1737, .iaload, 0, 0, []), (1738, .aload_n 0, 0, 0, []), (1739, .iload_n 3, 0, 0, []), (1740, .iconst 2, 0, 0, []), (1741, .iadd, 0, 0, []), (1742, .iaload, 0, 0, []), (1743, .invokevirtual 221, 252, 0, []), (1746, .if_icmp .eq 222, 1342, 0, []), (1749, .iconst 0, 0, 0, []), (1750, .ireturn, 0, 0, []), (1751, .aload_n 1, 0, 0, []), (1752, .aload_n 0, 0, 0, []), (1753, .iload_n 3, 0, 0, []), (1754, .iconst 1, 0, 0, []), (1755, .iadd, 0, 0, []), (1756, .iaload, 0, 0, []), (1757, .aload_n 0, 0, 0, []), (1758, .iload_n 3, 0, 0, []), (1759, .iconst 2, 0, 0, []), (1760, .iadd, 0, 0, []), (1761, .iaload, 0, 0, []), (1762, .invokevirtual 222, 134, 0, []), (1765, .aload_n 2, 0, 0, []), (1766, .aload_n 0, 0, 0, []), (1767, .iload_n 3, 0, 0, []), (1768, .iconst 1, 0, 0, []), (1769, .iadd, 0, 0, []), (1770, .iaload, 0, 0, []), (1771, .aload_n 0, 0, 0, []), (1772, .iload_n 3, 0, 0, []), (1773, .iconst 2, 0, 0, [])]
def kL_law_24 : List EI := [(1774, .iadd, 0, 0, []), (1775, .iaload, 0, 0, []), (1776, .invokevirtual 225, 254, 0, []), (1779, .if_icmp .eq 189, 1342, 0, []), (1782, .iconst 0, 0, 0, []), (1783, .ireturn, 0, 0, []), (1784, .aload_n 1, 0, 0, []), (1785, .aload_n 0, 0, 0, []), (1786, .iload_n 3, 0, 0, []), (1787, .iconst 1, 0, 0, []), (1788, .iadd, 0, 0, []), (1789, .iaload, 0, 0, []), (1790, .aload_n 0, 0, 0, []), (1791, .iload_n 3, 0, 0, []), (1792, .iconst 2, 0, 0, []), (1793, .iadd, 0, 0, []), (1794, .iaload, 0, 0, []), (1795, .aload_n 0, 0, 0, []), (1796, .iload_n 3, 0, 0, []), (1797, .iconst 3, 0, 0, []), (1798, .iadd, 0, 0, []), (1799, .iaload, 0, 0, []), (1800, .invokevirtual 226, 135, 0, []), (1803, .aload_n 2, 0, 0, []), (1804, .aload_n 0, 0, 0, []), (1805, .iload_n 3, 0, 0, []), (1806, .iconst 1, 0, 0, []), (1807, .iadd, 0, 0, []), (1808, .iaload, 0, 0, []), (1809, .aload_n 0, 0, 0, []), (1810, .iload_n 3, 0, 0, []), (1811, .iconst 2, 0, 0, []), (1812, .iadd, 0, 0, []), (1813, .iaload, 0, 0, []), (1814, .aload_n 0, 0, 0, []), (1815, .iload_n 3, 0, 0, []), (1816, .iconst 3, 0, 0, []), (1817, .iadd, 0, 0, []), (1818, .iaload, 0, 0, []), (1819, .invokevirtual 229, 248, 0, []), (1822, .if_icmp .eq 146, 1342, 0, []), (1825, .iconst 0, 0, 0, []), (1826, .ireturn, 0, 0, []), (1827, .aload_n 1, 0, 0, []), (1828, .aload_n 0, 0, 0, []), (1829, .iload_n 3, 0, 0, []), (1830, .iconst 1, 0, 0, []), (1831, .iadd, 0, 0, []), (1832, .iaload, 0, 0, []), (1833, .invokevirtual 230, 136, 0, [])]
def kL_law_25 : List EI := [(1836, .aload_n 2, 0, 0, []), (1837, .aload_n 0, 0, 0, []), (1838, .iload_n 3, 0, 0, []), (1839, .iconst 1, 0, 0, []), (1840, .iadd, 0, 0, []), (1841, .iaload, 0, 0, []), (1842, .invokevirtual 233, 255, 0, []), (1845, .if_icmp .eq 123, 1342, 0, []), (1848, .iconst 0, 0, 0, []), (1849, .ireturn, 0, 0, []), (1850, .aload_n 1, 0, 0, []), (1851, .invokevirtual 234, 137, 0, []), (1854, .aload_n 2, 0, 0, []), (1855, .invokevirtual 237, 256, 0, []), (1858, .if_icmp .eq 110, 1342, 0, []), (1861, .iconst 0, 0, 0, []), (1862, .ireturn, 0, 0, []), (1863, .aload_n 1, 0, 0, []), (1864, .invokevirtual 238, 138, 0, []), (1867, .aload_n 2, 0, 0, []), (1868, .invokevirtual 241, 257, 0, []), (1871, .if_icmp .eq 97, 1342, 0, []), (1874, .iconst 0, 0, 0, []), (1875, .ireturn, 0, 0, []), (1876, .aload_n 1, 0, 0, []), (1877, .aload_n 0, 0, 0, []), (1878, .iload_n 3, 0, 0, []), (1879, .iconst 1, 0, 0, []), (1880, .iadd, 0, 0, []), (1881, .iaload, 0, 0, []), (1882, .aload_n 0, 0, 0, []), (1883, .iload_n 3, 0, 0, []), (1884, .iconst 2, 0, 0, []), (1885, .iadd, 0, 0, []), (1886, .iaload, 0, 0, []), (1887, .aload_n 0, 0, 0, []), (1888, .iload_n 3, 0, 0, []), (1889, .iconst 3, 0, 0, []), (1890, .iadd, 0, 0, []), (1891, .iaload, 0, 0, []), (1892, .invokevirtual 242, 139, 0, []), (1895, .aload_n 2, 0, 0, []), (1896, .aload_n 0, 0, 0, []), (1897, .iload_n 3, 0, 0, []), (1898, .iconst 1, 0, 0, []), (1899, .iadd, 0, 0, []), (1900, .iaload, 0, 0, []), (1901, .aload_n 0, 0, 0, []), (1902, .iload_n 3, 0, 0, []), (1903, .iconst 2, 0, 0, [])]
def kL_law_26 : List EI := [(1904, .iadd, 0, 0, []), (1905, .iaload, 0, 0, []), (1906, .aload_n 0, 0, 0, []), (1907, .iload_n 3, 0, 0, []), (1908, .iconst 3, 0, 0, []), (1909, .iadd, 0, 0, []), (1910, .iaload, 0, 0, []), (1911, .invokevirtual 245, 258, 0, []), (1914, .if_icmp .eq 54, 1342, 0, []), (1917, .iconst 0, 0, 0, []), (1918, .ireturn, 0, 0, []), (1919, .aload_n 1, 0, 0, []), (1920, .invokevirtual 246, 140, 0, []), (1923, .aload_n 2, 0, 0, []), (1924, .invokevirtual 249, 169, 0, []), (1927, .if_icmp .eq 41, 1342, 0, []), (1930, .iconst 0, 0, 0, []), (1931, .ireturn, 0, 0, []), (1932, .aload_n 1, 0, 0, []), (1933, .invokevirtual 250, 141, 0, []), (1936, .aload_n 2, 0, 0, []), (1937, .invokevirtual 253, 170, 0, []), (1940, .if_icmp .eq 28, 1342, 0, []), (1943, .iconst 0, 0, 0, []), (1944, .ireturn, 0, 0, []), (1945, .aload_n 1, 0, 0, []), (1946, .aload_n 0, 0, 0, []), (1947, .iload_n 3, 0, 0, []), (1948, .iconst 1, 0, 0, []), (1949, .iadd, 0, 0, []), (1950, .iaload, 0, 0, []), (1951, .invokevirtual 254, 142, 0, []), (1954, .aload_n 2, 0, 0, []), (1955, .aload_n 0, 0, 0, []), (1956, .iload_n 3, 0, 0, []), (1957, .iconst 1, 0, 0, []), (1958, .iadd, 0, 0, []), (1959, .iaload, 0, 0, []), (1960, .invokevirtual 257, 259, 0, []), (1963, .if_icmp .eq 5, 1342, 0, []), (1966, .iconst 0, 0, 0, []), (1967, .ireturn, 0, 0, []), (1968, .iinc 3 5, 0, 0, []), (1971, .goto (-1953), 10, 0, []), (1974, .iconst 1, 0, 0, []), (1975, .ireturn, 0, 0, [])]
def kL_law : List EI := kL_law_0 ++ (kL_law_1 ++ (kL_law_2 ++ (kL_law_3 ++ (kL_law_4 ++ (kL_law_5 ++ (kL_law_6 ++ (kL_law_7 ++ (kL_law_8 ++ (kL_law_9 ++ (kL_law_10 ++ (kL_law_11 ++ (kL_law_12 ++ (kL_law_13 ++ (kL_law_14 ++ (kL_law_15 ++ (kL_law_16 ++ (kL_law_17 ++ (kL_law_18 ++ (kL_law_19 ++ (kL_law_20 ++ (kL_law_21 ++ (kL_law_22 ++ (kL_law_23 ++ (kL_law_24 ++ (kL_law_25 ++ (kL_law_26))))))))))))))))))))))))))
def eL_law : ME := (x, Jvm.Pilot.@@N@@.code, 4, ret, room_1, 1, 99, kL_law)
def meths_0 : List ME := [eX0_init, eX0_copyFrom, eX0_has, eX0_everybody, eX0_others, eX0_add, eX0_word, eX0_mean, eX0_passWeek, eX0_passWeeks, eX0_unlike, eX0_allErrors, eX0_fooledBy, eX0_apart, eX0_width, eX0_sources, eX0_allAskEachOther, eX0_untruth, eX0_askByLot, eX0_sum, eX1_init, eX1_add, eX1_read, eX1_digitsBehind, eX1_faultOfForm, eX1_digit, eX1_twoDigits, eX1_comesTrue, eX1_onePersonMore, eX1_oneAsks, eX1_oneBelieves, eX1_wayGoes, eX1_thingHangs, eX1_weeksPass, eX2_next, eX2_reach, eX2_distance, eX2_farthest, eX3_init, eX3_keep]
def meths_1 : List ME := [eX3_dropOldest, eX3_takeBack, eX4_init, eX4_copyFrom, eX4_join, eX4_countWays, eX4_glancesAt, eX4_bare, eX4_route, eX4_goOnFrom, eX4_routeCovered, eX5_init, eX5_copyFrom, eX6_init, eX6_refuse, eX6_first, eX6_noPerson, eX6_noTwo, eX6_noPlace, eX6_noPlaces, eX6_noChoice, eX6_outside, eX6_outside_, eX6_asksNobody, eX6_rowTooLong, eX6_isPlace, eX6_holds, eX6_fewer, eX6_leastOf, eX6_ahead, eX6_feed, eX6_town, eX6_person, eX6_comes, eX6_asks, eX6_believes, eX6_kind, eX6_way, eX6_hangs, eX6_week]
def meths_2 : List ME := [eX6_back, eX6_says, eX6_saysOf, eX6_belief, eX6_fooled, eX6_error, eX6_clash, eX6_settles, eX6_round, eX6_knows, eX6_nearest, eX6_errorBySet, eX6_fair, eX6_worth, eX6_newEar, eX6_errorsWithEar, eX6_sisters, eX6_cheat, eX6_fitsRow, eX6_thief, eX6_suspects, eX6_tellsMost, eX6_kindsOfWords, eX6_photos, eX6_fillCosts, eX6_costWith, eX6_photoOf, eX6_firstPhoto, eX6_barber, eX6_steps, eX6_glances, eX6_unseen, eX6_cover, eX6_bargain, eX6_townShare, eX6_strike, eX6_echo, eX6_loops, eX6_humble, eX6_aheadWithFigure]
def meths_3 : List ME := [eX6_highest, eX6_spread, eX6_pairs, eX6_calm, eX6_honest, eX6_chain, eX6_clique, eX6_cut, eX6_wanted, eX6_panel, eX6_tour, eX6_hasSeen, eX6_stepOn, eX6_narrows, eX6_middle, eX6_changed, eX6_row, eX6_judge, eX6_clear, eX6_lots, eX6_image, eX6_restore, eX6_count, eX7_init, eX7_no, eX7_lower, eX7_isIn, eX7_bound, eX7_has, eX7_bits, eX7_far, eX7_isPerson, eX7_areTwo, eX7_isPlace, eX7_all, eX7_feed, eX7_next, eX7_readsDigits, eX7_readsAll, eX7_statement]
def meths_4 : List ME := [eX7_comes, eX7_town, eX7_passes, eX7_passOne, eX7_passesAll, eX7_thinks, eX7_forgets, eX7_keepsBack, eX7_back, eX7_image, eX7_restore, eX7_adds, eX7_held, eX7_saidOf, eX7_meanOf, eX7_goesWeek, eX7_turnsWay, eX7_person, eX7_comes_, eX7_asks, eX7_believes, eX7_kind, eX7_way, eX7_hangs, eX7_week, eX7_says, eX7_saysOf, eX7_findWeeks, eX7_notWeeks, eX7_beliefAt, eX7_belief, eX7_fooledAt, eX7_errorAt, eX7_errorBehind, eX7_fooled, eX7_error, eX7_first, eX7_clash, eX7_areAlike, eX7_settles]
def meths_5 : List ME := [eX7_round, eX7_others, eX7_isOf, eX7_errorOf, eX7_knows, eX7_nearest, eX7_fair, eX7_worth, eX7_newEar, eX7_sisters, eX7_believesWith, eX7_cheat, eX7_barber, eX7_fits, eX7_thief, eX7_kindsBy, eX7_tellsMost, eX7_findPhotos, eX7_photoOf, eX7_photos, eX7_glanceOf, eX7_findWays, eX7_steps, eX7_glances, eX7_unseen, eX7_cover, eX7_hoursIn, eX7_townHas, eX7_bargain, eX7_strike, eX7_heardBy, eX7_echo, eX7_loops, eX7_humble, eX7_highest, eX7_spread, eX7_pairs, eX7_isCalm, eX7_calm, eX7_untrue]
def meths_6 : List ME := [eX7_honest, eX7_chainOf, eX7_chain, eX7_isClique, eX7_clique, eX7_cut, eX7_wanted, eX7_panel, eX7_changed, eX7_tour, eX7_stepsOn, eX7_isWayWithout, eX7_narrows, eX7_farthest, eX7_middle, eX7_row, eX7_judge, eX7_clear, eX7_lots, eX7_count, eJ6_bitCount_0f7a4, eJ9_abs_0f7a4, eJ9_max_7cf53, eJ9_min_7cf53, eJ7_fill_53178]
def meths : List ME := meths_0 ++ (meths_1 ++ (meths_2 ++ (meths_3 ++ (meths_4 ++ (meths_5 ++ (meths_6))))))
end
section
/-! METHODS AS FUNCTIONS: a method's function reads and writes the heap of the abstract machine; the shapes are those that stand when the law's objects are made -/
/-- the shapes behind the law's two constructors: the object, its parts, the reference's object, its arrays -/
def SHF : SH := [(0, 5), (0, 4), (0, 0), (1, 7), (1, 7), (1, 7), (1, 7), (1, 7), (1, 7), (0, 3), (1, 8), (1, 8), (1, 8), (0, 4), (0, 0), (1, 7), (1, 7), (1, 7), (1, 7), (1, 7), (1, 7), (0, 3), (1, 8), (1, 8), (1, 8), (0, 4), (0, 0), (1, 7), (1, 7), (1, 7), (1, 7), (1, 7), (1, 7), (0, 3), (1, 8), (1, 8), (1, 8), (0, 0), (1, 7), (1, 7), (1, 7), (1, 7), (1, 7), (1, 7), (0, 2), (2, 8), (0, 0), (1, 7), (1, 7), (1, 7), (1, 7), (1, 7), (1, 7), (0, 0), (1, 7), (1, 7), (1, 7), (1, 7), (1, 7), (1, 7), (0, 0), (1, 7), (1, 7), (1, 7), (1, 7), (1, 7), (1, 7), (0, 0), (1, 7), (1, 7), (1, 7), (1, 7), (1, 7), (1, 7), (0, 0), (1, 7), (1, 7), (1, 7), (1, 7), (1, 7), (1, 7), (0, 0), (1, 7), (1, 7), (1, 7), (1, 7), (1, 7), (1, 7), (0, 0), (1, 7), (1, 7), (1, 7), (1, 7), (1, 7), (1, 7), (0, 0), (1, 7), (1, 7), (1, 7), (1, 7), (1, 7), (1, 7), (0, 1), (1, 96), (1, 12), (1, 7), (1, 100), (1, 128), (1, 256), (1, 256), (0, 6), (1, 7), (1, 7), (1, 7), (1, 7), (1, 7), (1, 7), (1, 8), (1, 8), (1, 96), (1, 48), (1, 48), (1, 144), (1, 660), (1, 7), (1, 868), (1, 12), (1, 100), (1, 128), (1, 8), (1, 2048)]
theorem shf_lt {i : Nat} {x : Nat × Nat} (h : SHF[i]? = some x) : ¬ i = SCR := by
  have := (List.getElem?_eq_some_iff.mp h).1
  have hl : SHF.length = 131 := rfl
  rw [hl] at this
  unfold SCR
  omega
def M (α : Type) : Type := HP → Option (α × HP)
def rt {α : Type} (v : α) : M α := fun h => some (v, h)
def retZ (v : Int32) : M Int32 := fun h => if v = 0 ∨ v = 1 then some (v, h) else none
def bnd {α β : Type} (x : M α) (f : α → M β) : M β := fun h => (x h).bind fun q => f q.1 q.2
def jn {α β : Type} (F : (α → M β) → M β) (G : α → M β) : M β := F G
def loopK {σ β : Type} : Nat → (σ → (σ → M β) → M β) → σ → M β
  | 0, _, _ => fun _ => none
  | n + 1, B, s => B s (loopK n B)
def NF : Nat := 1000000
def gI (ci k : Nat) (a : Nat) : M Int32 := fun h => if SHF[a]? = some (0, ci) then some (h.1 a k, h) else none
def gR (ci k : Nat) (a : Nat) : M Nat := fun h => if SHF[a]? = some (0, ci) then (h.2 a k).map fun r => (r, h) else none
def pI (ci k : Nat) (a : Nat) (v : Int32) : M Unit := fun h => if SHF[a]? = some (0, ci) then some ((), (setR h.1 a (upd (h.1 a) k v), h.2)) else none
def pZ (ci k : Nat) (a : Nat) (v : Int32) : M Unit := fun h => if SHF[a]? = some (0, ci) ∧ (v = 0 ∨ v = 1) then some ((), (setR h.1 a (upd (h.1 a) k v), h.2)) else none
def aI (a : Nat) (i : Int32) : M Int32 := fun h => match SHF[a]? with
  | some (1, n) => if ¬ (i < 0 ∨ n ≤ i.toNatClampNeg) then some (h.1 a i.toNatClampNeg, h) else none
  | _ => none
def sI (a : Nat) (i v : Int32) : M Unit := fun h => match SHF[a]? with
  | some (1, n) => if ¬ (i < 0 ∨ n ≤ i.toNatClampNeg) then some ((), (setR h.1 a (upd (h.1 a) i.toNatClampNeg v), h.2)) else none
  | _ => none
def aR (a : Nat) (i : Int32) : M Nat := fun h => match SHF[a]? with
  | some (2, n) => if ¬ (i < 0 ∨ n ≤ i.toNatClampNeg) then (h.2 a i.toNatClampNeg).map fun r => (r, h) else none
  | _ => none
def sR (a : Nat) (i : Int32) (q : Nat) : M Unit := fun h => match SHF[a]? with
  | some (2, n) => if SHF[q]? = some (0, 0) ∧ ¬ (i < 0 ∨ n ≤ i.toNatClampNeg) then some ((), (h.1, setR h.2 a (va_up (h.2 a) i.toNatClampNeg (some q)))) else none
  | _ => none
def len (a : Nat) : M Int32 := fun h => match SHF[a]? with
  | some (1, n) => some (Int32.ofNat n, h)
  | some (2, n) => some (Int32.ofNat n, h)
  | _ => none
def divM (x y : Int32) : M Int32 := fun h => if y = 0 then none else some (x / y, h)
def remM (x y : Int32) : M Int32 := fun h => if y = 0 then none else some (x - x / y * y, h)
def cpy (o : Nat) (sp : Int32) (d : Nat) (dp n : Int32) : M Unit := fun h => match SHF[o]?, SHF[d]? with
  | some (1, n0), some (1, n1) => if ¬ sp < 0 ∧ ¬ dp < 0 ∧ ¬ n < 0 ∧ sp.toNatClampNeg + n.toNatClampNeg ≤ n0 ∧ dp.toNatClampNeg + n.toNatClampNeg ≤ n1 then some ((), (setR h.1 d (va_cpy (h.1 o) (h.1 d) sp.toNatClampNeg dp.toNatClampNeg n.toNatClampNeg), h.2)) else none
  | _, _ => none
/-- a call on an object: it is of that class -/
def cv {α : Type} (ci o : Nat) (m : M α) : M α := fun h => if SHF[o]? = some (0, ci) then m h else none
def scrM (scr : Option (Nat × (Nat → Int32))) (i : Int32) : M Int32 := fun h => match scr with
  | some q => if ¬ (i < 0 ∨ q.1 ≤ i.toNatClampNeg) then some (q.2 i.toNatClampNeg, h) else none
  | none => none
def scrN (scr : Option (Nat × (Nat → Int32))) : M Int32 := fun h => match scr with
  | some q => some (Int32.ofNat q.1, h)
  | none => none
/-- a run of a method from a place on, with an end -/
def Rn (scr : Option (Nat × (Nat → Int32))) (cs sl : Nat) (me : ME) (j : Nat) (L : List (Option Value)) (st : List Value) (hp : HP) (res : Option Value × HP) : Prop := ∃ n, exF meths n scr me j L st cs sl SHF hp = some (res.1, cs, sl, SHF, res.2)
def eI (r : Int32) : Option Value := some (.int r)
def eU (_ : Unit) : Option Value := none
def eR (r : Nat) : Option Value := some (.ref r)
theorem exF_mono {ms : List ME} : ∀ (n k : Nat) {scr : Option (Nat × (Nat → Int32))} {me : ME} {j : Nat} {L : List (Option Value)} {st : List Value} {cs sl : Nat} {sh : SH} {hp : HP} {r : RS}, exF ms n scr me j L st cs sl sh hp = some r → exF ms (n + k) scr me j L st cs sl sh hp = some r := by
  intro n
  induction n with
  | zero => intro k scr me j L st cs sl sh hp r h; cases h
  | succ n ih =>
    intro k scr me j L st cs sl sh hp r h
    rw [Nat.succ_add]
    simp only [exF, Option.bind_eq_some_iff] at h ⊢
    obtain ⟨e, he, h⟩ := h
    refine ⟨e, he, ?_⟩
    split at h
    · rename_i h1
      rw [if_pos h1]; exact h
    · rename_i h1
      rw [if_neg h1]
      split at h
      · rename_i h2
        rw [if_pos h2]
        simp only [Option.bind_eq_some_iff] at h ⊢
        obtain ⟨me', hm, h⟩ := h
        refine ⟨me', hm, ?_⟩
        split at h
        · rename_i h3
          rw [if_pos h3]
          simp only [Option.bind_eq_some_iff] at h ⊢
          obtain ⟨q, hq, h⟩ := h
          exact ⟨q, ih k hq, ih k h⟩
        · cases h
      · rename_i h2
        rw [if_neg h2]
        simp only [Option.bind_eq_some_iff] at h ⊢
        obtain ⟨q, hq, h⟩ := h
        exact ⟨q, hq, ih k h⟩
section RULES
variable {scr : Option (Nat × (Nat → Int32))} {cs sl : Nat} {me : ME} {j : Nat} {L : List (Option Value)} {st : List Value} {hp : HP} {res : Option Value × HP} {pc a b : Nat} {ts : List Nat}
theorem Rn.prim {e : EI} {j' : Nat} {L' : List (Option Value)} {st' : List Value} {hp' : HP} (he : (mCode me)[j]? = some e) (h1 : isRet e.2.1 = false) (h2 : isCall e.2.1 e.2.2.2.1 = false) (hp1 : prim (mRoom me) scr e j L st cs sl SHF hp = some (j', L', st', cs, sl, SHF, hp')) (h : Rn scr cs sl me j' L' st' hp' res) : Rn scr cs sl me j L st hp res := by
  obtain ⟨n, hn⟩ := h
  refine ⟨n + 1, ?_⟩
  simp only [exF, he, Option.bind_some, h1, h2, Bool.false_eq_true, if_false, hp1]
  exact hn
theorem r_iln {k : Fin 4} {i : Nat} {x : Int32} (he : (mCode me)[j]? = some (pc, .iload_n k, a, b, ts)) (hi : (k : Nat) = i) (hl : L[i]? = some (some (.int x))) (h : Rn scr cs sl me (j + 1) L (.int x :: st) hp res) : Rn scr cs sl me j L st hp res := by
  subst hi
  exact Rn.prim he rfl rfl (by simp only [prim, locI, hl]; rfl) h
theorem r_il {i : Nat} {x : Int32} (he : (mCode me)[j]? = some (pc, .iload i, a, b, ts)) (hl : L[i]? = some (some (.int x))) (h : Rn scr cs sl me (j + 1) L (.int x :: st) hp res) : Rn scr cs sl me j L st hp res :=
  Rn.prim he rfl rfl (by simp only [prim, locI, hl]; rfl) h
theorem r_aln {k : Fin 4} {i : Nat} {x : Nat} (he : (mCode me)[j]? = some (pc, .aload_n k, a, b, ts)) (hi : (k : Nat) = i) (hl : L[i]? = some (some (.ref x))) (h : Rn scr cs sl me (j + 1) L (.ref x :: st) hp res) : Rn scr cs sl me j L st hp res := by
  subst hi
  exact Rn.prim he rfl rfl (by simp only [prim, locR, hl]; rfl) h
theorem r_al {i : Nat} {x : Nat} (he : (mCode me)[j]? = some (pc, .aload i, a, b, ts)) (hl : L[i]? = some (some (.ref x))) (h : Rn scr cs sl me (j + 1) L (.ref x :: st) hp res) : Rn scr cs sl me j L st hp res :=
  Rn.prim he rfl rfl (by simp only [prim, locR, hl]; rfl) h
theorem r_isn {k : Fin 4} {i : Nat} {x : Int32} {L' : List (Option Value)} (he : (mCode me)[j]? = some (pc, .istore_n k, a, b, ts)) (hi : (k : Nat) = i) (hk : i < L.length) (hL : L.set i (some (.int x)) = L') (h : Rn scr cs sl me (j + 1) L' st hp res) : Rn scr cs sl me j L (.int x :: st) hp res := by
  subst hi; subst hL
  exact Rn.prim he rfl rfl (by simp only [prim, if_pos hk]) h
theorem r_is {i : Nat} {x : Int32} {L' : List (Option Value)} (he : (mCode me)[j]? = some (pc, .istore i, a, b, ts)) (hk : i < L.length) (hL : L.set i (some (.int x)) = L') (h : Rn scr cs sl me (j + 1) L' st hp res) : Rn scr cs sl me j L (.int x :: st) hp res := by
  subst hL
  exact Rn.prim he rfl rfl (by simp only [prim, if_pos hk]) h
theorem r_asn {k : Fin 4} {i : Nat} {x : Nat} {L' : List (Option Value)} (he : (mCode me)[j]? = some (pc, .astore_n k, a, b, ts)) (hi : (k : Nat) = i) (hk : i < L.length) (hL : L.set i (some (.ref x)) = L') (h : Rn scr cs sl me (j + 1) L' st hp res) : Rn scr cs sl me j L (.ref x :: st) hp res := by
  subst hi; subst hL
  exact Rn.prim he rfl rfl (by simp only [prim, if_pos hk]) h
theorem r_as {i : Nat} {x : Nat} {L' : List (Option Value)} (he : (mCode me)[j]? = some (pc, .astore i, a, b, ts)) (hk : i < L.length) (hL : L.set i (some (.ref x)) = L') (h : Rn scr cs sl me (j + 1) L' st hp res) : Rn scr cs sl me j L (.ref x :: st) hp res := by
  subst hL
  exact Rn.prim he rfl rfl (by simp only [prim, if_pos hk]) h
theorem r_ic {n : Int} {v : Int32} (he : (mCode me)[j]? = some (pc, .iconst n, a, b, ts)) (hv : Int32.ofInt n = v) (h : Rn scr cs sl me (j + 1) L (.int v :: st) hp res) : Rn scr cs sl me j L st hp res := by
  subst hv
  exact Rn.prim he rfl rfl rfl h
theorem r_bi {n : Int} {v : Int32} (he : (mCode me)[j]? = some (pc, .bipush n, a, b, ts)) (hv : (Int8.ofInt n).toInt32 = v) (h : Rn scr cs sl me (j + 1) L (.int v :: st) hp res) : Rn scr cs sl me j L st hp res := by
  subst hv
  exact Rn.prim he rfl rfl rfl h
theorem r_si {n : Int} {v : Int32} (he : (mCode me)[j]? = some (pc, .sipush n, a, b, ts)) (hv : (Int16.ofInt n).toInt32 = v) (h : Rn scr cs sl me (j + 1) L (.int v :: st) hp res) : Rn scr cs sl me j L st hp res := by
  subst hv
  exact Rn.prim he rfl rfl rfl h
theorem r_lc {i : Nat} {v : Int32} (he : (mCode me)[j]? = some (pc, .ldc i, a, b, ts)) (hv : Int32.ofNat a = v) (h : Rn scr cs sl me (j + 1) L (.int v :: st) hp res) : Rn scr cs sl me j L st hp res := by
  subst hv
  exact Rn.prim he rfl rfl rfl h
theorem r_lw {i : Nat} {v : Int32} (he : (mCode me)[j]? = some (pc, .ldc_w i, a, b, ts)) (hv : Int32.ofNat a = v) (h : Rn scr cs sl me (j + 1) L (.int v :: st) hp res) : Rn scr cs sl me j L st hp res := by
  subst hv
  exact Rn.prim he rfl rfl rfl h
theorem r_inc {i : Nat} {n : Int} {x v : Int32} {L' : List (Option Value)} (he : (mCode me)[j]? = some (pc, .iinc i n, a, b, ts)) (hl : L[i]? = some (some (.int x))) (hv : Int32.ofInt n = v) (hL : L.set i (some (.int (x + v))) = L') (h : Rn scr cs sl me (j + 1) L' st hp res) : Rn scr cs sl me j L st hp res := by
  subst hv; subst hL
  have hk : i < L.length := (List.getElem?_eq_some_iff.mp hl).1
  exact Rn.prim he rfl rfl (by simp only [prim, locI, hl, Option.bind_some, if_pos hk]) h
theorem r_add {x y : Int32} (he : (mCode me)[j]? = some (pc, .iadd, a, b, ts)) (h : Rn scr cs sl me (j + 1) L (.int (x + y) :: st) hp res) : Rn scr cs sl me j L (.int y :: .int x :: st) hp res := Rn.prim he rfl rfl rfl h
theorem r_sub {x y : Int32} (he : (mCode me)[j]? = some (pc, .isub, a, b, ts)) (h : Rn scr cs sl me (j + 1) L (.int (x - y) :: st) hp res) : Rn scr cs sl me j L (.int y :: .int x :: st) hp res := Rn.prim he rfl rfl rfl h
theorem r_mul {x y : Int32} (he : (mCode me)[j]? = some (pc, .imul, a, b, ts)) (h : Rn scr cs sl me (j + 1) L (.int (x * y) :: st) hp res) : Rn scr cs sl me j L (.int y :: .int x :: st) hp res := Rn.prim he rfl rfl rfl h
theorem r_and {x y : Int32} (he : (mCode me)[j]? = some (pc, .iand, a, b, ts)) (h : Rn scr cs sl me (j + 1) L (.int (x &&& y) :: st) hp res) : Rn scr cs sl me j L (.int y :: .int x :: st) hp res := Rn.prim he rfl rfl rfl h
theorem r_or {x y : Int32} (he : (mCode me)[j]? = some (pc, .ior, a, b, ts)) (h : Rn scr cs sl me (j + 1) L (.int (x ||| y) :: st) hp res) : Rn scr cs sl me j L (.int y :: .int x :: st) hp res := Rn.prim he rfl rfl rfl h
theorem r_xor {x y : Int32} (he : (mCode me)[j]? = some (pc, .ixor, a, b, ts)) (h : Rn scr cs sl me (j + 1) L (.int (x ^^^ y) :: st) hp res) : Rn scr cs sl me j L (.int y :: .int x :: st) hp res := Rn.prim he rfl rfl rfl h
theorem r_shl {x y : Int32} (he : (mCode me)[j]? = some (pc, .ishl, a, b, ts)) (h : Rn scr cs sl me (j + 1) L (.int (x <<< (y &&& 31)) :: st) hp res) : Rn scr cs sl me j L (.int y :: .int x :: st) hp res := Rn.prim he rfl rfl rfl h
theorem r_shr {x y : Int32} (he : (mCode me)[j]? = some (pc, .ishr, a, b, ts)) (h : Rn scr cs sl me (j + 1) L (.int (x >>> (y &&& 31)) :: st) hp res) : Rn scr cs sl me j L (.int y :: .int x :: st) hp res := Rn.prim he rfl rfl rfl h
theorem r_ushr {x y : Int32} (he : (mCode me)[j]? = some (pc, .iushr, a, b, ts)) (h : Rn scr cs sl me (j + 1) L (.int (x.toUInt32 >>> (y.toUInt32 &&& Int32.toUInt32 31)).toInt32 :: st) hp res) : Rn scr cs sl me j L (.int y :: .int x :: st) hp res := Rn.prim he rfl rfl rfl h
theorem r_neg {x : Int32} (he : (mCode me)[j]? = some (pc, .ineg, a, b, ts)) (h : Rn scr cs sl me (j + 1) L (.int (-x) :: st) hp res) : Rn scr cs sl me j L (.int x :: st) hp res := Rn.prim he rfl rfl rfl h
theorem r_dupi {x : Int32} (he : (mCode me)[j]? = some (pc, .dup, a, b, ts)) (h : Rn scr cs sl me (j + 1) L (.int x :: .int x :: st) hp res) : Rn scr cs sl me j L (.int x :: st) hp res := Rn.prim he rfl rfl rfl h
theorem r_dupr {x : Nat} (he : (mCode me)[j]? = some (pc, .dup, a, b, ts)) (h : Rn scr cs sl me (j + 1) L (.ref x :: .ref x :: st) hp res) : Rn scr cs sl me j L (.ref x :: st) hp res := Rn.prim he rfl rfl rfl h
theorem r_dup2 {y : Int32} {x : Nat} (he : (mCode me)[j]? = some (pc, .dup2, a, b, ts)) (h : Rn scr cs sl me (j + 1) L (.int y :: .ref x :: .int y :: .ref x :: st) hp res) : Rn scr cs sl me j L (.int y :: .ref x :: st) hp res := Rn.prim he rfl rfl rfl h
theorem r_popi {x : Int32} (he : (mCode me)[j]? = some (pc, .pop, a, b, ts)) (h : Rn scr cs sl me (j + 1) L st hp res) : Rn scr cs sl me j L (.int x :: st) hp res := Rn.prim he rfl rfl rfl h
theorem r_popr {x : Nat} (he : (mCode me)[j]? = some (pc, .pop, a, b, ts)) (h : Rn scr cs sl me (j + 1) L st hp res) : Rn scr cs sl me j L (.ref x :: st) hp res := Rn.prim he rfl rfl rfl h
theorem r_go {o : Int} (he : (mCode me)[j]? = some (pc, .goto o, a, b, ts)) (h : Rn scr cs sl me a L st hp res) : Rn scr cs sl me j L st hp res := Rn.prim he rfl rfl rfl h
theorem r_cmpT {c : ClassFile.Cond} {o : Int} {x y : Int32} (he : (mCode me)[j]? = some (pc, .if_icmp c o, a, b, ts)) (hc : cnd c x y = true) (h : Rn scr cs sl me a L st hp res) : Rn scr cs sl me j L (.int y :: .int x :: st) hp res :=
  Rn.prim he rfl rfl (by simp only [prim, hc, if_true]) h
theorem r_cmpF {c : ClassFile.Cond} {o : Int} {x y : Int32} (he : (mCode me)[j]? = some (pc, .if_icmp c o, a, b, ts)) (hc : cnd c x y = false) (h : Rn scr cs sl me (j + 1) L st hp res) : Rn scr cs sl me j L (.int y :: .int x :: st) hp res :=
  Rn.prim he rfl rfl (by simp only [prim, hc, Bool.false_eq_true, if_false]) h
theorem r_ifT {c : ClassFile.Cond} {o : Int} {x : Int32} (he : (mCode me)[j]? = some (pc, .ifCond c o, a, b, ts)) (hc : cnd c x 0 = true) (h : Rn scr cs sl me a L st hp res) : Rn scr cs sl me j L (.int x :: st) hp res :=
  Rn.prim he rfl rfl (by simp only [prim, hc, if_true]) h
theorem r_ifF {c : ClassFile.Cond} {o : Int} {x : Int32} (he : (mCode me)[j]? = some (pc, .ifCond c o, a, b, ts)) (hc : cnd c x 0 = false) (h : Rn scr cs sl me (j + 1) L st hp res) : Rn scr cs sl me j L (.int x :: st) hp res :=
  Rn.prim he rfl rfl (by simp only [prim, hc, Bool.false_eq_true, if_false]) h
/-- a branch, beside the function's own -/
theorem r_cmp {α : Type} {c : ClassFile.Cond} {o : Int} {x y : Int32} {P : Prop} [Decidable P] {A B : M α} {z : Option (α × HP)} (H : (if P then A else B) hp = z) (he : (mCode me)[j]? = some (pc, .if_icmp c o, a, b, ts)) (hc : cnd c x y = decide P) (k1 : A hp = z → Rn scr cs sl me a L st hp res) (k2 : B hp = z → Rn scr cs sl me (j + 1) L st hp res) : Rn scr cs sl me j L (.int y :: .int x :: st) hp res := by
  by_cases h : P
  · rw [if_pos h] at H
    exact r_cmpT he (by rw [hc]; exact decide_eq_true h) (k1 H)
  · rw [if_neg h] at H
    exact r_cmpF he (by rw [hc]; exact decide_eq_false h) (k2 H)
theorem r_if {α : Type} {c : ClassFile.Cond} {o : Int} {x : Int32} {P : Prop} [Decidable P] {A B : M α} {z : Option (α × HP)} (H : (if P then A else B) hp = z) (he : (mCode me)[j]? = some (pc, .ifCond c o, a, b, ts)) (hc : cnd c x 0 = decide P) (k1 : A hp = z → Rn scr cs sl me a L st hp res) (k2 : B hp = z → Rn scr cs sl me (j + 1) L st hp res) : Rn scr cs sl me j L (.int x :: st) hp res := by
  by_cases h : P
  · rw [if_pos h] at H
    exact r_ifT he (by rw [hc]; exact decide_eq_true h) (k1 H)
  · rw [if_neg h] at H
    exact r_ifF he (by rw [hc]; exact decide_eq_false h) (k2 H)
theorem r_tab {d lo hi : Int} {os : Array Int} {x : Int32} {t : Nat} (he : (mCode me)[j]? = some (pc, .tableswitch d lo hi os, a, b, ts)) (hs : switchTo x.toInt lo hi ts = some t) (h : Rn scr cs sl me t L st hp res) : Rn scr cs sl me j L (.int x :: st) hp res :=
  Rn.prim he rfl rfl (by simp only [prim, hs, Option.bind_some]) h
theorem r_look {d : Int} {ps : Array (Int × Int)} {x : Int32} {t : Nat} (he : (mCode me)[j]? = some (pc, .lookupswitch d ps, a, b, ts)) (hs : lookTo (ps.toList.map (·.1)) x.toInt ts = some t) (h : Rn scr cs sl me t L st hp res) : Rn scr cs sl me j L (.int x :: st) hp res :=
  Rn.prim he rfl rfl (by simp only [prim, hs, Option.bind_some]) h
theorem sw_ne {x c : Int32} {v : Int} (h : ¬ x = c) (hv : c.toInt = v) : ¬ x.toInt = v := fun q => h (Int32.toInt_inj.mp (by rw [hv]; exact q))
theorem sw_out {x lo hi : Int} {ts : List Nat} (h : x < lo ∨ hi < x) : switchTo x lo hi ts = ts[0]? := by
  unfold switchTo
  rw [if_pos h]
theorem bnd_some {α β : Type} {x : M α} {f : α → M β} {z : β × HP} (H : bnd x f hp = some z) : ∃ v hp1, x hp = some (v, hp1) ∧ f v hp1 = some z := by
  unfold bnd at H
  obtain ⟨q, h1, h2⟩ := Option.bind_eq_some_iff.mp H
  exact ⟨q.1, q.2, h1, h2⟩
theorem r_gI {β : Type} {f : Int32 → M β} {z : β × HP} {o i : Nat} (H : bnd (gI a b o) f hp = some z) (he : (mCode me)[j]? = some (pc, .getfield i, a, b, ts)) (hk : kd a b ≤ 1) (k : f (hp.1 o b) hp = some z → Rn scr cs sl me (j + 1) L (.int (hp.1 o b) :: st) hp res) : Rn scr cs sl me j L (.ref o :: st) hp res := by
  obtain ⟨v, hp1, h1, h2⟩ := bnd_some H
  unfold gI at h1
  split at h1
  · rename_i ho
    cases h1
    exact Rn.prim he rfl rfl (by simp only [prim, fval]; rw [if_pos ⟨ho, shf_lt ho⟩, if_neg (by omega)]) (k h2)
  · cases h1
theorem r_gR {β : Type} {f : Nat → M β} {z : β × HP} {o i : Nat} (H : bnd (gR a b o) f hp = some z) (he : (mCode me)[j]? = some (pc, .getfield i, a, b, ts)) (hk : kd a b = 2) (k : ∀ r, f r hp = some z → Rn scr cs sl me (j + 1) L (.ref r :: st) hp res) : Rn scr cs sl me j L (.ref o :: st) hp res := by
  obtain ⟨v, hp1, h1, h2⟩ := bnd_some H
  unfold gR at h1
  split at h1
  · rename_i ho
    obtain ⟨r, hr, h1⟩ := Option.map_eq_some_iff.mp h1
    cases h1
    exact Rn.prim he rfl rfl (by simp only [prim, fval]; rw [if_pos ⟨ho, shf_lt ho⟩, if_pos hk, hr]; rfl) (k v h2)
  · cases h1
theorem r_pI {β : Type} {f : Unit → M β} {z : β × HP} {o i : Nat} {v : Int32} (H : bnd (pI a b o v) f hp = some z) (he : (mCode me)[j]? = some (pc, .putfield i, a, b, ts)) (hk : kd a b = 0) (k : f () (setR hp.1 o (upd (hp.1 o) b v), hp.2) = some z → Rn scr cs sl me (j + 1) L st (setR hp.1 o (upd (hp.1 o) b v), hp.2) res) : Rn scr cs sl me j L (.int v :: .ref o :: st) hp res := by
  obtain ⟨w, hp1, h1, h2⟩ := bnd_some H
  unfold pI at h1
  split at h1
  · rename_i ho
    cases h1
    exact Rn.prim he rfl rfl (by simp only [prim]; rw [if_pos ⟨⟨ho, shf_lt ho⟩, Or.inl hk⟩]) (k h2)
  · cases h1
theorem r_pZ {β : Type} {f : Unit → M β} {z : β × HP} {o i : Nat} {v : Int32} (H : bnd (pZ a b o v) f hp = some z) (he : (mCode me)[j]? = some (pc, .putfield i, a, b, ts)) (hk : kd a b = 1) (k : f () (setR hp.1 o (upd (hp.1 o) b v), hp.2) = some z → Rn scr cs sl me (j + 1) L st (setR hp.1 o (upd (hp.1 o) b v), hp.2) res) : Rn scr cs sl me j L (.int v :: .ref o :: st) hp res := by
  obtain ⟨w, hp1, h1, h2⟩ := bnd_some H
  unfold pZ at h1
  split at h1
  · rename_i ho
    cases h1
    exact Rn.prim he rfl rfl (by simp only [prim]; rw [if_pos ⟨⟨ho.1, shf_lt ho.1⟩, Or.inr ⟨hk, ho.2⟩⟩]) (k h2)
  · cases h1
theorem r_aI {β : Type} {f : Int32 → M β} {z : β × HP} {o : Nat} {i : Int32} (H : bnd (aI o i) f hp = some z) (he : (mCode me)[j]? = some (pc, .iaload, a, b, ts)) (k : f (hp.1 o i.toNatClampNeg) hp = some z → Rn scr cs sl me (j + 1) L (.int (hp.1 o i.toNatClampNeg) :: st) hp res) : Rn scr cs sl me j L (.int i :: .ref o :: st) hp res := by
  obtain ⟨w, hp1, h1, h2⟩ := bnd_some H
  unfold aI at h1
  split at h1
  · rename_i n ho
    split at h1
    · rename_i hin
      cases h1
      exact Rn.prim he rfl rfl (by simp only [prim]; rw [if_neg (shf_lt ho), ho]; exact if_pos hin) (k h2)
    · cases h1
  · cases h1
theorem r_sI {β : Type} {f : Unit → M β} {z : β × HP} {o : Nat} {i v : Int32} (H : bnd (sI o i v) f hp = some z) (he : (mCode me)[j]? = some (pc, .iastore, a, b, ts)) (k : f () (setR hp.1 o (upd (hp.1 o) i.toNatClampNeg v), hp.2) = some z → Rn scr cs sl me (j + 1) L st (setR hp.1 o (upd (hp.1 o) i.toNatClampNeg v), hp.2) res) : Rn scr cs sl me j L (.int v :: .int i :: .ref o :: st) hp res := by
  obtain ⟨w, hp1, h1, h2⟩ := bnd_some H
  unfold sI at h1
  split at h1
  · rename_i n ho
    split at h1
    · rename_i hin
      cases h1
      exact Rn.prim he rfl rfl (by simp only [prim]; rw [if_neg (shf_lt ho), ho]; exact if_pos hin) (k h2)
    · cases h1
  · cases h1
theorem r_aR {β : Type} {f : Nat → M β} {z : β × HP} {o : Nat} {i : Int32} (H : bnd (aR o i) f hp = some z) (he : (mCode me)[j]? = some (pc, .aaload, a, b, ts)) (k : ∀ r, f r hp = some z → Rn scr cs sl me (j + 1) L (.ref r :: st) hp res) : Rn scr cs sl me j L (.int i :: .ref o :: st) hp res := by
  obtain ⟨w, hp1, h1, h2⟩ := bnd_some H
  unfold aR at h1
  split at h1
  · rename_i n ho
    split at h1
    · rename_i hin
      obtain ⟨r, hr, h1⟩ := Option.map_eq_some_iff.mp h1
      cases h1
      exact Rn.prim he rfl rfl (by simp only [prim]; rw [if_neg (shf_lt ho), ho]; show (if _ then _ else _) = _; rw [if_pos hin, hr]; rfl) (k w h2)
    · cases h1
  · cases h1
theorem r_sR {β : Type} {f : Unit → M β} {z : β × HP} {o q : Nat} {i : Int32} (H : bnd (sR o i q) f hp = some z) (he : (mCode me)[j]? = some (pc, .aastore, a, b, ts)) (k : f () (hp.1, setR hp.2 o (va_up (hp.2 o) i.toNatClampNeg (some q))) = some z → Rn scr cs sl me (j + 1) L st (hp.1, setR hp.2 o (va_up (hp.2 o) i.toNatClampNeg (some q))) res) : Rn scr cs sl me j L (.ref q :: .int i :: .ref o :: st) hp res := by
  obtain ⟨w, hp1, h1, h2⟩ := bnd_some H
  unfold sR at h1
  split at h1
  · rename_i n ho
    split at h1
    · rename_i hin
      cases h1
      exact Rn.prim he rfl rfl (by simp only [prim]; rw [if_neg (by rintro (h | h | h); exact shf_lt ho h; exact shf_lt hin.1 h; exact h hin.1), ho]; exact if_pos hin.2) (k h2)
    · cases h1
  · cases h1
theorem r_len {β : Type} {f : Int32 → M β} {z : β × HP} {o : Nat} (H : bnd (len o) f hp = some z) (he : (mCode me)[j]? = some (pc, .arraylength, a, b, ts)) (k : ∀ v, f v hp = some z → Rn scr cs sl me (j + 1) L (.int v :: st) hp res) : Rn scr cs sl me j L (.ref o :: st) hp res := by
  obtain ⟨w, hp1, h1, h2⟩ := bnd_some H
  unfold len at h1
  split at h1
  · rename_i n ho
    cases h1
    exact Rn.prim he rfl rfl (by simp only [prim]; rw [if_neg (shf_lt ho), ho]; rfl) (k _ h2)
  · rename_i n ho
    cases h1
    exact Rn.prim he rfl rfl (by simp only [prim]; rw [if_neg (shf_lt ho), ho]; rfl) (k _ h2)
  · cases h1
theorem r_div {β : Type} {f : Int32 → M β} {z : β × HP} {x y : Int32} (H : bnd (divM x y) f hp = some z) (he : (mCode me)[j]? = some (pc, .idiv, a, b, ts)) (k : f (x / y) hp = some z → Rn scr cs sl me (j + 1) L (.int (x / y) :: st) hp res) : Rn scr cs sl me j L (.int y :: .int x :: st) hp res := by
  obtain ⟨w, hp1, h1, h2⟩ := bnd_some H
  unfold divM at h1
  split at h1
  · cases h1
  · rename_i hy
    cases h1
    exact Rn.prim he rfl rfl (by simp only [prim]; exact if_neg hy) (k h2)
theorem r_rem {β : Type} {f : Int32 → M β} {z : β × HP} {x y : Int32} (H : bnd (remM x y) f hp = some z) (he : (mCode me)[j]? = some (pc, .irem, a, b, ts)) (k : f (x - x / y * y) hp = some z → Rn scr cs sl me (j + 1) L (.int (x - x / y * y) :: st) hp res) : Rn scr cs sl me j L (.int y :: .int x :: st) hp res := by
  obtain ⟨w, hp1, h1, h2⟩ := bnd_some H
  unfold remM at h1
  split at h1
  · cases h1
  · rename_i hy
    cases h1
    exact Rn.prim he rfl rfl (by simp only [prim]; exact if_neg hy) (k h2)
theorem r_cpy {β : Type} {f : Unit → M β} {z : β × HP} {o d i : Nat} {sp dp n : Int32} (H : bnd (cpy o sp d dp n) f hp = some z) (he : (mCode me)[j]? = some (pc, .invokestatic i, a, 2, ts)) (hf : 1 ≤ (mRoom me).frames) (hl : (st.map fun v => v.category).sum + 40 ≤ (mRoom me).locals) (k : ∀ hp1, f () hp1 = some z → Rn scr cs sl me (j + 1) L st hp1 res) : Rn scr cs sl me j L (.int n :: .int dp :: .ref d :: .int sp :: .ref o :: st) hp res := by
  obtain ⟨w, hp1, h1, h2⟩ := bnd_some H
  unfold cpy at h1
  split at h1
  · rename_i n0 n1 ho hd
    split at h1
    · rename_i hc
      cases h1
      refine Rn.prim he rfl rfl ?_ (k _ h2)
      simp only [prim, ho, hd]
      exact if_pos ⟨trivial, ⟨shf_lt ho, shf_lt hd⟩, hc.1, hc.2.1, hc.2.2.1, hc.2.2.2.1, hc.2.2.2.2, hf, hl⟩
    · cases h1
  · cases h1
theorem r_scr {β : Type} {f : Int32 → M β} {z : β × HP} {i : Int32} (H : bnd (scrM scr i) f hp = some z) (he : (mCode me)[j]? = some (pc, .iaload, a, b, ts)) (k : ∀ v, f v hp = some z → Rn scr cs sl me (j + 1) L (.int v :: st) hp res) : Rn scr cs sl me j L (.int i :: .ref SCR :: st) hp res := by
  obtain ⟨w, hp1, h1, h2⟩ := bnd_some H
  unfold scrM at h1
  split at h1
  · rename_i q
    split at h1
    · rename_i hin
      cases h1
      exact Rn.prim he rfl rfl (by simp only [prim, if_true, Option.bind_some]; exact if_pos hin) (k _ h2)
    · cases h1
  · cases h1
theorem r_scrN {β : Type} {f : Int32 → M β} {z : β × HP} (H : bnd (scrN scr) f hp = some z) (he : (mCode me)[j]? = some (pc, .arraylength, a, b, ts)) (k : ∀ v, f v hp = some z → Rn scr cs sl me (j + 1) L (.int v :: st) hp res) : Rn scr cs sl me j L (.ref SCR :: st) hp res := by
  obtain ⟨w, hp1, h1, h2⟩ := bnd_some H
  unfold scrN at h1
  split at h1
  · cases h1
    exact Rn.prim he rfl rfl (by simp only [prim, if_true, Option.bind_some]) (k _ h2)
  · cases h1
/-- a call -/
theorem Rn.call {e : EI} {me' : ME} {rv : Option Value} {hp1 : HP} (he : (mCode me)[j]? = some e) (h1 : isRet e.2.1 = false) (h2 : isCall e.2.1 e.2.2.2.1 = true) (hm : meths[e.2.2.1]? = some me') (hc : (mRoom me').cells = 0 ∧ (mRoom me').slots = 0) (hok : callOk (mRoom me) e.2.1 me' st cs sl SHF = true)
    (hf : Rn none 0 0 me' 0 (loc0 me' st) [] hp (rv, hp1)) (k : Rn scr cs sl me (j + 1) L (rv.toList ++ st.drop (mArgs me')) hp1 res) : Rn scr cs sl me j L st hp res := by
  obtain ⟨n1, hn1⟩ := hf
  obtain ⟨n2, hn2⟩ := k
  refine ⟨n1 + n2 + 1, ?_⟩
  have g1 := exF_mono n1 n2 hn1
  have g2 := exF_mono n2 n1 hn2
  rw [Nat.add_comm n2 n1] at g2
  simp only [exF, he, Option.bind_some, h1, h2, Bool.false_eq_true, if_false, if_true, hm, hok, g1, hc.1, hc.2, Nat.add_zero]
  exact g2
/-- a callee's function is its run -/
def Sm {α : Type} (me' : ME) (as : List Value) (en : α → Option Value) (f : M α) : Prop := ∀ hp v hp1, f hp = some (v, hp1) → Rn none 0 0 me' 0 (as.map some ++ List.replicate (mLoc me' - mArgs me') none) [] hp (en v, hp1)
def okS (rm : Room) (me' : ME) (st : List Value) (cs sl : Nat) : Bool :=
  decide (mArgs me' ≤ st.length) && decide (mArgs me' ≤ mLoc me') && ((st.take (mArgs me')).all fun v => v.category == 1) && decide (((st.drop (mArgs me')).map fun v => v.category).sum ≤ 8) &&
  decide ((mRoom me').frames + 1 ≤ rm.frames) && decide (8 + (mLoc me' + 11) + (mRoom me').locals ≤ rm.locals) && decide (cs + (mRoom me').cells ≤ rm.cells) && decide (sl + (mRoom me').slots ≤ rm.slots)
theorem r_st {α β : Type} {g : M α} {f : α → M β} {z : β × HP} {me' : ME} {as rest : List Value} {en : α → Option Value} {i : Nat} (H : bnd g f hp = some z) (he : (mCode me)[j]? = some (pc, .invokestatic i, a, 0, ts)) (hm : meths[a]? = some me') (hs : Sm me' as en g) (hst : st = as.reverse ++ rest) (hn : as.length = mArgs me') (hc : (mRoom me').cells = 0 ∧ (mRoom me').slots = 0) (hok : okS (mRoom me) me' st cs sl = true)
    (k : ∀ v hp1, f v hp1 = some z → Rn scr cs sl me (j + 1) L ((en v).toList ++ rest) hp1 res) : Rn scr cs sl me j L st hp res := by
  obtain ⟨v, hp1, h1, h2⟩ := bnd_some H
  have hl : as.reverse.length = mArgs me' := by rw [List.length_reverse]; exact hn
  have hd : st.drop (mArgs me') = rest := by rw [hst, ← hl, List.drop_left]
  have ht : args0 me' st = as := by unfold args0; rw [hst, ← hl, List.take_left, List.reverse_reverse]
  refine Rn.call he rfl rfl hm hc (by simp only [callOk]; exact Bool.and_eq_true_iff.mpr ⟨hok, rfl⟩) (rv := en v) (hp1 := hp1) ?_ ?_
  · unfold loc0; rw [ht]; exact hs _ _ _ h1
  · rw [hd]; exact k v hp1 h2
theorem r_vt {α β : Type} {g : M α} {f : α → M β} {z : β × HP} {me' : ME} {as rest : List Value} {en : α → Option Value} {i ci o : Nat} (H : bnd (cv ci o g) f hp = some z) (he : (mCode me)[j]? = some (pc, .invokevirtual i, a, b, ts)) (hm : meths[a]? = some me') (hci : mCls me' = ci) (hs : Sm me' (.ref o :: as) en g) (hst : st = as.reverse ++ .ref o :: rest) (hn : as.length + 1 = mArgs me') (hc : (mRoom me').cells = 0 ∧ (mRoom me').slots = 0) (hok : okS (mRoom me) me' st cs sl = true)
    (k : ∀ v hp1, f v hp1 = some z → Rn scr cs sl me (j + 1) L ((en v).toList ++ rest) hp1 res) : Rn scr cs sl me j L st hp res := by
  obtain ⟨v, hp1, h1, h2⟩ := bnd_some H
  unfold cv at h1
  split at h1
  · rename_i ho
    have hl : (as.reverse ++ [Value.ref o]).length = mArgs me' := by rw [List.length_append, List.length_reverse]; exact hn
    have hst2 : st = (as.reverse ++ [Value.ref o]) ++ rest := by rw [hst]; simp
    have hd : st.drop (mArgs me') = rest := by rw [hst2, ← hl, List.drop_left]
    have htk : st.take (mArgs me') = as.reverse ++ [Value.ref o] := by rw [hst2, ← hl, List.take_left]
    have ht : args0 me' st = .ref o :: as := by unfold args0; rw [htk]; simp
    have hrec : recvOk (.invokevirtual i) me' st SHF = true := by
      simp only [recvOk, htk, List.getLast?_concat]
      exact decide_eq_true ⟨shf_lt ho, by rw [hci]; exact ho⟩
    refine Rn.call he rfl rfl hm hc (by simp only [callOk]; exact Bool.and_eq_true_iff.mpr ⟨hok, hrec⟩) (rv := en v) (hp1 := hp1) ?_ ?_
    · unfold loc0; rw [ht]; exact hs _ _ _ h1
    · rw [hd]; exact k v hp1 h2
  · cases h1
theorem r_reti {v : Int32} {r : Int32} {hp1 : HP} (H : rt v hp = some (r, hp1)) (he : (mCode me)[j]? = some (pc, .ireturn, a, b, ts)) (hr : mRet me = some .int) (hc : cs ≤ (mRoom me).cells ∧ sl ≤ (mRoom me).slots) : Rn scr cs sl me j L [.int v] hp (eI r, hp1) := by
  cases H
  refine ⟨1, ?_⟩
  simp only [exF, he, Option.bind_some, isRet, if_true, retTo, if_pos hc, hr]
  rfl
theorem r_retz {v : Int32} {r : Int32} {hp1 : HP} (H : retZ v hp = some (r, hp1)) (he : (mCode me)[j]? = some (pc, .ireturn, a, b, ts)) (hr : mRet me = some .boolean) (hc : cs ≤ (mRoom me).cells ∧ sl ≤ (mRoom me).slots) : Rn scr cs sl me j L [.int v] hp (eI r, hp1) := by
  unfold retZ at H
  split at H
  · rename_i hv
    cases H
    refine ⟨1, ?_⟩
    simp only [exF, he, Option.bind_some, isRet, if_true, retTo, if_pos hc, hr]
    rw [if_pos (Or.inr ⟨trivial, hv⟩)]
    rfl
  · cases H
theorem r_retv {r : Unit} {hp1 : HP} (H : rt () hp = some (r, hp1)) (he : (mCode me)[j]? = some (pc, .return_, a, b, ts)) (hr : mRet me = none) (hc : cs ≤ (mRoom me).cells ∧ sl ≤ (mRoom me).slots) : Rn scr cs sl me j L [] hp (eU r, hp1) := by
  cases H
  refine ⟨1, ?_⟩
  simp only [exF, he, Option.bind_some, isRet, if_true, retTo, if_pos hc, hr]
  rfl
theorem r_retr {v r : Nat} {hp1 : HP} {n : String} (H : rt v hp = some (r, hp1)) (he : (mCode me)[j]? = some (pc, .areturn, a, b, ts)) (hr : mRet me = some (.object n)) (hc : cs ≤ (mRoom me).cells ∧ sl ≤ (mRoom me).slots) : Rn scr cs sl me j L [.ref v] hp (eR r, hp1) := by
  cases H
  refine ⟨1, ?_⟩
  simp only [exF, he, Option.bind_some, isRet, if_true, retTo, if_pos hc, hr]
  rfl
end RULES
theorem r_loop {σ β : Type} {B : σ → (σ → M β) → M β} {z : β × HP} (P : σ → HP → Prop) (step : ∀ (k : σ → M β), (∀ s hp, k s hp = some z → P s hp) → ∀ s hp, B s k hp = some z → P s hp) : ∀ (n : Nat) (s : σ) (hp : HP), loopK n B s hp = some z → P s hp := by
  intro n
  induction n with
  | zero => intro s hp h; cases h
  | succ n ih => intro s hp h; exact step (loopK n B) ih s hp h
end
section
/-! EACH METHOD AS A FUNCTION; printed by a program of mine out of the code; and that it is what the code does -/
def ushr (x y : Int32) : Int32 := (x.toUInt32 >>> (y.toUInt32 &&& Int32.toUInt32 31)).toInt32
theorem cb_10 : (Int8.ofInt (10)).toInt32 = 10 := by decide
theorem cb_100 : (Int8.ofInt (100)).toInt32 = 100 := by decide
theorem cb_103 : (Int8.ofInt (103)).toInt32 = 103 := by decide
theorem cb_11 : (Int8.ofInt (11)).toInt32 = 11 := by decide
theorem cb_110 : (Int8.ofInt (110)).toInt32 = 110 := by decide
theorem cb_112 : (Int8.ofInt (112)).toInt32 = 112 := by decide
theorem cb_119 : (Int8.ofInt (119)).toInt32 = 119 := by decide
theorem cb_12 : (Int8.ofInt (12)).toInt32 = 12 := by decide
theorem cb_120 : (Int8.ofInt (120)).toInt32 = 120 := by decide
theorem cb_14 : (Int8.ofInt (14)).toInt32 = 14 := by decide
theorem cb_16 : (Int8.ofInt (16)).toInt32 = 16 := by decide
theorem cb_20 : (Int8.ofInt (20)).toInt32 = 20 := by decide
theorem cb_21 : (Int8.ofInt (21)).toInt32 = 21 := by decide
theorem cb_31 : (Int8.ofInt (31)).toInt32 = 31 := by decide
theorem cb_48 : (Int8.ofInt (48)).toInt32 = 48 := by decide
theorem cb_49 : (Int8.ofInt (49)).toInt32 = 49 := by decide
theorem cb_50 : (Int8.ofInt (50)).toInt32 = 50 := by decide
theorem cb_55 : (Int8.ofInt (55)).toInt32 = 55 := by decide
theorem cb_57 : (Int8.ofInt (57)).toInt32 = 57 := by decide
theorem cb_59 : (Int8.ofInt (59)).toInt32 = 59 := by decide
theorem cb_6 : (Int8.ofInt (6)).toInt32 = 6 := by decide
theorem cb_60 : (Int8.ofInt (60)).toInt32 = 60 := by decide
theorem cb_61 : (Int8.ofInt (61)).toInt32 = 61 := by decide
theorem cb_63 : (Int8.ofInt (63)).toInt32 = 63 := by decide
theorem cb_64 : (Int8.ofInt (64)).toInt32 = 64 := by decide
theorem cb_7 : (Int8.ofInt (7)).toInt32 = 7 := by decide
theorem cb_8 : (Int8.ofInt (8)).toInt32 = 8 := by decide
theorem cb_9 : (Int8.ofInt (9)).toInt32 = 9 := by decide
theorem cb_96 : (Int8.ofInt (96)).toInt32 = 96 := by decide
theorem cb_97 : (Int8.ofInt (97)).toInt32 = 97 := by decide
theorem cb_98 : (Int8.ofInt (98)).toInt32 = 98 := by decide
theorem cb_99 : (Int8.ofInt (99)).toInt32 = 99 := by decide
theorem cb_m2 : (Int8.ofInt (-2)).toInt32 = -2 := by decide
theorem cb_m3 : (Int8.ofInt (-3)).toInt32 = -3 := by decide
theorem cb_m4 : (Int8.ofInt (-4)).toInt32 = -4 := by decide
theorem cb_m6 : (Int8.ofInt (-6)).toInt32 = -6 := by decide
theorem cb_m9 : (Int8.ofInt (-9)).toInt32 = -9 := by decide
theorem ci_0 : Int32.ofInt (0) = 0 := by decide
theorem ci_1 : Int32.ofInt (1) = 1 := by decide
theorem ci_2 : Int32.ofInt (2) = 2 := by decide
theorem ci_3 : Int32.ofInt (3) = 3 := by decide
theorem ci_4 : Int32.ofInt (4) = 4 := by decide
theorem ci_5 : Int32.ofInt (5) = 5 := by decide
theorem ci_m1 : Int32.ofInt (-1) = -1 := by decide
theorem cn_1000000 : Int32.ofNat 1000000 = 1000000 := by decide
theorem cn_1000000000 : Int32.ofNat 1000000000 = 1000000000 := by decide
theorem cn_1103515245 : Int32.ofNat 1103515245 = 1103515245 := by decide
theorem cn_1431655765 : Int32.ofNat 1431655765 = 1431655765 := by decide
theorem cn_2147483647 : Int32.ofNat 2147483647 = 2147483647 := by decide
theorem cn_252645135 : Int32.ofNat 252645135 = 252645135 := by decide
theorem cn_65536 : Int32.ofNat 65536 = 65536 := by decide
theorem cn_858993459 : Int32.ofNat 858993459 = 858993459 := by decide
theorem cs_1000 : (Int16.ofInt (1000)).toInt32 = 1000 := by decide
theorem cs_12345 : (Int16.ofInt (12345)).toInt32 = 12345 := by decide
theorem cs_128 : (Int16.ofInt (128)).toInt32 = 128 := by decide
theorem cs_165 : (Int16.ofInt (165)).toInt32 = 165 := by decide
theorem cs_2048 : (Int16.ofInt (2048)).toInt32 = 2048 := by decide
theorem cs_255 : (Int16.ofInt (255)).toInt32 = 255 := by decide
theorem cs_550 : (Int16.ofInt (550)).toInt32 = 550 := by decide
theorem cs_999 : (Int16.ofInt (999)).toInt32 = 999 := by decide
theorem cs_m1000 : (Int16.ofInt (-1000)).toInt32 = -1000 := by decide
theorem cs_m2000 : (Int16.ofInt (-2000)).toInt32 = -2000 := by decide
theorem kd_0_0 : kd 0 0 = 0 := by decide +kernel
theorem kl_0_0 : kd 0 0 ≤ 1 := by decide +kernel
theorem kd_0_1 : kd 0 1 = 0 := by decide +kernel
theorem kl_0_1 : kd 0 1 ≤ 1 := by decide +kernel
theorem kd_0_2 : kd 0 2 = 0 := by decide +kernel
theorem kl_0_2 : kd 0 2 ≤ 1 := by decide +kernel
theorem kd_0_3 : kd 0 3 = 2 := by decide +kernel
theorem kd_0_4 : kd 0 4 = 2 := by decide +kernel
theorem kd_0_5 : kd 0 5 = 2 := by decide +kernel
theorem kd_0_6 : kd 0 6 = 2 := by decide +kernel
theorem kd_0_7 : kd 0 7 = 2 := by decide +kernel
theorem kd_0_8 : kd 0 8 = 2 := by decide +kernel
theorem kd_1_0 : kd 1 0 = 0 := by decide +kernel
theorem kl_1_0 : kd 1 0 ≤ 1 := by decide +kernel
theorem kd_1_1 : kd 1 1 = 2 := by decide +kernel
theorem kd_2_0 : kd 2 0 = 0 := by decide +kernel
theorem kl_2_0 : kd 2 0 ≤ 1 := by decide +kernel
theorem kd_2_1 : kd 2 1 = 2 := by decide +kernel
theorem kd_3_0 : kd 3 0 = 2 := by decide +kernel
theorem kd_3_1 : kd 3 1 = 2 := by decide +kernel
theorem kd_3_2 : kd 3 2 = 2 := by decide +kernel
theorem kd_4_0 : kd 4 0 = 2 := by decide +kernel
theorem kd_4_1 : kd 4 1 = 2 := by decide +kernel
theorem kd_5_0 : kd 5 0 = 2 := by decide +kernel
theorem kd_5_1 : kd 5 1 = 2 := by decide +kernel
theorem kd_5_2 : kd 5 2 = 2 := by decide +kernel
theorem kd_5_3 : kd 5 3 = 1 := by decide +kernel
theorem kl_5_3 : kd 5 3 ≤ 1 := by decide +kernel
theorem kd_5_4 : kd 5 4 = 2 := by decide +kernel
theorem kd_5_5 : kd 5 5 = 2 := by decide +kernel
theorem kd_5_6 : kd 5 6 = 2 := by decide +kernel
theorem kd_5_7 : kd 5 7 = 2 := by decide +kernel
theorem kd_5_8 : kd 5 8 = 0 := by decide +kernel
theorem kl_5_8 : kd 5 8 ≤ 1 := by decide +kernel
theorem kd_5_9 : kd 5 9 = 2 := by decide +kernel
theorem kd_5_10 : kd 5 10 = 2 := by decide +kernel
theorem kd_5_11 : kd 5 11 = 2 := by decide +kernel
theorem kd_5_12 : kd 5 12 = 2 := by decide +kernel
theorem kd_5_13 : kd 5 13 = 2 := by decide +kernel
theorem kd_6_0 : kd 6 0 = 2 := by decide +kernel
theorem kd_6_1 : kd 6 1 = 2 := by decide +kernel
theorem kd_6_2 : kd 6 2 = 2 := by decide +kernel
theorem kd_6_3 : kd 6 3 = 2 := by decide +kernel
theorem kd_6_4 : kd 6 4 = 2 := by decide +kernel
theorem kd_6_5 : kd 6 5 = 2 := by decide +kernel
theorem kd_6_6 : kd 6 6 = 2 := by decide +kernel
theorem kd_6_7 : kd 6 7 = 2 := by decide +kernel
theorem kd_6_8 : kd 6 8 = 0 := by decide +kernel
theorem kl_6_8 : kd 6 8 ≤ 1 := by decide +kernel
theorem kd_6_9 : kd 6 9 = 0 := by decide +kernel
theorem kl_6_9 : kd 6 9 ≤ 1 := by decide +kernel
theorem kd_6_10 : kd 6 10 = 2 := by decide +kernel
theorem kd_6_11 : kd 6 11 = 2 := by decide +kernel
theorem kd_6_12 : kd 6 12 = 2 := by decide +kernel
theorem kd_6_13 : kd 6 13 = 2 := by decide +kernel
theorem kd_6_14 : kd 6 14 = 0 := by decide +kernel
theorem kl_6_14 : kd 6 14 ≤ 1 := by decide +kernel
theorem kd_6_15 : kd 6 15 = 0 := by decide +kernel
theorem kl_6_15 : kd 6 15 ≤ 1 := by decide +kernel
theorem kd_6_16 : kd 6 16 = 0 := by decide +kernel
theorem kl_6_16 : kd 6 16 ≤ 1 := by decide +kernel
theorem kd_6_17 : kd 6 17 = 2 := by decide +kernel
theorem kd_6_18 : kd 6 18 = 1 := by decide +kernel
theorem kl_6_18 : kd 6 18 ≤ 1 := by decide +kernel
theorem kd_6_19 : kd 6 19 = 1 := by decide +kernel
theorem kl_6_19 : kd 6 19 ≤ 1 := by decide +kernel
theorem kd_6_20 : kd 6 20 = 0 := by decide +kernel
theorem kl_6_20 : kd 6 20 ≤ 1 := by decide +kernel
theorem kd_6_21 : kd 6 21 = 0 := by decide +kernel
theorem kl_6_21 : kd 6 21 ≤ 1 := by decide +kernel
theorem kd_6_22 : kd 6 22 = 2 := by decide +kernel
theorem kd_6_23 : kd 6 23 = 2 := by decide +kernel
theorem kd_6_24 : kd 6 24 = 2 := by decide +kernel
theorem kd_6_25 : kd 6 25 = 0 := by decide +kernel
theorem kl_6_25 : kd 6 25 ≤ 1 := by decide +kernel
theorem kd_6_26 : kd 6 26 = 2 := by decide +kernel
theorem kd_6_27 : kd 6 27 = 2 := by decide +kernel
theorem kd_6_28 : kd 6 28 = 2 := by decide +kernel
theorem kd_6_29 : kd 6 29 = 2 := by decide +kernel
section RULES2
variable {scr : Option (Nat × (Nat → Int32))} {cs sl : Nat} {me : ME} {j : Nat} {L : List (Option Value)} {st : List Value} {hp : HP} {res : Option Value × HP} {pc a b : Nat} {ts : List Nat}
theorem r_gI' {β : Type} {f : Int32 → M β} {z : β × HP} {o i : Nat} (H : bnd (gI a b o) f hp = some z) (he : (mCode me)[j]? = some (pc, .getfield i, a, b, ts)) (hk : kd a b ≤ 1) (k : ∀ t, f t hp = some z → Rn scr cs sl me (j + 1) L (.int t :: st) hp res) : Rn scr cs sl me j L (.ref o :: st) hp res := r_gI H he hk (k _)
theorem r_aI' {β : Type} {f : Int32 → M β} {z : β × HP} {o : Nat} {i : Int32} (H : bnd (aI o i) f hp = some z) (he : (mCode me)[j]? = some (pc, .iaload, a, b, ts)) (k : ∀ t, f t hp = some z → Rn scr cs sl me (j + 1) L (.int t :: st) hp res) : Rn scr cs sl me j L (.int i :: .ref o :: st) hp res := r_aI H he (k _)
theorem r_jn {α β : Type} {F : (α → M β) → M β} {G : α → M β} {z : β × HP} {g : Prop} (P : α → HP → Prop) (H : jn F G hp = some z) (kG : ∀ s hp, G s hp = some z → P s hp) (kF : ∀ k : α → M β, (∀ s hp, k s hp = some z → P s hp) → F k hp = some z → g) : g := kF G kG H
theorem r_stI {β : Type} {g : M Int32} {f : Int32 → M β} {z : β × HP} {me' : ME} {as rest : List Value} {i : Nat} (H : bnd g f hp = some z) (he : (mCode me)[j]? = some (pc, .invokestatic i, a, 0, ts)) (hm : meths[a]? = some me') (hs : Sm me' as eI g) (hst : st = as.reverse ++ rest) (hn : as.length = mArgs me') (hc : (mRoom me').cells = 0 ∧ (mRoom me').slots = 0) (hok : okS (mRoom me) me' st cs sl = true)
    (k : ∀ v hp1, f v hp1 = some z → Rn scr cs sl me (j + 1) L (.int v :: rest) hp1 res) : Rn scr cs sl me j L st hp res := r_st H he hm hs hst hn hc hok k
theorem r_vtI {β : Type} {g : M Int32} {f : Int32 → M β} {z : β × HP} {me' : ME} {as rest : List Value} {i ci o : Nat} (H : bnd (cv ci o g) f hp = some z) (he : (mCode me)[j]? = some (pc, .invokevirtual i, a, b, ts)) (hm : meths[a]? = some me') (hci : mCls me' = ci) (hs : Sm me' (.ref o :: as) eI g) (hst : st = as.reverse ++ .ref o :: rest) (hn : as.length + 1 = mArgs me') (hc : (mRoom me').cells = 0 ∧ (mRoom me').slots = 0) (hok : okS (mRoom me) me' st cs sl = true)
    (k : ∀ v hp1, f v hp1 = some z → Rn scr cs sl me (j + 1) L (.int v :: rest) hp1 res) : Rn scr cs sl me j L st hp res := r_vt H he hm hci hs hst hn hc hok k
theorem r_stU {β : Type} {g : M Unit} {f : Unit → M β} {z : β × HP} {me' : ME} {as rest : List Value} {i : Nat} (H : bnd g f hp = some z) (he : (mCode me)[j]? = some (pc, .invokestatic i, a, 0, ts)) (hm : meths[a]? = some me') (hs : Sm me' as eU g) (hst : st = as.reverse ++ rest) (hn : as.length = mArgs me') (hc : (mRoom me').cells = 0 ∧ (mRoom me').slots = 0) (hok : okS (mRoom me) me' st cs sl = true)
    (k : ∀ v hp1, f v hp1 = some z → Rn scr cs sl me (j + 1) L (rest) hp1 res) : Rn scr cs sl me j L st hp res := r_st H he hm hs hst hn hc hok k
theorem r_vtU {β : Type} {g : M Unit} {f : Unit → M β} {z : β × HP} {me' : ME} {as rest : List Value} {i ci o : Nat} (H : bnd (cv ci o g) f hp = some z) (he : (mCode me)[j]? = some (pc, .invokevirtual i, a, b, ts)) (hm : meths[a]? = some me') (hci : mCls me' = ci) (hs : Sm me' (.ref o :: as) eU g) (hst : st = as.reverse ++ .ref o :: rest) (hn : as.length + 1 = mArgs me') (hc : (mRoom me').cells = 0 ∧ (mRoom me').slots = 0) (hok : okS (mRoom me) me' st cs sl = true)
    (k : ∀ v hp1, f v hp1 = some z → Rn scr cs sl me (j + 1) L (rest) hp1 res) : Rn scr cs sl me j L st hp res := r_vt H he hm hci hs hst hn hc hok k
theorem r_stR {β : Type} {g : M Nat} {f : Nat → M β} {z : β × HP} {me' : ME} {as rest : List Value} {i : Nat} (H : bnd g f hp = some z) (he : (mCode me)[j]? = some (pc, .invokestatic i, a, 0, ts)) (hm : meths[a]? = some me') (hs : Sm me' as eR g) (hst : st = as.reverse ++ rest) (hn : as.length = mArgs me') (hc : (mRoom me').cells = 0 ∧ (mRoom me').slots = 0) (hok : okS (mRoom me) me' st cs sl = true)
    (k : ∀ v hp1, f v hp1 = some z → Rn scr cs sl me (j + 1) L (.ref v :: rest) hp1 res) : Rn scr cs sl me j L st hp res := r_st H he hm hs hst hn hc hok k
theorem r_vtR {β : Type} {g : M Nat} {f : Nat → M β} {z : β × HP} {me' : ME} {as rest : List Value} {i ci o : Nat} (H : bnd (cv ci o g) f hp = some z) (he : (mCode me)[j]? = some (pc, .invokevirtual i, a, b, ts)) (hm : meths[a]? = some me') (hci : mCls me' = ci) (hs : Sm me' (.ref o :: as) eR g) (hst : st = as.reverse ++ .ref o :: rest) (hn : as.length + 1 = mArgs me') (hc : (mRoom me').cells = 0 ∧ (mRoom me').slots = 0) (hok : okS (mRoom me) me' st cs sl = true)
    (k : ∀ v hp1, f v hp1 = some z → Rn scr cs sl me (j + 1) L (.ref v :: rest) hp1 res) : Rn scr cs sl me j L st hp res := r_vt H he hm hci hs hst hn hc hok k
end RULES2
end
section
def f_X0_copyFrom (a0 : Nat) (a1 : Nat) : M Unit := bnd (gI 0 0 a1) fun t1 => bnd (pI 0 0 a0 t1) fun _ => bnd (gI 0 1 a1) fun t2 => bnd (pI 0 1 a0 t2) fun _ => bnd (gR 0 3 a1) fun r3 => bnd (gR 0 3 a0) fun r4 => bnd (cpy r3 (0 : Int32) r4 (0 : Int32) (7 : Int32)) fun _ => bnd (gR 0 4 a1) fun r5 => bnd (gR 0 4 a0) fun r6 => bnd (cpy r5 (0 : Int32) r6 (0 : Int32) (7 : Int32)) fun _ => bnd (gR 0 5 a1) fun r7 => bnd (gR 0 5 a0) fun r8 => bnd (cpy r7 (0 : Int32) r8 (0 : Int32) (7 : Int32)) fun _ => bnd (gR 0 6 a1) fun r9 => bnd (gR 0 6 a0) fun r10 => bnd (cpy r9 (0 : Int32) r10 (0 : Int32) (7 : Int32)) fun _ => bnd (gR 0 7 a1) fun r11 => bnd (gR 0 7 a0) fun r12 => bnd (cpy r11 (0 : Int32) r12 (0 : Int32) (7 : Int32)) fun _ => rt ()
set_option maxRecDepth 20000 in
theorem s_X0_copyFrom (a0 : Nat) (a1 : Nat) : Sm eX0_copyFrom [.ref a0, .ref a1] eU (f_X0_copyFrom a0 a1) := by
  intro hp vr hr H
  unfold f_X0_copyFrom at H
  show Rn none 0 0 eX0_copyFrom 0 [some (.ref a0), some (.ref a1)] [] hp (eU vr, hr)
  refine r_aln rfl rfl rfl ?_
  refine r_aln rfl rfl rfl ?_
  refine r_gI' H rfl kl_0_0 (fun t1 H => ?_)
  refine r_pI H rfl kd_0_0 (fun H => ?_)
  refine r_aln rfl rfl rfl ?_
  refine r_aln rfl rfl rfl ?_
  refine r_gI' H rfl kl_0_1 (fun t2 H => ?_)
  refine r_pI H rfl kd_0_1 (fun H => ?_)
  refine r_aln rfl rfl rfl ?_
  refine r_gR H rfl kd_0_3 (fun r3 H => ?_)
  refine r_ic (v := 0) rfl ci_0 ?_
  refine r_aln rfl rfl rfl ?_
  refine r_gR H rfl kd_0_3 (fun r4 H => ?_)
  refine r_ic (v := 0) rfl ci_0 ?_
  refine r_bi (v := 7) rfl cb_7 ?_
  refine r_cpy H rfl (Nat.le_of_ble_eq_true rfl) (Nat.le_of_ble_eq_true rfl) (fun h17 H => ?_)
  refine r_aln rfl rfl rfl ?_
  refine r_gR H rfl kd_0_4 (fun r5 H => ?_)
  refine r_ic (v := 0) rfl ci_0 ?_
  refine r_aln rfl rfl rfl ?_
  refine r_gR H rfl kd_0_4 (fun r6 H => ?_)
  refine r_ic (v := 0) rfl ci_0 ?_
  refine r_bi (v := 7) rfl cb_7 ?_
  refine r_cpy H rfl (Nat.le_of_ble_eq_true rfl) (Nat.le_of_ble_eq_true rfl) (fun h16 H => ?_)
  refine r_aln rfl rfl rfl ?_
  refine r_gR H rfl kd_0_5 (fun r7 H => ?_)
  refine r_ic (v := 0) rfl ci_0 ?_
  refine r_aln rfl rfl rfl ?_
  refine r_gR H rfl kd_0_5 (fun r8 H => ?_)
  refine r_ic (v := 0) rfl ci_0 ?_
  refine r_bi (v := 7) rfl cb_7 ?_
  refine r_cpy H rfl (Nat.le_of_ble_eq_true rfl) (Nat.le_of_ble_eq_true rfl) (fun h15 H => ?_)
  refine r_aln rfl rfl rfl ?_
  refine r_gR H rfl kd_0_6 (fun r9 H => ?_)
  refine r_ic (v := 0) rfl ci_0 ?_
  refine r_aln rfl rfl rfl ?_
  refine r_gR H rfl kd_0_6 (fun r10 H => ?_)
  refine r_ic (v := 0) rfl ci_0 ?_
  refine r_bi (v := 7) rfl cb_7 ?_
  refine r_cpy H rfl (Nat.le_of_ble_eq_true rfl) (Nat.le_of_ble_eq_true rfl) (fun h14 H => ?_)
  refine r_aln rfl rfl rfl ?_
  refine r_gR H rfl kd_0_7 (fun r11 H => ?_)
  refine r_ic (v := 0) rfl ci_0 ?_
  refine r_aln rfl rfl rfl ?_
  refine r_gR H rfl kd_0_7 (fun r12 H => ?_)
  refine r_ic (v := 0) rfl ci_0 ?_
  refine r_bi (v := 7) rfl cb_7 ?_
  refine r_cpy H rfl (Nat.le_of_ble_eq_true rfl) (Nat.le_of_ble_eq_true rfl) (fun h13 H => ?_)
  exact r_retv H rfl rfl ⟨Nat.zero_le _, Nat.zero_le _⟩
def f_X0_has (a0 : Nat) (a1 : Int32) : M Int32 := if a1 < (0 : Int32) then retZ (0 : Int32) else bnd (gI 0 0 a0) fun t1 => if t1 ≤ a1 then retZ (0 : Int32) else retZ (1 : Int32)
set_option maxRecDepth 20000 in
theorem s_X0_has (a0 : Nat) (a1 : Int32) : Sm eX0_has [.ref a0, .int a1] eI (f_X0_has a0 a1) := by
  intro hp vr hr H
  unfold f_X0_has at H
  show Rn none 0 0 eX0_has 0 [some (.ref a0), some (.int a1)] [] hp (eI vr, hr)
  refine r_iln rfl rfl rfl ?_
  refine r_if H rfl rfl (fun H => ?_) (fun H => ?_)
  · refine r_ic (v := 0) rfl ci_0 ?_
    exact r_retz H rfl rfl ⟨Nat.zero_le _, Nat.zero_le _⟩
  · refine r_iln rfl rfl rfl ?_
    refine r_aln rfl rfl rfl ?_
    refine r_gI' H rfl kl_0_0 (fun t1 H => ?_)
    refine r_cmp H rfl rfl (fun H => ?_) (fun H => ?_)
    · refine r_ic (v := 0) rfl ci_0 ?_
      exact r_retz H rfl rfl ⟨Nat.zero_le _, Nat.zero_le _⟩
    · refine r_ic (v := 1) rfl ci_1 ?_
      refine r_go rfl ?_
      exact r_retz H rfl rfl ⟨Nat.zero_le _, Nat.zero_le _⟩
def f_X0_everybody (a0 : Nat) : M Int32 := bnd (gI 0 0 a0) fun t1 => rt (((1 : Int32) <<< (t1 &&& (31 : Int32))) - (1 : Int32))
set_option maxRecDepth 20000 in
theorem s_X0_everybody (a0 : Nat) : Sm eX0_everybody [.ref a0] eI (f_X0_everybody a0) := by
  intro hp vr hr H
  unfold f_X0_everybody at H
  show Rn none 0 0 eX0_everybody 0 [some (.ref a0)] [] hp (eI vr, hr)
  refine r_ic (v := 1) rfl ci_1 ?_
  refine r_aln rfl rfl rfl ?_
  refine r_gI' H rfl kl_0_0 (fun t1 H => ?_)
  refine r_shl rfl ?_
  refine r_ic (v := 1) rfl ci_1 ?_
  refine r_sub rfl ?_
  exact r_reti H rfl rfl ⟨Nat.zero_le _, Nat.zero_le _⟩
def f_X0_others (a0 : Nat) (a1 : Int32) : M Int32 := bnd (cv 0 a0 (f_X0_everybody a0)) fun t1 => rt (t1 &&& (((1 : Int32) <<< (a1 &&& (31 : Int32))) ^^^ (-1 : Int32)))
set_option maxRecDepth 20000 in
theorem s_X0_others (a0 : Nat) (a1 : Int32) : Sm eX0_others [.ref a0, .int a1] eI (f_X0_others a0 a1) := by
  intro hp vr hr H
  unfold f_X0_others at H
  show Rn none 0 0 eX0_others 0 [some (.ref a0), some (.int a1)] [] hp (eI vr, hr)
  refine r_aln rfl rfl rfl ?_
  refine r_vtI (rest := []) H rfl rfl rfl (s_X0_everybody a0) rfl rfl ⟨rfl, rfl⟩ rfl (fun t1 h2 H => ?_)
  refine r_ic (v := 1) rfl ci_1 ?_
  refine r_iln rfl rfl rfl ?_
  refine r_shl rfl ?_
  refine r_ic (v := -1) rfl ci_m1 ?_
  refine r_xor rfl ?_
  refine r_and rfl ?_
  exact r_reti H rfl rfl ⟨Nat.zero_le _, Nat.zero_le _⟩
def f_X0_add (a0 : Nat) (a1 : Int32) (a2 : Int32) (a3 : Int32) : M Int32 := bnd (gI 0 0 a0) fun t1 => if t1 < (7 : Int32) then bnd (gR 0 3 a0) fun r2 => bnd (gI 0 0 a0) fun t3 => bnd (sI r2 t3 a1) fun _ => bnd (gR 0 4 a0) fun r4 => bnd (gI 0 0 a0) fun t5 => bnd (sI r4 t5 a2) fun _ => bnd (gR 0 5 a0) fun r6 => bnd (gI 0 0 a0) fun t7 => bnd (sI r6 t7 a3) fun _ => bnd (gR 0 6 a0) fun r8 => bnd (gI 0 0 a0) fun t9 => bnd (sI r8 t9 a3) fun _ => bnd (gR 0 7 a0) fun r10 => bnd (gI 0 0 a0) fun t11 => bnd (sI r10 t11 (0 : Int32)) fun _ => bnd (gI 0 0 a0) fun t12 => bnd (pI 0 0 a0 (t12 + (1 : Int32))) fun _ => bnd (gI 0 0 a0) fun t13 => rt (t13 - (1 : Int32)) else rt (-9 : Int32)
set_option maxRecDepth 20000 in
theorem s_X0_add (a0 : Nat) (a1 : Int32) (a2 : Int32) (a3 : Int32) : Sm eX0_add [.ref a0, .int a1, .int a2, .int a3] eI (f_X0_add a0 a1 a2 a3) := by
  intro hp vr hr H
  unfold f_X0_add at H
  show Rn none 0 0 eX0_add 0 [some (.ref a0), some (.int a1), some (.int a2), some (.int a3)] [] hp (eI vr, hr)
  refine r_aln rfl rfl rfl ?_
  refine r_gI' H rfl kl_0_0 (fun t1 H => ?_)
  refine r_bi (v := 7) rfl cb_7 ?_
  refine r_cmp H rfl rfl (fun H => ?_) (fun H => ?_)
  · refine r_aln rfl rfl rfl ?_
    refine r_gR H rfl kd_0_3 (fun r2 H => ?_)
    refine r_aln rfl rfl rfl ?_
    refine r_gI' H rfl kl_0_0 (fun t3 H => ?_)
    refine r_iln rfl rfl rfl ?_
    refine r_sI H rfl (fun H => ?_)
    refine r_aln rfl rfl rfl ?_
    refine r_gR H rfl kd_0_4 (fun r4 H => ?_)
    refine r_aln rfl rfl rfl ?_
    refine r_gI' H rfl kl_0_0 (fun t5 H => ?_)
    refine r_iln rfl rfl rfl ?_
    refine r_sI H rfl (fun H => ?_)
    refine r_aln rfl rfl rfl ?_
    refine r_gR H rfl kd_0_5 (fun r6 H => ?_)
    refine r_aln rfl rfl rfl ?_
    refine r_gI' H rfl kl_0_0 (fun t7 H => ?_)
    refine r_iln rfl rfl rfl ?_
    refine r_sI H rfl (fun H => ?_)
    refine r_aln rfl rfl rfl ?_
    refine r_gR H rfl kd_0_6 (fun r8 H => ?_)
    refine r_aln rfl rfl rfl ?_
    refine r_gI' H rfl kl_0_0 (fun t9 H => ?_)
    refine r_iln rfl rfl rfl ?_
    refine r_sI H rfl (fun H => ?_)
    refine r_aln rfl rfl rfl ?_
    refine r_gR H rfl kd_0_7 (fun r10 H => ?_)
    refine r_aln rfl rfl rfl ?_
    refine r_gI' H rfl kl_0_0 (fun t11 H => ?_)
    refine r_ic (v := 0) rfl ci_0 ?_
    refine r_sI H rfl (fun H => ?_)
    refine r_aln rfl rfl rfl ?_
    refine r_dupr rfl ?_
    refine r_gI' H rfl kl_0_0 (fun t12 H => ?_)
    refine r_ic (v := 1) rfl ci_1 ?_
    refine r_add rfl ?_
    refine r_pI H rfl kd_0_0 (fun H => ?_)
    refine r_aln rfl rfl rfl ?_
    refine r_gI' H rfl kl_0_0 (fun t13 H => ?_)
    refine r_ic (v := 1) rfl ci_1 ?_
    refine r_sub rfl ?_
    exact r_reti H rfl rfl ⟨Nat.zero_le _, Nat.zero_le _⟩
  · refine r_bi (v := -9) rfl cb_m9 ?_
    exact r_reti H rfl rfl ⟨Nat.zero_le _, Nat.zero_le _⟩
def f_X0_word (a0 : Nat) (a1 : Int32) (a2 : Int32) : M Int32 := bnd (gR 0 4 a0) fun r1 => bnd (aI r1 a1) fun t2 => jn (fun k4 => if (a2 + t2) ≤ (99 : Int32) then bnd (gR 0 4 a0) fun r21 => bnd (aI r21 a1) fun t22 => k4 (a2 + t22) else k4 (99 : Int32)) (fun (s3 : Int32) => bnd (gR 0 4 a0) fun r5 => bnd (aI r5 a1) fun t6 => bnd (gR 0 3 a0) fun r7 => bnd (aI r7 a1) fun t8 => if t8 = (1 : Int32) then rt s3 else if t8 = (2 : Int32) then if ((2 : Int32) * t6) ≤ a2 then rt (a2 - ((2 : Int32) * t6)) else rt (0 : Int32) else if t8 = (3 : Int32) then bnd (gR 0 6 a0) fun r12 => bnd (aI r12 a1) fun t13 => bnd (divM (s3 + t13) (2 : Int32)) fun t14 => rt t14 else if t8 = (4 : Int32) then bnd (gR 0 6 a0) fun r16 => bnd (aI r16 a1) fun t17 => if ((2 : Int32) * t6) ≤ t17 then bnd (gR 0 6 a0) fun r18 => bnd (aI r18 a1) fun t19 => rt (t19 - ((2 : Int32) * t6)) else rt (0 : Int32) else if t8 = (5 : Int32) then rt ((99 : Int32) - a2) else rt a2)
set_option maxRecDepth 20000 in
theorem s_X0_word (a0 : Nat) (a1 : Int32) (a2 : Int32) : Sm eX0_word [.ref a0, .int a1, .int a2] eI (f_X0_word a0 a1 a2) := by
  intro hp vr hr H
  unfold f_X0_word at H
  show Rn none 0 0 eX0_word 0 [some (.ref a0), some (.int a1), some (.int a2), none, none] [] hp (eI vr, hr)
  refine r_iln rfl rfl rfl ?_
  refine r_aln rfl rfl rfl ?_
  refine r_gR H rfl kd_0_4 (fun r1 H => ?_)
  refine r_iln rfl rfl rfl ?_
  refine r_aI' H rfl (fun t2 H => ?_)
  refine r_add rfl ?_
  refine r_bi (v := 99) rfl cb_99 ?_
  refine r_jn (P := (fun (s3 : Int32) hq => Rn none 0 0 eX0_word 16 [some (.ref a0), some (.int a1), some (.int a2), none, none] [.int s3] hq (eI vr, hr))) H (fun s3 hs3 H  => ?_) (fun k4 K4 H => ?_)
  · refine r_isn (L' := [some (.ref a0), some (.int a1), some (.int a2), some (.int s3), none]) rfl rfl (Nat.le_of_ble_eq_true rfl) rfl ?_
    refine r_ic (v := 2) rfl ci_2 ?_
    refine r_aln rfl rfl rfl ?_
    refine r_gR H rfl kd_0_4 (fun r5 H => ?_)
    refine r_iln rfl rfl rfl ?_
    refine r_aI' H rfl (fun t6 H => ?_)
    refine r_mul rfl ?_
    refine r_is (L' := [some (.ref a0), some (.int a1), some (.int a2), some (.int s3), some (.int ((2 : Int32) * t6))]) rfl (Nat.le_of_ble_eq_true rfl) rfl ?_
    refine r_aln rfl rfl rfl ?_
    refine r_gR H rfl kd_0_3 (fun r7 H => ?_)
    refine r_iln rfl rfl rfl ?_
    refine r_aI' H rfl (fun t8 H => ?_)
    rcases Decidable.em (t8 = (1 : Int32)) with h9 | h9
    · rw [if_pos h9] at H; refine r_tab (t := 29) rfl (by rw [h9]; rfl) ?_
      refine r_iln rfl rfl rfl ?_
      exact r_reti H rfl rfl ⟨Nat.zero_le _, Nat.zero_le _⟩
    · rw [if_neg h9] at H; rcases Decidable.em (t8 = (2 : Int32)) with h10 | h10
      · rw [if_pos h10] at H; refine r_tab (t := 31) rfl (by rw [h10]; rfl) ?_
        refine r_iln rfl rfl rfl ?_
        refine r_il rfl rfl ?_
        refine r_cmp H rfl rfl (fun H => ?_) (fun H => ?_)
        · refine r_iln rfl rfl rfl ?_
          refine r_il rfl rfl ?_
          refine r_sub rfl ?_
          exact r_reti H rfl rfl ⟨Nat.zero_le _, Nat.zero_le _⟩
        · refine r_ic (v := 0) rfl ci_0 ?_
          refine r_go rfl ?_
          exact r_reti H rfl rfl ⟨Nat.zero_le _, Nat.zero_le _⟩
      · rw [if_neg h10] at H; rcases Decidable.em (t8 = (3 : Int32)) with h11 | h11
        · rw [if_pos h11] at H; refine r_tab (t := 40) rfl (by rw [h11]; rfl) ?_
          refine r_iln rfl rfl rfl ?_
          refine r_aln rfl rfl rfl ?_
          refine r_gR H rfl kd_0_6 (fun r12 H => ?_)
          refine r_iln rfl rfl rfl ?_
          refine r_aI' H rfl (fun t13 H => ?_)
          refine r_add rfl ?_
          refine r_ic (v := 2) rfl ci_2 ?_
          refine r_div H rfl (fun H => ?_)
          exact r_reti H rfl rfl ⟨Nat.zero_le _, Nat.zero_le _⟩
        · rw [if_neg h11] at H; rcases Decidable.em (t8 = (4 : Int32)) with h15 | h15
          · rw [if_pos h15] at H; refine r_tab (t := 49) rfl (by rw [h15]; rfl) ?_
            refine r_aln rfl rfl rfl ?_
            refine r_gR H rfl kd_0_6 (fun r16 H => ?_)
            refine r_iln rfl rfl rfl ?_
            refine r_aI' H rfl (fun t17 H => ?_)
            refine r_il rfl rfl ?_
            refine r_cmp H rfl rfl (fun H => ?_) (fun H => ?_)
            · refine r_aln rfl rfl rfl ?_
              refine r_gR H rfl kd_0_6 (fun r18 H => ?_)
              refine r_iln rfl rfl rfl ?_
              refine r_aI' H rfl (fun t19 H => ?_)
              refine r_il rfl rfl ?_
              refine r_sub rfl ?_
              exact r_reti H rfl rfl ⟨Nat.zero_le _, Nat.zero_le _⟩
            · refine r_ic (v := 0) rfl ci_0 ?_
              refine r_go rfl ?_
              exact r_reti H rfl rfl ⟨Nat.zero_le _, Nat.zero_le _⟩
          · rw [if_neg h15] at H; rcases Decidable.em (t8 = (5 : Int32)) with h20 | h20
            · rw [if_pos h20] at H; refine r_tab (t := 64) rfl (by rw [h20]; rfl) ?_
              refine r_bi (v := 99) rfl cb_99 ?_
              refine r_iln rfl rfl rfl ?_
              refine r_sub rfl ?_
              exact r_reti H rfl rfl ⟨Nat.zero_le _, Nat.zero_le _⟩
            · rw [if_neg h20] at H; refine r_tab (t := 68) rfl (by have g0 := sw_ne h9 (v := 1) rfl; have g1 := sw_ne h10 (v := 2) rfl; have g2 := sw_ne h11 (v := 3) rfl; have g3 := sw_ne h15 (v := 4) rfl; have g4 := sw_ne h20 (v := 5) rfl; exact (sw_out (by omega)).trans rfl) ?_
              refine r_iln rfl rfl rfl ?_
              exact r_reti H rfl rfl ⟨Nat.zero_le _, Nat.zero_le _⟩
  · refine r_cmp H rfl rfl (fun H => ?_) (fun H => ?_)
    · refine r_iln rfl rfl rfl ?_
      refine r_aln rfl rfl rfl ?_
      refine r_gR H rfl kd_0_4 (fun r21 H => ?_)
      refine r_iln rfl rfl rfl ?_
      refine r_aI' H rfl (fun t22 H => ?_)
      refine r_add rfl ?_
      exact K4 _ _ H
    · refine r_bi (v := 99) rfl cb_99 ?_
      refine r_go rfl ?_
      exact K4 _ _ H
def f_X6_holds (a0 : Int32) (a1 : Int32) : M Int32 := if ((a0 >>> (a1 &&& (31 : Int32))) &&& (1 : Int32)) = (0 : Int32) then retZ (0 : Int32) else retZ (1 : Int32)
set_option maxRecDepth 20000 in
theorem s_X6_holds (a0 : Int32) (a1 : Int32) : Sm eX6_holds [.int a0, .int a1] eI (f_X6_holds a0 a1) := by
  intro hp vr hr H
  unfold f_X6_holds at H
  show Rn none 0 0 eX6_holds 0 [some (.int a0), some (.int a1)] [] hp (eI vr, hr)
  refine r_iln rfl rfl rfl ?_
  refine r_iln rfl rfl rfl ?_
  refine r_shr rfl ?_
  refine r_ic (v := 1) rfl ci_1 ?_
  refine r_and rfl ?_
  refine r_if H rfl rfl (fun H => ?_) (fun H => ?_)
  · refine r_ic (v := 0) rfl ci_0 ?_
    exact r_retz H rfl rfl ⟨Nat.zero_le _, Nat.zero_le _⟩
  · refine r_ic (v := 1) rfl ci_1 ?_
    refine r_go rfl ?_
    exact r_retz H rfl rfl ⟨Nat.zero_le _, Nat.zero_le _⟩
def f_X0_mean (a0 : Nat) (a1 : Int32) (a2 : Int32) : M Int32 := loopK NF (fun (s1 : Int32 × Int32 × Int32) k2 => bnd (gI 0 0 a0) fun t3 => if t3 ≤ s1.2.2 then if ¬ s1.2.1 = (0 : Int32) then bnd (divM s1.1 s1.2.1) fun t4 => rt t4 else rt (-9 : Int32) else bnd (f_X6_holds a1 s1.2.2) fun t5 => if t5 = (0 : Int32) then k2 (s1.1, s1.2.1, (s1.2.2 + (1 : Int32))) else bnd (cv 0 a0 (f_X0_word a0 s1.2.2 a2)) fun t7 => k2 ((s1.1 + t7), (s1.2.1 + (1 : Int32)), (s1.2.2 + (1 : Int32)))) ((0 : Int32), (0 : Int32), (0 : Int32))
set_option maxRecDepth 20000 in
theorem s_X0_mean (a0 : Nat) (a1 : Int32) (a2 : Int32) : Sm eX0_mean [.ref a0, .int a1, .int a2] eI (f_X0_mean a0 a1 a2) := by
  intro hp vr hr H
  unfold f_X0_mean at H
  show Rn none 0 0 eX0_mean 0 [some (.ref a0), some (.int a1), some (.int a2), none, none, none] [] hp (eI vr, hr)
  refine r_ic (v := 0) rfl ci_0 ?_
  refine r_isn (L' := [some (.ref a0), some (.int a1), some (.int a2), some (.int (0 : Int32)), none, none]) rfl rfl (Nat.le_of_ble_eq_true rfl) rfl ?_
  refine r_ic (v := 0) rfl ci_0 ?_
  refine r_is (L' := [some (.ref a0), some (.int a1), some (.int a2), some (.int (0 : Int32)), some (.int (0 : Int32)), none]) rfl (Nat.le_of_ble_eq_true rfl) rfl ?_
  refine r_ic (v := 0) rfl ci_0 ?_
  refine r_is (L' := [some (.ref a0), some (.int a1), some (.int a2), some (.int (0 : Int32)), some (.int (0 : Int32)), some (.int (0 : Int32))]) rfl (Nat.le_of_ble_eq_true rfl) rfl ?_
  refine (r_loop (P := (fun (s1 : Int32 × Int32 × Int32) hq => Rn none 0 0 eX0_mean 6 [some (.ref a0), some (.int a1), some (.int a2), some (.int s1.1), some (.int s1.2.1), some (.int s1.2.2)] [] hq (eI vr, hr))) ?_ NF _ _ H)
  intro k2 K2 s1 hs1 H 
  refine r_il rfl rfl ?_
  refine r_aln rfl rfl rfl ?_
  refine r_gI' H rfl kl_0_0 (fun t3 H => ?_)
  refine r_cmp H rfl rfl (fun H => ?_) (fun H => ?_)
  · refine r_il rfl rfl ?_
    refine r_if H rfl rfl (fun H => ?_) (fun H => ?_)
    · refine r_iln rfl rfl rfl ?_
      refine r_il rfl rfl ?_
      refine r_div H rfl (fun H => ?_)
      exact r_reti H rfl rfl ⟨Nat.zero_le _, Nat.zero_le _⟩
    · refine r_bi (v := -9) rfl cb_m9 ?_
      refine r_go rfl ?_
      exact r_reti H rfl rfl ⟨Nat.zero_le _, Nat.zero_le _⟩
  · refine r_iln rfl rfl rfl ?_
    refine r_il rfl rfl ?_
    refine r_stI (rest := []) H rfl rfl (s_X6_holds a1 s1.2.2) rfl rfl ⟨rfl, rfl⟩ rfl (fun t5 h6 H => ?_)
    refine r_if H rfl rfl (fun H => ?_) (fun H => ?_)
    · refine r_inc (v := 1) (L' := [some (.ref a0), some (.int a1), some (.int a2), some (.int s1.1), some (.int s1.2.1), some (.int (s1.2.2 + (1 : Int32)))]) rfl rfl ci_1 rfl ?_
      refine r_go rfl ?_
      exact K2 _ _ H
    · refine r_iln rfl rfl rfl ?_
      refine r_aln rfl rfl rfl ?_
      refine r_il rfl rfl ?_
      refine r_iln rfl rfl rfl ?_
      refine r_vtI (rest := [.int s1.1]) H rfl rfl rfl (s_X0_word a0 s1.2.2 a2) rfl rfl ⟨rfl, rfl⟩ rfl (fun t7 h8 H => ?_)
      refine r_add rfl ?_
      refine r_isn (L' := [some (.ref a0), some (.int a1), some (.int a2), some (.int (s1.1 + t7)), some (.int s1.2.1), some (.int s1.2.2)]) rfl rfl (Nat.le_of_ble_eq_true rfl) rfl ?_
      refine r_inc (v := 1) (L' := [some (.ref a0), some (.int a1), some (.int a2), some (.int (s1.1 + t7)), some (.int (s1.2.1 + (1 : Int32))), some (.int s1.2.2)]) rfl rfl ci_1 rfl ?_
      refine r_inc (v := 1) (L' := [some (.ref a0), some (.int a1), some (.int a2), some (.int (s1.1 + t7)), some (.int (s1.2.1 + (1 : Int32))), some (.int (s1.2.2 + (1 : Int32)))]) rfl rfl ci_1 rfl ?_
      refine r_go rfl ?_
      exact K2 _ _ H
def f_J9_abs_0f7a4 (a0 : Int32) : M Int32 := if (0 : Int32) ≤ a0 then rt a0 else rt (-a0)
set_option maxRecDepth 20000 in
theorem s_J9_abs_0f7a4 (a0 : Int32) : Sm eJ9_abs_0f7a4 [.int a0] eI (f_J9_abs_0f7a4 a0) := by
  intro hp vr hr H
  unfold f_J9_abs_0f7a4 at H
  show Rn none 0 0 eJ9_abs_0f7a4 0 [some (.int a0)] [] hp (eI vr, hr)
  refine r_iln rfl rfl rfl ?_
  refine r_if H rfl rfl (fun H => ?_) (fun H => ?_)
  · refine r_iln rfl rfl rfl ?_
    exact r_reti H rfl rfl ⟨Nat.zero_le _, Nat.zero_le _⟩
  · refine r_iln rfl rfl rfl ?_
    refine r_neg rfl ?_
    refine r_go rfl ?_
    exact r_reti H rfl rfl ⟨Nat.zero_le _, Nat.zero_le _⟩
def f_J9_max_7cf53 (a0 : Int32) (a1 : Int32) : M Int32 := if a0 < a1 then rt a1 else rt a0
set_option maxRecDepth 20000 in
theorem s_J9_max_7cf53 (a0 : Int32) (a1 : Int32) : Sm eJ9_max_7cf53 [.int a0, .int a1] eI (f_J9_max_7cf53 a0 a1) := by
  intro hp vr hr H
  unfold f_J9_max_7cf53 at H
  show Rn none 0 0 eJ9_max_7cf53 0 [some (.int a0), some (.int a1)] [] hp (eI vr, hr)
  refine r_iln rfl rfl rfl ?_
  refine r_iln rfl rfl rfl ?_
  refine r_cmp H rfl rfl (fun H => ?_) (fun H => ?_)
  · refine r_iln rfl rfl rfl ?_
    exact r_reti H rfl rfl ⟨Nat.zero_le _, Nat.zero_le _⟩
  · refine r_iln rfl rfl rfl ?_
    refine r_go rfl ?_
    exact r_reti H rfl rfl ⟨Nat.zero_le _, Nat.zero_le _⟩
def f_X0_passWeek (a0 : Nat) : M Int32 := loopK NF (fun (s1 : Int32) k2 => bnd (gI 0 0 a0) fun t3 => if t3 ≤ s1 then bnd (pI 0 2 a0 (0 : Int32)) fun _ => loopK NF (fun (s4 : Int32 × Int32) k5 => bnd (gI 0 0 a0) fun t7 => if t7 ≤ s4.2 then bnd (gI 0 1 a0) fun t8 => bnd (pI 0 1 a0 (t8 + (1 : Int32))) fun _ => rt s4.1 else bnd (gR 0 8 a0) fun r9 => bnd (aI r9 s4.2) fun t10 => bnd (gR 0 6 a0) fun r11 => bnd (aI r11 s4.2) fun t12 => bnd (f_J9_abs_0f7a4 (t10 - t12)) fun t13 => bnd (gI 0 2 a0) fun t15 => bnd (f_J9_max_7cf53 t15 t13) fun t16 => bnd (pI 0 2 a0 t16) fun _ => jn (fun k19 => if ¬ t13 = (0 : Int32) then k19 (1 : Int32) else k19 (0 : Int32)) (fun (s18 : Int32) => bnd (gR 0 6 a0) fun r20 => bnd (gR 0 8 a0) fun r21 => bnd (aI r21 s4.2) fun t22 => bnd (sI r20 s4.2 t22) fun _ => k5 ((s4.1 + s18), (s4.2 + (1 : Int32))))) ((0 : Int32), (0 : Int32)) else bnd (gR 0 8 a0) fun r23 => bnd (gR 0 7 a0) fun r24 => bnd (aI r24 s1) fun t25 => if ¬ t25 = (0 : Int32) then bnd (gR 0 7 a0) fun r26 => bnd (aI r26 s1) fun t27 => bnd (gR 0 5 a0) fun r28 => bnd (aI r28 s1) fun t29 => bnd (cv 0 a0 (f_X0_mean a0 t27 t29)) fun t30 => bnd (sI r23 s1 t30) fun _ => k2 (s1 + (1 : Int32)) else bnd (gR 0 6 a0) fun r32 => bnd (aI r32 s1) fun t33 => bnd (sI r23 s1 t33) fun _ => k2 (s1 + (1 : Int32))) (0 : Int32)
set_option maxRecDepth 20000 in
theorem s_X0_passWeek (a0 : Nat) : Sm eX0_passWeek [.ref a0] eI (f_X0_passWeek a0) := by
  intro hp vr hr H
  unfold f_X0_passWeek at H
  show Rn none 0 0 eX0_passWeek 0 [some (.ref a0), none, none, none] [] hp (eI vr, hr)
  refine r_ic (v := 0) rfl ci_0 ?_
  refine r_isn (L' := [some (.ref a0), some (.int (0 : Int32)), none, none]) rfl rfl (Nat.le_of_ble_eq_true rfl) rfl ?_
  refine (r_loop (P := (fun (s1 : Int32) hq => Rn none 0 0 eX0_passWeek 2 [some (.ref a0), some (.int s1), none, none] [] hq (eI vr, hr))) ?_ NF _ _ H)
  intro k2 K2 s1 hs1 H 
  refine r_iln rfl rfl rfl ?_
  refine r_aln rfl rfl rfl ?_
  refine r_gI' H rfl kl_0_0 (fun t3 H => ?_)
  refine r_cmp H rfl rfl (fun H => ?_) (fun H => ?_)
  · refine r_ic (v := 0) rfl ci_0 ?_
    refine r_isn (L' := [some (.ref a0), some (.int (0 : Int32)), none, none]) rfl rfl (Nat.le_of_ble_eq_true rfl) rfl ?_
    refine r_aln rfl rfl rfl ?_
    refine r_ic (v := 0) rfl ci_0 ?_
    refine r_pI H rfl kd_0_2 (fun H => ?_)
    refine r_ic (v := 0) rfl ci_0 ?_
    refine r_isn (L' := [some (.ref a0), some (.int (0 : Int32)), some (.int (0 : Int32)), none]) rfl rfl (Nat.le_of_ble_eq_true rfl) rfl ?_
    refine (r_loop (P := (fun (s4 : Int32 × Int32) hq => ∀ x6 : Option Value, Rn none 0 0 eX0_passWeek 39 [some (.ref a0), some (.int s4.1), some (.int s4.2), x6] [] hq (eI vr, hr))) ?_ NF _ _ H) _
    intro k5 K5 s4 hs4 H x6
    refine r_iln rfl rfl rfl ?_
    refine r_aln rfl rfl rfl ?_
    refine r_gI' H rfl kl_0_0 (fun t7 H => ?_)
    refine r_cmp H rfl rfl (fun H => ?_) (fun H => ?_)
    · refine r_aln rfl rfl rfl ?_
      refine r_dupr rfl ?_
      refine r_gI' H rfl kl_0_1 (fun t8 H => ?_)
      refine r_ic (v := 1) rfl ci_1 ?_
      refine r_add rfl ?_
      refine r_pI H rfl kd_0_1 (fun H => ?_)
      refine r_iln rfl rfl rfl ?_
      exact r_reti H rfl rfl ⟨Nat.zero_le _, Nat.zero_le _⟩
    · refine r_aln rfl rfl rfl ?_
      refine r_gR H rfl kd_0_8 (fun r9 H => ?_)
      refine r_iln rfl rfl rfl ?_
      refine r_aI' H rfl (fun t10 H => ?_)
      refine r_aln rfl rfl rfl ?_
      refine r_gR H rfl kd_0_6 (fun r11 H => ?_)
      refine r_iln rfl rfl rfl ?_
      refine r_aI' H rfl (fun t12 H => ?_)
      refine r_sub rfl ?_
      refine r_stI (rest := []) H rfl rfl (s_J9_abs_0f7a4 (t10 - t12)) rfl rfl ⟨rfl, rfl⟩ rfl (fun t13 h14 H => ?_)
      refine r_isn (L' := [some (.ref a0), some (.int s4.1), some (.int s4.2), some (.int t13)]) rfl rfl (Nat.le_of_ble_eq_true rfl) rfl ?_
      refine r_aln rfl rfl rfl ?_
      refine r_aln rfl rfl rfl ?_
      refine r_gI' H rfl kl_0_2 (fun t15 H => ?_)
      refine r_iln rfl rfl rfl ?_
      refine r_stI (rest := [.ref a0]) H rfl rfl (s_J9_max_7cf53 t15 t13) rfl rfl ⟨rfl, rfl⟩ rfl (fun t16 h17 H => ?_)
      refine r_pI H rfl kd_0_2 (fun H => ?_)
      refine r_iln rfl rfl rfl ?_
      refine r_iln rfl rfl rfl ?_
      refine r_jn (P := (fun (s18 : Int32) hq => Rn none 0 0 eX0_passWeek 66 [some (.ref a0), some (.int s4.1), some (.int s4.2), some (.int t13)] [.int s18, .int s4.1] hq (eI vr, hr))) H (fun s18 hs18 H  => ?_) (fun k19 K19 H => ?_)
      · refine r_add rfl ?_
        refine r_isn (L' := [some (.ref a0), some (.int (s4.1 + s18)), some (.int s4.2), some (.int t13)]) rfl rfl (Nat.le_of_ble_eq_true rfl) rfl ?_
        refine r_aln rfl rfl rfl ?_
        refine r_gR H rfl kd_0_6 (fun r20 H => ?_)
        refine r_iln rfl rfl rfl ?_
        refine r_aln rfl rfl rfl ?_
        refine r_gR H rfl kd_0_8 (fun r21 H => ?_)
        refine r_iln rfl rfl rfl ?_
        refine r_aI' H rfl (fun t22 H => ?_)
        refine r_sI H rfl (fun H => ?_)
        refine r_inc (v := 1) (L' := [some (.ref a0), some (.int (s4.1 + s18)), some (.int (s4.2 + (1 : Int32))), some (.int t13)]) rfl rfl ci_1 rfl ?_
        refine r_go rfl ?_
        exact K5 _ _ H _
      · refine r_if H rfl rfl (fun H => ?_) (fun H => ?_)
        · refine r_ic (v := 1) rfl ci_1 ?_
          exact K19 _ _ H
        · refine r_ic (v := 0) rfl ci_0 ?_
          refine r_go rfl ?_
          exact K19 _ _ H
  · refine r_aln rfl rfl rfl ?_
    refine r_gR H rfl kd_0_8 (fun r23 H => ?_)
    refine r_iln rfl rfl rfl ?_
    refine r_aln rfl rfl rfl ?_
    refine r_gR H rfl kd_0_7 (fun r24 H => ?_)
    refine r_iln rfl rfl rfl ?_
    refine r_aI' H rfl (fun t25 H => ?_)
    refine r_if H rfl rfl (fun H => ?_) (fun H => ?_)
    · refine r_aln rfl rfl rfl ?_
      refine r_aln rfl rfl rfl ?_
      refine r_gR H rfl kd_0_7 (fun r26 H => ?_)
      refine r_iln rfl rfl rfl ?_
      refine r_aI' H rfl (fun t27 H => ?_)
      refine r_aln rfl rfl rfl ?_
      refine r_gR H rfl kd_0_5 (fun r28 H => ?_)
      refine r_iln rfl rfl rfl ?_
      refine r_aI' H rfl (fun t29 H => ?_)
      refine r_vtI (rest := [.int s1, .ref r23]) H rfl rfl rfl (s_X0_mean a0 t27 t29) rfl rfl ⟨rfl, rfl⟩ rfl (fun t30 h31 H => ?_)
      refine r_sI H rfl (fun H => ?_)
      refine r_inc (v := 1) (L' := [some (.ref a0), some (.int (s1 + (1 : Int32))), none, none]) rfl rfl ci_1 rfl ?_
      refine r_go rfl ?_
      exact K2 _ _ H
    · refine r_aln rfl rfl rfl ?_
      refine r_gR H rfl kd_0_6 (fun r32 H => ?_)
      refine r_iln rfl rfl rfl ?_
      refine r_aI' H rfl (fun t33 H => ?_)
      refine r_go rfl ?_
      refine r_sI H rfl (fun H => ?_)
      refine r_inc (v := 1) (L' := [some (.ref a0), some (.int (s1 + (1 : Int32))), none, none]) rfl rfl ci_1 rfl ?_
      refine r_go rfl ?_
      exact K2 _ _ H
def f_X0_passWeeks (a0 : Nat) (a1 : Int32) : M Unit := loopK NF (fun (s1 : Int32) k2 => if a1 ≤ s1 then rt () else bnd (cv 0 a0 (f_X0_passWeek a0)) fun t3 => k2 (s1 + (1 : Int32))) (0 : Int32)
set_option maxRecDepth 20000 in
theorem s_X0_passWeeks (a0 : Nat) (a1 : Int32) : Sm eX0_passWeeks [.ref a0, .int a1] eU (f_X0_passWeeks a0 a1) := by
  intro hp vr hr H
  unfold f_X0_passWeeks at H
  show Rn none 0 0 eX0_passWeeks 0 [some (.ref a0), some (.int a1), none] [] hp (eU vr, hr)
  refine r_ic (v := 0) rfl ci_0 ?_
  refine r_isn (L' := [some (.ref a0), some (.int a1), some (.int (0 : Int32))]) rfl rfl (Nat.le_of_ble_eq_true rfl) rfl ?_
  refine (r_loop (P := (fun (s1 : Int32) hq => Rn none 0 0 eX0_passWeeks 2 [some (.ref a0), some (.int a1), some (.int s1)] [] hq (eU vr, hr))) ?_ NF _ _ H)
  intro k2 K2 s1 hs1 H 
  refine r_iln rfl rfl rfl ?_
  refine r_iln rfl rfl rfl ?_
  refine r_cmp H rfl rfl (fun H => ?_) (fun H => ?_)
  · exact r_retv H rfl rfl ⟨Nat.zero_le _, Nat.zero_le _⟩
  · refine r_aln rfl rfl rfl ?_
    refine r_vtI (rest := []) H rfl rfl rfl (s_X0_passWeek a0) rfl rfl ⟨rfl, rfl⟩ rfl (fun t3 h4 H => ?_)
    refine r_popi rfl ?_
    refine r_inc (v := 1) (L' := [some (.ref a0), some (.int a1), some (.int (s1 + (1 : Int32)))]) rfl rfl ci_1 rfl ?_
    refine r_go rfl ?_
    exact K2 _ _ H
end
