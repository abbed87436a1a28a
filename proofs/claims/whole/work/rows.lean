section
-- ===== PART A: goes FIRST, ahead of the names: the tables' words, and 'selects' of the private methods out of them =====
/-- a private method of a class that the tables say can be made, by its rows of tables_1 -/
def lw_okq (q : MethodName × Nat) : Prop := (q.1.cls ≠ "java/lang/invoke/MethodHandle" ∧ q.1.cls ≠ "java/lang/invoke/VarHandle") ∧ Cond.instantiable q.1.cls q.2 ∈ tables_1 ∧ Cond.privateMethod q.1 ∈ tables_1 ∧ Cond.instanceMethod q.1 ∈ tables_1
theorem lw_p0 : lw_okq (⟨"MirrorsOnStrike", "refuse", "(I)I"⟩, 14) := ⟨⟨by decide +kernel, by decide +kernel⟩, List.mem_of_getElem? (i := 14) (by decide +kernel), List.mem_of_getElem? (i := 188) (by decide +kernel), List.mem_of_getElem? (i := 189) (by decide +kernel)⟩
theorem lw_p1 : lw_okq (⟨"MirrorsOnStrike$Letters", "faultOfForm", "()I"⟩, 2) := ⟨⟨by decide +kernel, by decide +kernel⟩, List.mem_of_getElem? (i := 124) (by decide +kernel), List.mem_of_getElem? (i := 220) (by decide +kernel), List.mem_of_getElem? (i := 221) (by decide +kernel)⟩
theorem lw_p2 : lw_okq (⟨"MirrorsOnStrike$Letters", "comesTrue", "(ILMirrorsOnStrike$Town;)Z"⟩, 2) := ⟨⟨by decide +kernel, by decide +kernel⟩, List.mem_of_getElem? (i := 124) (by decide +kernel), List.mem_of_getElem? (i := 227) (by decide +kernel), List.mem_of_getElem? (i := 228) (by decide +kernel)⟩
theorem lw_p3 : lw_okq (⟨"MirrorsOnStrike$Letters", "onePersonMore", "(ILMirrorsOnStrike$Folk;)Z"⟩, 2) := ⟨⟨by decide +kernel, by decide +kernel⟩, List.mem_of_getElem? (i := 124) (by decide +kernel), List.mem_of_getElem? (i := 231) (by decide +kernel), List.mem_of_getElem? (i := 232) (by decide +kernel)⟩
theorem lw_p4 : lw_okq (⟨"MirrorsOnStrike$Letters", "digit", "(I)I"⟩, 2) := ⟨⟨by decide +kernel, by decide +kernel⟩, List.mem_of_getElem? (i := 124) (by decide +kernel), List.mem_of_getElem? (i := 235) (by decide +kernel), List.mem_of_getElem? (i := 236) (by decide +kernel)⟩
theorem lw_p5 : lw_okq (⟨"MirrorsOnStrike$Letters", "twoDigits", "(I)I"⟩, 2) := ⟨⟨by decide +kernel, by decide +kernel⟩, List.mem_of_getElem? (i := 124) (by decide +kernel), List.mem_of_getElem? (i := 239) (by decide +kernel), List.mem_of_getElem? (i := 240) (by decide +kernel)⟩
theorem lw_p6 : lw_okq (⟨"MirrorsOnStrike", "noPerson", "(I)I"⟩, 14) := ⟨⟨by decide +kernel, by decide +kernel⟩, List.mem_of_getElem? (i := 14) (by decide +kernel), List.mem_of_getElem? (i := 298) (by decide +kernel), List.mem_of_getElem? (i := 299) (by decide +kernel)⟩
theorem lw_p7 : lw_okq (⟨"MirrorsOnStrike", "noTwo", "(II)I"⟩, 14) := ⟨⟨by decide +kernel, by decide +kernel⟩, List.mem_of_getElem? (i := 14) (by decide +kernel), List.mem_of_getElem? (i := 321) (by decide +kernel), List.mem_of_getElem? (i := 322) (by decide +kernel)⟩
theorem lw_p8 : lw_okq (⟨"MirrorsOnStrike$Past", "dropOldest", "()V"⟩, 2) := ⟨⟨by decide +kernel, by decide +kernel⟩, List.mem_of_getElem? (i := 107) (by decide +kernel), List.mem_of_getElem? (i := 329) (by decide +kernel), List.mem_of_getElem? (i := 330) (by decide +kernel)⟩
theorem lw_p9 : lw_okq (⟨"MirrorsOnStrike", "ahead", "(I)LMirrorsOnStrike$Folk;"⟩, 14) := ⟨⟨by decide +kernel, by decide +kernel⟩, List.mem_of_getElem? (i := 14) (by decide +kernel), List.mem_of_getElem? (i := 384) (by decide +kernel), List.mem_of_getElem? (i := 385) (by decide +kernel)⟩
theorem lw_p10 : lw_okq (⟨"MirrorsOnStrike", "errorBySet", "(II)I"⟩, 14) := ⟨⟨by decide +kernel, by decide +kernel⟩, List.mem_of_getElem? (i := 14) (by decide +kernel), List.mem_of_getElem? (i := 456) (by decide +kernel), List.mem_of_getElem? (i := 457) (by decide +kernel)⟩
theorem lw_p11 : lw_okq (⟨"MirrorsOnStrike", "errorsWithEar", "(III)I"⟩, 14) := ⟨⟨by decide +kernel, by decide +kernel⟩, List.mem_of_getElem? (i := 14) (by decide +kernel), List.mem_of_getElem? (i := 474) (by decide +kernel), List.mem_of_getElem? (i := 475) (by decide +kernel)⟩
theorem lw_p12 : lw_okq (⟨"MirrorsOnStrike", "asksNobody", "(I)I"⟩, 14) := ⟨⟨by decide +kernel, by decide +kernel⟩, List.mem_of_getElem? (i := 14) (by decide +kernel), List.mem_of_getElem? (i := 491) (by decide +kernel), List.mem_of_getElem? (i := 492) (by decide +kernel)⟩
theorem lw_p13 : lw_okq (⟨"MirrorsOnStrike", "rowTooLong", "()I"⟩, 14) := ⟨⟨by decide +kernel, by decide +kernel⟩, List.mem_of_getElem? (i := 14) (by decide +kernel), List.mem_of_getElem? (i := 499) (by decide +kernel), List.mem_of_getElem? (i := 500) (by decide +kernel)⟩
theorem lw_p14 : lw_okq (⟨"MirrorsOnStrike", "suspects", "()I"⟩, 14) := ⟨⟨by decide +kernel, by decide +kernel⟩, List.mem_of_getElem? (i := 14) (by decide +kernel), List.mem_of_getElem? (i := 503) (by decide +kernel), List.mem_of_getElem? (i := 504) (by decide +kernel)⟩
theorem lw_p15 : lw_okq (⟨"MirrorsOnStrike", "fitsRow", "(I)Z"⟩, 14) := ⟨⟨by decide +kernel, by decide +kernel⟩, List.mem_of_getElem? (i := 14) (by decide +kernel), List.mem_of_getElem? (i := 507) (by decide +kernel), List.mem_of_getElem? (i := 508) (by decide +kernel)⟩
def lw_privs_1 : List (MethodName × Nat) := [(⟨"MirrorsOnStrike", "refuse", "(I)I"⟩, 14), (⟨"MirrorsOnStrike$Letters", "faultOfForm", "()I"⟩, 2), (⟨"MirrorsOnStrike$Letters", "comesTrue", "(ILMirrorsOnStrike$Town;)Z"⟩, 2), (⟨"MirrorsOnStrike$Letters", "onePersonMore", "(ILMirrorsOnStrike$Folk;)Z"⟩, 2), (⟨"MirrorsOnStrike$Letters", "digit", "(I)I"⟩, 2), (⟨"MirrorsOnStrike$Letters", "twoDigits", "(I)I"⟩, 2), (⟨"MirrorsOnStrike", "noPerson", "(I)I"⟩, 14), (⟨"MirrorsOnStrike", "noTwo", "(II)I"⟩, 14), (⟨"MirrorsOnStrike$Past", "dropOldest", "()V"⟩, 2), (⟨"MirrorsOnStrike", "ahead", "(I)LMirrorsOnStrike$Folk;"⟩, 14), (⟨"MirrorsOnStrike", "errorBySet", "(II)I"⟩, 14), (⟨"MirrorsOnStrike", "errorsWithEar", "(III)I"⟩, 14), (⟨"MirrorsOnStrike", "asksNobody", "(I)I"⟩, 14), (⟨"MirrorsOnStrike", "rowTooLong", "()I"⟩, 14), (⟨"MirrorsOnStrike", "suspects", "()I"⟩, 14), (⟨"MirrorsOnStrike", "fitsRow", "(I)Z"⟩, 14)]
theorem lw_r1 : ∀ q ∈ lw_privs_1, lw_okq q := List.forall_mem_cons.mpr ⟨lw_p0, List.forall_mem_cons.mpr ⟨lw_p1, List.forall_mem_cons.mpr ⟨lw_p2, List.forall_mem_cons.mpr ⟨lw_p3, List.forall_mem_cons.mpr ⟨lw_p4, List.forall_mem_cons.mpr ⟨lw_p5, List.forall_mem_cons.mpr ⟨lw_p6, List.forall_mem_cons.mpr ⟨lw_p7, List.forall_mem_cons.mpr ⟨lw_p8, List.forall_mem_cons.mpr ⟨lw_p9, List.forall_mem_cons.mpr ⟨lw_p10, List.forall_mem_cons.mpr ⟨lw_p11, List.forall_mem_cons.mpr ⟨lw_p12, List.forall_mem_cons.mpr ⟨lw_p13, List.forall_mem_cons.mpr ⟨lw_p14, List.forall_mem_cons.mpr ⟨lw_p15, fun _ h => absurd h List.not_mem_nil⟩⟩⟩⟩⟩⟩⟩⟩⟩⟩⟩⟩⟩⟩⟩⟩
theorem lw_p16 : lw_okq (⟨"MirrorsOnStrike", "kindsOfWords", "(I)I"⟩, 14) := ⟨⟨by decide +kernel, by decide +kernel⟩, List.mem_of_getElem? (i := 14) (by decide +kernel), List.mem_of_getElem? (i := 515) (by decide +kernel), List.mem_of_getElem? (i := 516) (by decide +kernel)⟩
theorem lw_p17 : lw_okq (⟨"MirrorsOnStrike", "fillCosts", "()V"⟩, 14) := ⟨⟨by decide +kernel, by decide +kernel⟩, List.mem_of_getElem? (i := 14) (by decide +kernel), List.mem_of_getElem? (i := 526) (by decide +kernel), List.mem_of_getElem? (i := 527) (by decide +kernel)⟩
theorem lw_p18 : lw_okq (⟨"MirrorsOnStrike", "costWith", "(III)I"⟩, 14) := ⟨⟨by decide +kernel, by decide +kernel⟩, List.mem_of_getElem? (i := 14) (by decide +kernel), List.mem_of_getElem? (i := 531) (by decide +kernel), List.mem_of_getElem? (i := 532) (by decide +kernel)⟩
theorem lw_p19 : lw_okq (⟨"MirrorsOnStrike", "photoOf", "(I)I"⟩, 14) := ⟨⟨by decide +kernel, by decide +kernel⟩, List.mem_of_getElem? (i := 14) (by decide +kernel), List.mem_of_getElem? (i := 538) (by decide +kernel), List.mem_of_getElem? (i := 539) (by decide +kernel)⟩
theorem lw_p20 : lw_okq (⟨"MirrorsOnStrike", "firstPhoto", "(II)I"⟩, 14) := ⟨⟨by decide +kernel, by decide +kernel⟩, List.mem_of_getElem? (i := 14) (by decide +kernel), List.mem_of_getElem? (i := 542) (by decide +kernel), List.mem_of_getElem? (i := 543) (by decide +kernel)⟩
theorem lw_p21 : lw_okq (⟨"MirrorsOnStrike$Places", "glancesAt", "(I)I"⟩, 3) := ⟨⟨by decide +kernel, by decide +kernel⟩, List.mem_of_getElem? (i := 75) (by decide +kernel), List.mem_of_getElem? (i := 571) (by decide +kernel), List.mem_of_getElem? (i := 572) (by decide +kernel)⟩
theorem lw_p22 : lw_okq (⟨"MirrorsOnStrike$Places", "goOnFrom", "(I)V"⟩, 3) := ⟨⟨by decide +kernel, by decide +kernel⟩, List.mem_of_getElem? (i := 75) (by decide +kernel), List.mem_of_getElem? (i := 575) (by decide +kernel), List.mem_of_getElem? (i := 576) (by decide +kernel)⟩
theorem lw_p23 : lw_okq (⟨"MirrorsOnStrike", "aheadWithFigure", "(III)LMirrorsOnStrike$Folk;"⟩, 14) := ⟨⟨by decide +kernel, by decide +kernel⟩, List.mem_of_getElem? (i := 14) (by decide +kernel), List.mem_of_getElem? (i := 631) (by decide +kernel), List.mem_of_getElem? (i := 632) (by decide +kernel)⟩
theorem lw_p24 : lw_okq (⟨"MirrorsOnStrike", "hasSeen", "(I)Z"⟩, 14) := ⟨⟨by decide +kernel, by decide +kernel⟩, List.mem_of_getElem? (i := 14) (by decide +kernel), List.mem_of_getElem? (i := 692) (by decide +kernel), List.mem_of_getElem? (i := 693) (by decide +kernel)⟩
theorem lw_p25 : lw_okq (⟨"MirrorsOnStrike", "stepOn", "()V"⟩, 14) := ⟨⟨by decide +kernel, by decide +kernel⟩, List.mem_of_getElem? (i := 14) (by decide +kernel), List.mem_of_getElem? (i := 696) (by decide +kernel), List.mem_of_getElem? (i := 697) (by decide +kernel)⟩
theorem lw_p26 : lw_okq (⟨"MirrorsOnStrikeModel", "no", "(I)I"⟩, 30) := ⟨⟨by decide +kernel, by decide +kernel⟩, List.mem_of_getElem? (i := 762) (by decide +kernel), List.mem_of_getElem? (i := 866) (by decide +kernel), List.mem_of_getElem? (i := 867) (by decide +kernel)⟩
theorem lw_p27 : lw_okq (⟨"MirrorsOnStrikeModel", "statement", "()Z"⟩, 30) := ⟨⟨by decide +kernel, by decide +kernel⟩, List.mem_of_getElem? (i := 762) (by decide +kernel), List.mem_of_getElem? (i := 874) (by decide +kernel), List.mem_of_getElem? (i := 875) (by decide +kernel)⟩
theorem lw_p28 : lw_okq (⟨"MirrorsOnStrikeModel", "next", "()I"⟩, 30) := ⟨⟨by decide +kernel, by decide +kernel⟩, List.mem_of_getElem? (i := 762) (by decide +kernel), List.mem_of_getElem? (i := 878) (by decide +kernel), List.mem_of_getElem? (i := 879) (by decide +kernel)⟩
theorem lw_p29 : lw_okq (⟨"MirrorsOnStrikeModel", "readsAll", "(II)Z"⟩, 30) := ⟨⟨by decide +kernel, by decide +kernel⟩, List.mem_of_getElem? (i := 762) (by decide +kernel), List.mem_of_getElem? (i := 882) (by decide +kernel), List.mem_of_getElem? (i := 883) (by decide +kernel)⟩
theorem lw_p30 : lw_okq (⟨"MirrorsOnStrikeModel", "readsDigits", "(II)Z"⟩, 30) := ⟨⟨by decide +kernel, by decide +kernel⟩, List.mem_of_getElem? (i := 762) (by decide +kernel), List.mem_of_getElem? (i := 886) (by decide +kernel), List.mem_of_getElem? (i := 887) (by decide +kernel)⟩
theorem lw_p31 : lw_okq (⟨"MirrorsOnStrikeModel", "passesAll", "(IZ)V"⟩, 30) := ⟨⟨by decide +kernel, by decide +kernel⟩, List.mem_of_getElem? (i := 762) (by decide +kernel), List.mem_of_getElem? (i := 893) (by decide +kernel), List.mem_of_getElem? (i := 894) (by decide +kernel)⟩
def lw_privs_2 : List (MethodName × Nat) := [(⟨"MirrorsOnStrike", "kindsOfWords", "(I)I"⟩, 14), (⟨"MirrorsOnStrike", "fillCosts", "()V"⟩, 14), (⟨"MirrorsOnStrike", "costWith", "(III)I"⟩, 14), (⟨"MirrorsOnStrike", "photoOf", "(I)I"⟩, 14), (⟨"MirrorsOnStrike", "firstPhoto", "(II)I"⟩, 14), (⟨"MirrorsOnStrike$Places", "glancesAt", "(I)I"⟩, 3), (⟨"MirrorsOnStrike$Places", "goOnFrom", "(I)V"⟩, 3), (⟨"MirrorsOnStrike", "aheadWithFigure", "(III)LMirrorsOnStrike$Folk;"⟩, 14), (⟨"MirrorsOnStrike", "hasSeen", "(I)Z"⟩, 14), (⟨"MirrorsOnStrike", "stepOn", "()V"⟩, 14), (⟨"MirrorsOnStrikeModel", "no", "(I)I"⟩, 30), (⟨"MirrorsOnStrikeModel", "statement", "()Z"⟩, 30), (⟨"MirrorsOnStrikeModel", "next", "()I"⟩, 30), (⟨"MirrorsOnStrikeModel", "readsAll", "(II)Z"⟩, 30), (⟨"MirrorsOnStrikeModel", "readsDigits", "(II)Z"⟩, 30), (⟨"MirrorsOnStrikeModel", "passesAll", "(IZ)V"⟩, 30)]
theorem lw_r2 : ∀ q ∈ lw_privs_2, lw_okq q := List.forall_mem_cons.mpr ⟨lw_p16, List.forall_mem_cons.mpr ⟨lw_p17, List.forall_mem_cons.mpr ⟨lw_p18, List.forall_mem_cons.mpr ⟨lw_p19, List.forall_mem_cons.mpr ⟨lw_p20, List.forall_mem_cons.mpr ⟨lw_p21, List.forall_mem_cons.mpr ⟨lw_p22, List.forall_mem_cons.mpr ⟨lw_p23, List.forall_mem_cons.mpr ⟨lw_p24, List.forall_mem_cons.mpr ⟨lw_p25, List.forall_mem_cons.mpr ⟨lw_p26, List.forall_mem_cons.mpr ⟨lw_p27, List.forall_mem_cons.mpr ⟨lw_p28, List.forall_mem_cons.mpr ⟨lw_p29, List.forall_mem_cons.mpr ⟨lw_p30, List.forall_mem_cons.mpr ⟨lw_p31, fun _ h => absurd h List.not_mem_nil⟩⟩⟩⟩⟩⟩⟩⟩⟩⟩⟩⟩⟩⟩⟩⟩
theorem lw_p32 : lw_okq (⟨"MirrorsOnStrikeModel", "passes", "([I)V"⟩, 30) := ⟨⟨by decide +kernel, by decide +kernel⟩, List.mem_of_getElem? (i := 762) (by decide +kernel), List.mem_of_getElem? (i := 897) (by decide +kernel), List.mem_of_getElem? (i := 898) (by decide +kernel)⟩
theorem lw_p33 : lw_okq (⟨"MirrorsOnStrikeModel", "passOne", "(I)I"⟩, 30) := ⟨⟨by decide +kernel, by decide +kernel⟩, List.mem_of_getElem? (i := 762) (by decide +kernel), List.mem_of_getElem? (i := 901) (by decide +kernel), List.mem_of_getElem? (i := 902) (by decide +kernel)⟩
theorem lw_p34 : lw_okq (⟨"MirrorsOnStrikeModel", "comes", "(I)Z"⟩, 30) := ⟨⟨by decide +kernel, by decide +kernel⟩, List.mem_of_getElem? (i := 762) (by decide +kernel), List.mem_of_getElem? (i := 905) (by decide +kernel), List.mem_of_getElem? (i := 906) (by decide +kernel)⟩
theorem lw_p35 : lw_okq (⟨"MirrorsOnStrikeModel", "adds", "(III)V"⟩, 30) := ⟨⟨by decide +kernel, by decide +kernel⟩, List.mem_of_getElem? (i := 762) (by decide +kernel), List.mem_of_getElem? (i := 909) (by decide +kernel), List.mem_of_getElem? (i := 910) (by decide +kernel)⟩
theorem lw_p36 : lw_okq (⟨"MirrorsOnStrikeModel", "areTwo", "(II)Z"⟩, 30) := ⟨⟨by decide +kernel, by decide +kernel⟩, List.mem_of_getElem? (i := 762) (by decide +kernel), List.mem_of_getElem? (i := 913) (by decide +kernel), List.mem_of_getElem? (i := 914) (by decide +kernel)⟩
theorem lw_p37 : lw_okq (⟨"MirrorsOnStrikeModel", "isPerson", "(I)Z"⟩, 30) := ⟨⟨by decide +kernel, by decide +kernel⟩, List.mem_of_getElem? (i := 762) (by decide +kernel), List.mem_of_getElem? (i := 917) (by decide +kernel), List.mem_of_getElem? (i := 918) (by decide +kernel)⟩
theorem lw_p38 : lw_okq (⟨"MirrorsOnStrikeModel", "turnsWay", "(II)V"⟩, 30) := ⟨⟨by decide +kernel, by decide +kernel⟩, List.mem_of_getElem? (i := 762) (by decide +kernel), List.mem_of_getElem? (i := 924) (by decide +kernel), List.mem_of_getElem? (i := 925) (by decide +kernel)⟩
theorem lw_p39 : lw_okq (⟨"MirrorsOnStrikeModel", "goesWeek", "()I"⟩, 30) := ⟨⟨by decide +kernel, by decide +kernel⟩, List.mem_of_getElem? (i := 762) (by decide +kernel), List.mem_of_getElem? (i := 928) (by decide +kernel), List.mem_of_getElem? (i := 929) (by decide +kernel)⟩
theorem lw_p40 : lw_okq (⟨"MirrorsOnStrikeModel", "meanOf", "(II)I"⟩, 30) := ⟨⟨by decide +kernel, by decide +kernel⟩, List.mem_of_getElem? (i := 762) (by decide +kernel), List.mem_of_getElem? (i := 932) (by decide +kernel), List.mem_of_getElem? (i := 933) (by decide +kernel)⟩
theorem lw_p41 : lw_okq (⟨"MirrorsOnStrikeModel", "saidOf", "(II)I"⟩, 30) := ⟨⟨by decide +kernel, by decide +kernel⟩, List.mem_of_getElem? (i := 762) (by decide +kernel), List.mem_of_getElem? (i := 939) (by decide +kernel), List.mem_of_getElem? (i := 940) (by decide +kernel)⟩
theorem lw_p42 : lw_okq (⟨"MirrorsOnStrikeModel", "keepsBack", "()V"⟩, 30) := ⟨⟨by decide +kernel, by decide +kernel⟩, List.mem_of_getElem? (i := 762) (by decide +kernel), List.mem_of_getElem? (i := 973) (by decide +kernel), List.mem_of_getElem? (i := 974) (by decide +kernel)⟩
theorem lw_p43 : lw_okq (⟨"MirrorsOnStrikeModel", "findWeeks", "(I)V"⟩, 30) := ⟨⟨by decide +kernel, by decide +kernel⟩, List.mem_of_getElem? (i := 762) (by decide +kernel), List.mem_of_getElem? (i := 1012) (by decide +kernel), List.mem_of_getElem? (i := 1013) (by decide +kernel)⟩
theorem lw_p44 : lw_okq (⟨"MirrorsOnStrikeModel", "thinks", "()V"⟩, 30) := ⟨⟨by decide +kernel, by decide +kernel⟩, List.mem_of_getElem? (i := 762) (by decide +kernel), List.mem_of_getElem? (i := 1016) (by decide +kernel), List.mem_of_getElem? (i := 1017) (by decide +kernel)⟩
theorem lw_p45 : lw_okq (⟨"MirrorsOnStrikeModel", "forgets", "()V"⟩, 30) := ⟨⟨by decide +kernel, by decide +kernel⟩, List.mem_of_getElem? (i := 762) (by decide +kernel), List.mem_of_getElem? (i := 1020) (by decide +kernel), List.mem_of_getElem? (i := 1021) (by decide +kernel)⟩
theorem lw_p46 : lw_okq (⟨"MirrorsOnStrikeModel", "beliefAt", "(II)I"⟩, 30) := ⟨⟨by decide +kernel, by decide +kernel⟩, List.mem_of_getElem? (i := 762) (by decide +kernel), List.mem_of_getElem? (i := 1024) (by decide +kernel), List.mem_of_getElem? (i := 1025) (by decide +kernel)⟩
theorem lw_p47 : lw_okq (⟨"MirrorsOnStrikeModel", "fooledAt", "(II)I"⟩, 30) := ⟨⟨by decide +kernel, by decide +kernel⟩, List.mem_of_getElem? (i := 762) (by decide +kernel), List.mem_of_getElem? (i := 1032) (by decide +kernel), List.mem_of_getElem? (i := 1033) (by decide +kernel)⟩
def lw_privs_3 : List (MethodName × Nat) := [(⟨"MirrorsOnStrikeModel", "passes", "([I)V"⟩, 30), (⟨"MirrorsOnStrikeModel", "passOne", "(I)I"⟩, 30), (⟨"MirrorsOnStrikeModel", "comes", "(I)Z"⟩, 30), (⟨"MirrorsOnStrikeModel", "adds", "(III)V"⟩, 30), (⟨"MirrorsOnStrikeModel", "areTwo", "(II)Z"⟩, 30), (⟨"MirrorsOnStrikeModel", "isPerson", "(I)Z"⟩, 30), (⟨"MirrorsOnStrikeModel", "turnsWay", "(II)V"⟩, 30), (⟨"MirrorsOnStrikeModel", "goesWeek", "()I"⟩, 30), (⟨"MirrorsOnStrikeModel", "meanOf", "(II)I"⟩, 30), (⟨"MirrorsOnStrikeModel", "saidOf", "(II)I"⟩, 30), (⟨"MirrorsOnStrikeModel", "keepsBack", "()V"⟩, 30), (⟨"MirrorsOnStrikeModel", "findWeeks", "(I)V"⟩, 30), (⟨"MirrorsOnStrikeModel", "thinks", "()V"⟩, 30), (⟨"MirrorsOnStrikeModel", "forgets", "()V"⟩, 30), (⟨"MirrorsOnStrikeModel", "beliefAt", "(II)I"⟩, 30), (⟨"MirrorsOnStrikeModel", "fooledAt", "(II)I"⟩, 30)]
theorem lw_r3 : ∀ q ∈ lw_privs_3, lw_okq q := List.forall_mem_cons.mpr ⟨lw_p32, List.forall_mem_cons.mpr ⟨lw_p33, List.forall_mem_cons.mpr ⟨lw_p34, List.forall_mem_cons.mpr ⟨lw_p35, List.forall_mem_cons.mpr ⟨lw_p36, List.forall_mem_cons.mpr ⟨lw_p37, List.forall_mem_cons.mpr ⟨lw_p38, List.forall_mem_cons.mpr ⟨lw_p39, List.forall_mem_cons.mpr ⟨lw_p40, List.forall_mem_cons.mpr ⟨lw_p41, List.forall_mem_cons.mpr ⟨lw_p42, List.forall_mem_cons.mpr ⟨lw_p43, List.forall_mem_cons.mpr ⟨lw_p44, List.forall_mem_cons.mpr ⟨lw_p45, List.forall_mem_cons.mpr ⟨lw_p46, List.forall_mem_cons.mpr ⟨lw_p47, fun _ h => absurd h List.not_mem_nil⟩⟩⟩⟩⟩⟩⟩⟩⟩⟩⟩⟩⟩⟩⟩⟩
theorem lw_p48 : lw_okq (⟨"MirrorsOnStrikeModel", "errorBehind", "(I)I"⟩, 30) := ⟨⟨by decide +kernel, by decide +kernel⟩, List.mem_of_getElem? (i := 762) (by decide +kernel), List.mem_of_getElem? (i := 1043) (by decide +kernel), List.mem_of_getElem? (i := 1044) (by decide +kernel)⟩
theorem lw_p49 : lw_okq (⟨"MirrorsOnStrikeModel", "errorAt", "(I)I"⟩, 30) := ⟨⟨by decide +kernel, by decide +kernel⟩, List.mem_of_getElem? (i := 762) (by decide +kernel), List.mem_of_getElem? (i := 1047) (by decide +kernel), List.mem_of_getElem? (i := 1048) (by decide +kernel)⟩
theorem lw_p50 : lw_okq (⟨"MirrorsOnStrikeModel", "areAlike", "(II)Z"⟩, 30) := ⟨⟨by decide +kernel, by decide +kernel⟩, List.mem_of_getElem? (i := 762) (by decide +kernel), List.mem_of_getElem? (i := 1062) (by decide +kernel), List.mem_of_getElem? (i := 1063) (by decide +kernel)⟩
theorem lw_p51 : lw_okq (⟨"MirrorsOnStrikeModel", "all", "()I"⟩, 30) := ⟨⟨by decide +kernel, by decide +kernel⟩, List.mem_of_getElem? (i := 762) (by decide +kernel), List.mem_of_getElem? (i := 1074) (by decide +kernel), List.mem_of_getElem? (i := 1075) (by decide +kernel)⟩
theorem lw_p52 : lw_okq (⟨"MirrorsOnStrikeModel", "isOf", "(II)Z"⟩, 30) := ⟨⟨by decide +kernel, by decide +kernel⟩, List.mem_of_getElem? (i := 762) (by decide +kernel), List.mem_of_getElem? (i := 1078) (by decide +kernel), List.mem_of_getElem? (i := 1079) (by decide +kernel)⟩
theorem lw_p53 : lw_okq (⟨"MirrorsOnStrikeModel", "others", "(I)I"⟩, 30) := ⟨⟨by decide +kernel, by decide +kernel⟩, List.mem_of_getElem? (i := 762) (by decide +kernel), List.mem_of_getElem? (i := 1082) (by decide +kernel), List.mem_of_getElem? (i := 1083) (by decide +kernel)⟩
theorem lw_p54 : lw_okq (⟨"MirrorsOnStrikeModel", "errorOf", "(II)I"⟩, 30) := ⟨⟨by decide +kernel, by decide +kernel⟩, List.mem_of_getElem? (i := 762) (by decide +kernel), List.mem_of_getElem? (i := 1086) (by decide +kernel), List.mem_of_getElem? (i := 1087) (by decide +kernel)⟩
theorem lw_p55 : lw_okq (⟨"MirrorsOnStrikeModel", "lower", "(I)I"⟩, 30) := ⟨⟨by decide +kernel, by decide +kernel⟩, List.mem_of_getElem? (i := 762) (by decide +kernel), List.mem_of_getElem? (i := 1102) (by decide +kernel), List.mem_of_getElem? (i := 1103) (by decide +kernel)⟩
theorem lw_p56 : lw_okq (⟨"MirrorsOnStrikeModel", "believesWith", "(II)I"⟩, 30) := ⟨⟨by decide +kernel, by decide +kernel⟩, List.mem_of_getElem? (i := 762) (by decide +kernel), List.mem_of_getElem? (i := 1119) (by decide +kernel), List.mem_of_getElem? (i := 1120) (by decide +kernel)⟩
theorem lw_p57 : lw_okq (⟨"MirrorsOnStrikeModel", "fits", "(I)Z"⟩, 30) := ⟨⟨by decide +kernel, by decide +kernel⟩, List.mem_of_getElem? (i := 762) (by decide +kernel), List.mem_of_getElem? (i := 1131) (by decide +kernel), List.mem_of_getElem? (i := 1132) (by decide +kernel)⟩
theorem lw_p58 : lw_okq (⟨"MirrorsOnStrikeModel", "kindsBy", "(I)I"⟩, 30) := ⟨⟨by decide +kernel, by decide +kernel⟩, List.mem_of_getElem? (i := 762) (by decide +kernel), List.mem_of_getElem? (i := 1139) (by decide +kernel), List.mem_of_getElem? (i := 1140) (by decide +kernel)⟩
theorem lw_p59 : lw_okq (⟨"MirrorsOnStrikeModel", "findPhotos", "()V"⟩, 30) := ⟨⟨by decide +kernel, by decide +kernel⟩, List.mem_of_getElem? (i := 762) (by decide +kernel), List.mem_of_getElem? (i := 1147) (by decide +kernel), List.mem_of_getElem? (i := 1148) (by decide +kernel)⟩
theorem lw_p60 : lw_okq (⟨"MirrorsOnStrikeModel", "photoOf", "(II)I"⟩, 30) := ⟨⟨by decide +kernel, by decide +kernel⟩, List.mem_of_getElem? (i := 762) (by decide +kernel), List.mem_of_getElem? (i := 1151) (by decide +kernel), List.mem_of_getElem? (i := 1152) (by decide +kernel)⟩
theorem lw_p61 : lw_okq (⟨"MirrorsOnStrikeModel", "findWays", "(IZ)V"⟩, 30) := ⟨⟨by decide +kernel, by decide +kernel⟩, List.mem_of_getElem? (i := 762) (by decide +kernel), List.mem_of_getElem? (i := 1159) (by decide +kernel), List.mem_of_getElem? (i := 1160) (by decide +kernel)⟩
theorem lw_p62 : lw_okq (⟨"MirrorsOnStrikeModel", "heardBy", "(I)I"⟩, 30) := ⟨⟨by decide +kernel, by decide +kernel⟩, List.mem_of_getElem? (i := 762) (by decide +kernel), List.mem_of_getElem? (i := 1196) (by decide +kernel), List.mem_of_getElem? (i := 1197) (by decide +kernel)⟩
theorem lw_p63 : lw_okq (⟨"MirrorsOnStrikeModel", "isCalm", "(II)Z"⟩, 30) := ⟨⟨by decide +kernel, by decide +kernel⟩, List.mem_of_getElem? (i := 762) (by decide +kernel), List.mem_of_getElem? (i := 1224) (by decide +kernel), List.mem_of_getElem? (i := 1225) (by decide +kernel)⟩
def lw_privs_4 : List (MethodName × Nat) := [(⟨"MirrorsOnStrikeModel", "errorBehind", "(I)I"⟩, 30), (⟨"MirrorsOnStrikeModel", "errorAt", "(I)I"⟩, 30), (⟨"MirrorsOnStrikeModel", "areAlike", "(II)Z"⟩, 30), (⟨"MirrorsOnStrikeModel", "all", "()I"⟩, 30), (⟨"MirrorsOnStrikeModel", "isOf", "(II)Z"⟩, 30), (⟨"MirrorsOnStrikeModel", "others", "(I)I"⟩, 30), (⟨"MirrorsOnStrikeModel", "errorOf", "(II)I"⟩, 30), (⟨"MirrorsOnStrikeModel", "lower", "(I)I"⟩, 30), (⟨"MirrorsOnStrikeModel", "believesWith", "(II)I"⟩, 30), (⟨"MirrorsOnStrikeModel", "fits", "(I)Z"⟩, 30), (⟨"MirrorsOnStrikeModel", "kindsBy", "(I)I"⟩, 30), (⟨"MirrorsOnStrikeModel", "findPhotos", "()V"⟩, 30), (⟨"MirrorsOnStrikeModel", "photoOf", "(II)I"⟩, 30), (⟨"MirrorsOnStrikeModel", "findWays", "(IZ)V"⟩, 30), (⟨"MirrorsOnStrikeModel", "heardBy", "(I)I"⟩, 30), (⟨"MirrorsOnStrikeModel", "isCalm", "(II)Z"⟩, 30)]
theorem lw_r4 : ∀ q ∈ lw_privs_4, lw_okq q := List.forall_mem_cons.mpr ⟨lw_p48, List.forall_mem_cons.mpr ⟨lw_p49, List.forall_mem_cons.mpr ⟨lw_p50, List.forall_mem_cons.mpr ⟨lw_p51, List.forall_mem_cons.mpr ⟨lw_p52, List.forall_mem_cons.mpr ⟨lw_p53, List.forall_mem_cons.mpr ⟨lw_p54, List.forall_mem_cons.mpr ⟨lw_p55, List.forall_mem_cons.mpr ⟨lw_p56, List.forall_mem_cons.mpr ⟨lw_p57, List.forall_mem_cons.mpr ⟨lw_p58, List.forall_mem_cons.mpr ⟨lw_p59, List.forall_mem_cons.mpr ⟨lw_p60, List.forall_mem_cons.mpr ⟨lw_p61, List.forall_mem_cons.mpr ⟨lw_p62, List.forall_mem_cons.mpr ⟨lw_p63, fun _ h => absurd h List.not_mem_nil⟩⟩⟩⟩⟩⟩⟩⟩⟩⟩⟩⟩⟩⟩⟩⟩
theorem lw_p64 : lw_okq (⟨"MirrorsOnStrikeModel", "untrue", "(I)I"⟩, 30) := ⟨⟨by decide +kernel, by decide +kernel⟩, List.mem_of_getElem? (i := 762) (by decide +kernel), List.mem_of_getElem? (i := 1232) (by decide +kernel), List.mem_of_getElem? (i := 1233) (by decide +kernel)⟩
theorem lw_p65 : lw_okq (⟨"MirrorsOnStrikeModel", "chainOf", "(III)I"⟩, 30) := ⟨⟨by decide +kernel, by decide +kernel⟩, List.mem_of_getElem? (i := 762) (by decide +kernel), List.mem_of_getElem? (i := 1240) (by decide +kernel), List.mem_of_getElem? (i := 1241) (by decide +kernel)⟩
theorem lw_p66 : lw_okq (⟨"MirrorsOnStrikeModel", "isClique", "(I)Z"⟩, 30) := ⟨⟨by decide +kernel, by decide +kernel⟩, List.mem_of_getElem? (i := 762) (by decide +kernel), List.mem_of_getElem? (i := 1248) (by decide +kernel), List.mem_of_getElem? (i := 1249) (by decide +kernel)⟩
theorem lw_p67 : lw_okq (⟨"MirrorsOnStrikeModel", "stepsOn", "(II)Z"⟩, 30) := ⟨⟨by decide +kernel, by decide +kernel⟩, List.mem_of_getElem? (i := 762) (by decide +kernel), List.mem_of_getElem? (i := 1272) (by decide +kernel), List.mem_of_getElem? (i := 1273) (by decide +kernel)⟩
theorem lw_p68 : lw_okq (⟨"MirrorsOnStrikeModel", "isWayWithout", "(III)Z"⟩, 30) := ⟨⟨by decide +kernel, by decide +kernel⟩, List.mem_of_getElem? (i := 762) (by decide +kernel), List.mem_of_getElem? (i := 1280) (by decide +kernel), List.mem_of_getElem? (i := 1281) (by decide +kernel)⟩
theorem lw_p69 : lw_okq (⟨"MirrorsOnStrikeModel", "farthest", "(I)I"⟩, 30) := ⟨⟨by decide +kernel, by decide +kernel⟩, List.mem_of_getElem? (i := 762) (by decide +kernel), List.mem_of_getElem? (i := 1288) (by decide +kernel), List.mem_of_getElem? (i := 1289) (by decide +kernel)⟩
def lw_privs_5 : List (MethodName × Nat) := [(⟨"MirrorsOnStrikeModel", "untrue", "(I)I"⟩, 30), (⟨"MirrorsOnStrikeModel", "chainOf", "(III)I"⟩, 30), (⟨"MirrorsOnStrikeModel", "isClique", "(I)Z"⟩, 30), (⟨"MirrorsOnStrikeModel", "stepsOn", "(II)Z"⟩, 30), (⟨"MirrorsOnStrikeModel", "isWayWithout", "(III)Z"⟩, 30), (⟨"MirrorsOnStrikeModel", "farthest", "(I)I"⟩, 30)]
theorem lw_r5 : ∀ q ∈ lw_privs_5, lw_okq q := List.forall_mem_cons.mpr ⟨lw_p64, List.forall_mem_cons.mpr ⟨lw_p65, List.forall_mem_cons.mpr ⟨lw_p66, List.forall_mem_cons.mpr ⟨lw_p67, List.forall_mem_cons.mpr ⟨lw_p68, List.forall_mem_cons.mpr ⟨lw_p69, fun _ h => absurd h List.not_mem_nil⟩⟩⟩⟩⟩⟩
def lw_privs : List (MethodName × Nat) := lw_privs_1 ++ (lw_privs_2 ++ (lw_privs_3 ++ (lw_privs_4 ++ (lw_privs_5))))
def lw_tbl : List Cond := k2_sels lw_privs ++ tables_1
theorem lw_privs_ok : ∀ q ∈ lw_privs, lw_okq q := by
  show ∀ q ∈ lw_privs_1 ++ (lw_privs_2 ++ (lw_privs_3 ++ (lw_privs_4 ++ (lw_privs_5)))), lw_okq q
  exact List.forall_mem_append.mpr ⟨lw_r1, List.forall_mem_append.mpr ⟨lw_r2, List.forall_mem_append.mpr ⟨lw_r3, List.forall_mem_append.mpr ⟨lw_r4, lw_r5⟩⟩⟩⟩
-- ===== end of PART A; then your names; then what follows =====
end
section
def RX0 : String := "MirrorsOnStrike$Folk"
def TX0 : u_T := fun k => match k with
  | 0 => ("MirrorsOnStrike$Folk", "size", "I", false)
  | 1 => ("MirrorsOnStrike$Folk", "weeks", "I", false)
  | 2 => ("MirrorsOnStrike$Folk", "widestChange", "I", false)
  | 3 => ("MirrorsOnStrike$Folk", "kinds", "[I", true)
  | 4 => ("MirrorsOnStrike$Folk", "figures", "[I", true)
  | 5 => ("MirrorsOnStrike$Folk", "looks", "[I", true)
  | 6 => ("MirrorsOnStrike$Folk", "beliefs", "[I", true)
  | 7 => ("MirrorsOnStrike$Folk", "asked", "[I", true)
  | _ => ("MirrorsOnStrike$Folk", "next", "[I", true)
def tyX0 : Nat → FieldType := fun k => match k with
  | 0 => .int
  | 1 => .int
  | 2 => .int
  | 3 => .array .int
  | 4 => .array .int
  | 5 => .array .int
  | 6 => .array .int
  | 7 => .array .int
  | _ => .array .int
abbrev wsX00 : List Cond := u_ws RX0 TX0 9
theorem nmX0 : ∀ a, a < 9 → ∀ b, b < 9 → a ≠ b → (TX0 a).2.1 ≠ (TX0 b).2.1 := by decide +kernel
theorem tyX0_ok : ∀ k, k < 9 → parseFieldDescriptor (TX0 k).2.2.1 = some (tyX0 k) := by decide +kernel
abbrev cX0_init : ByteArray := prog_2_method_1_code
def yX0_init : MethodName := ⟨RX0, "<init>", "()V"⟩
abbrev cX0_copyFrom : ByteArray := prog_2_method_2_code
def yX0_copyFrom : MethodName := ⟨RX0, "copyFrom", "(LMirrorsOnStrike$Folk;)V"⟩
abbrev cX0_has : ByteArray := prog_2_method_3_code
def yX0_has : MethodName := ⟨RX0, "has", "(I)Z"⟩
abbrev cX0_everybody : ByteArray := prog_2_method_4_code
def yX0_everybody : MethodName := ⟨RX0, "everybody", "()I"⟩
abbrev cX0_others : ByteArray := prog_2_method_5_code
def yX0_others : MethodName := ⟨RX0, "others", "(I)I"⟩
abbrev cX0_add : ByteArray := prog_2_method_6_code
def yX0_add : MethodName := ⟨RX0, "add", "(III)I"⟩
abbrev cX0_word : ByteArray := prog_2_method_7_code
def yX0_word : MethodName := ⟨RX0, "word", "(II)I"⟩
abbrev cX0_mean : ByteArray := prog_2_method_8_code
def yX0_mean : MethodName := ⟨RX0, "mean", "(II)I"⟩
abbrev cX0_passWeek : ByteArray := prog_2_method_9_code
def yX0_passWeek : MethodName := ⟨RX0, "passWeek", "()I"⟩
abbrev cX0_passWeeks : ByteArray := prog_2_method_10_code
def yX0_passWeeks : MethodName := ⟨RX0, "passWeeks", "(I)V"⟩
abbrev cX0_unlike : ByteArray := prog_2_method_11_code
def yX0_unlike : MethodName := ⟨RX0, "unlike", "(LMirrorsOnStrike$Folk;)I"⟩
abbrev cX0_allErrors : ByteArray := prog_2_method_12_code
def yX0_allErrors : MethodName := ⟨RX0, "allErrors", "()I"⟩
abbrev cX0_fooledBy : ByteArray := prog_2_method_13_code
def yX0_fooledBy : MethodName := ⟨RX0, "fooledBy", "(I)I"⟩
abbrev cX0_apart : ByteArray := prog_2_method_14_code
def yX0_apart : MethodName := ⟨RX0, "apart", "(II)I"⟩
abbrev cX0_width : ByteArray := prog_2_method_15_code
def yX0_width : MethodName := ⟨RX0, "width", "()I"⟩
abbrev cX0_sources : ByteArray := prog_2_method_16_code
def yX0_sources : MethodName := ⟨RX0, "sources", "(I)I"⟩
abbrev cX0_allAskEachOther : ByteArray := prog_2_method_17_code
def yX0_allAskEachOther : MethodName := ⟨RX0, "allAskEachOther", "(I)Z"⟩
abbrev cX0_untruth : ByteArray := prog_2_method_18_code
def yX0_untruth : MethodName := ⟨RX0, "untruth", "(I)I"⟩
abbrev cX0_askByLot : ByteArray := prog_2_method_19_code
def yX0_askByLot : MethodName := ⟨RX0, "askByLot", "(I)I"⟩
abbrev cX0_sum : ByteArray := prog_2_method_20_code
def yX0_sum : MethodName := ⟨RX0, "sum", "([I)I"⟩
def RX1 : String := "MirrorsOnStrike$Letters"
def TX1 : u_T := fun k => match k with
  | 0 => ("MirrorsOnStrike$Letters", "size", "I", false)
  | _ => ("MirrorsOnStrike$Letters", "signs", "[I", true)
def tyX1 : Nat → FieldType := fun k => match k with
  | 0 => .int
  | _ => .array .int
abbrev wsX10 : List Cond := u_ws RX1 TX1 2
theorem nmX1 : ∀ a, a < 2 → ∀ b, b < 2 → a ≠ b → (TX1 a).2.1 ≠ (TX1 b).2.1 := by decide +kernel
theorem tyX1_ok : ∀ k, k < 2 → parseFieldDescriptor (TX1 k).2.2.1 = some (tyX1 k) := by decide +kernel
abbrev cX1_init : ByteArray := prog_3_method_1_code
def yX1_init : MethodName := ⟨RX1, "<init>", "()V"⟩
abbrev cX1_add : ByteArray := prog_3_method_2_code
def yX1_add : MethodName := ⟨RX1, "add", "(I)I"⟩
abbrev cX1_read : ByteArray := prog_3_method_3_code
def yX1_read : MethodName := ⟨RX1, "read", "(LMirrorsOnStrike$Town;)I"⟩
abbrev cX1_digitsBehind : ByteArray := prog_3_method_4_code
def yX1_digitsBehind : MethodName := ⟨RX1, "digitsBehind", "(I)I"⟩
abbrev cX1_faultOfForm : ByteArray := prog_3_method_5_code
def yX1_faultOfForm : MethodName := ⟨RX1, "faultOfForm", "()I"⟩
abbrev cX1_digit : ByteArray := prog_3_method_6_code
def yX1_digit : MethodName := ⟨RX1, "digit", "(I)I"⟩
abbrev cX1_twoDigits : ByteArray := prog_3_method_7_code
def yX1_twoDigits : MethodName := ⟨RX1, "twoDigits", "(I)I"⟩
abbrev cX1_comesTrue : ByteArray := prog_3_method_8_code
def yX1_comesTrue : MethodName := ⟨RX1, "comesTrue", "(ILMirrorsOnStrike$Town;)Z"⟩
abbrev cX1_onePersonMore : ByteArray := prog_3_method_9_code
def yX1_onePersonMore : MethodName := ⟨RX1, "onePersonMore", "(ILMirrorsOnStrike$Folk;)Z"⟩
abbrev cX1_oneAsks : ByteArray := prog_3_method_10_code
def yX1_oneAsks : MethodName := ⟨RX1, "oneAsks", "(LMirrorsOnStrike$Folk;II)Z"⟩
abbrev cX1_oneBelieves : ByteArray := prog_3_method_11_code
def yX1_oneBelieves : MethodName := ⟨RX1, "oneBelieves", "(LMirrorsOnStrike$Folk;II)Z"⟩
abbrev cX1_wayGoes : ByteArray := prog_3_method_12_code
def yX1_wayGoes : MethodName := ⟨RX1, "wayGoes", "(LMirrorsOnStrike$Places;II)Z"⟩
abbrev cX1_thingHangs : ByteArray := prog_3_method_13_code
def yX1_thingHangs : MethodName := ⟨RX1, "thingHangs", "(LMirrorsOnStrike$Places;II)Z"⟩
abbrev cX1_weeksPass : ByteArray := prog_3_method_14_code
def yX1_weeksPass : MethodName := ⟨RX1, "weeksPass", "(LMirrorsOnStrike$Folk;I)Z"⟩
def RX2 : String := "MirrorsOnStrike$Net"
def TX2 : u_T := fun k => match k with
  | _ => ("", "", "", false)
def tyX2 : Nat → FieldType := fun k => match k with
  | _ => .int
abbrev wsX20 : List Cond := u_ws RX2 TX2 0
theorem nmX2 : ∀ a, a < 0 → ∀ b, b < 0 → a ≠ b → (TX2 a).2.1 ≠ (TX2 b).2.1 := by decide +kernel
theorem tyX2_ok : ∀ k, k < 0 → parseFieldDescriptor (TX2 k).2.2.1 = some (tyX2 k) := by decide +kernel
abbrev cX2_next : ByteArray := prog_4_method_2_code
def yX2_next : MethodName := ⟨RX2, "next", "([II)I"⟩
abbrev cX2_reach : ByteArray := prog_4_method_3_code
def yX2_reach : MethodName := ⟨RX2, "reach", "([III)I"⟩
abbrev cX2_distance : ByteArray := prog_4_method_4_code
def yX2_distance : MethodName := ⟨RX2, "distance", "([III)I"⟩
abbrev cX2_farthest : ByteArray := prog_4_method_5_code
def yX2_farthest : MethodName := ⟨RX2, "farthest", "([II)I"⟩
def RX3 : String := "MirrorsOnStrike$Past"
def TX3 : u_T := fun k => match k with
  | 0 => ("MirrorsOnStrike$Past", "size", "I", false)
  | _ => ("MirrorsOnStrike$Past", "states", "[LMirrorsOnStrike$Folk;", true)
def tyX3 : Nat → FieldType := fun k => match k with
  | 0 => .int
  | _ => .array (.object "MirrorsOnStrike$Folk")
abbrev wsX30 : List Cond := u_ws RX3 TX3 2
theorem nmX3 : ∀ a, a < 2 → ∀ b, b < 2 → a ≠ b → (TX3 a).2.1 ≠ (TX3 b).2.1 := by decide +kernel
theorem tyX3_ok : ∀ k, k < 2 → parseFieldDescriptor (TX3 k).2.2.1 = some (tyX3 k) := by decide +kernel
abbrev cX3_init : ByteArray := prog_5_method_1_code
def yX3_init : MethodName := ⟨RX3, "<init>", "()V"⟩
abbrev cX3_keep : ByteArray := prog_5_method_2_code
def yX3_keep : MethodName := ⟨RX3, "keep", "(LMirrorsOnStrike$Folk;)V"⟩
abbrev cX3_dropOldest : ByteArray := prog_5_method_3_code
def yX3_dropOldest : MethodName := ⟨RX3, "dropOldest", "()V"⟩
abbrev cX3_takeBack : ByteArray := prog_5_method_4_code
def yX3_takeBack : MethodName := ⟨RX3, "takeBack", "(LMirrorsOnStrike$Folk;)I"⟩
def RX4 : String := "MirrorsOnStrike$Places"
def TX4 : u_T := fun k => match k with
  | 0 => ("MirrorsOnStrike$Places", "ways", "[I", true)
  | 1 => ("MirrorsOnStrike$Places", "things", "[I", true)
  | _ => ("MirrorsOnStrike$Places", "routes", "[I", true)
def tyX4 : Nat → FieldType := fun k => match k with
  | 0 => .array .int
  | 1 => .array .int
  | _ => .array .int
abbrev wsX40 : List Cond := u_ws RX4 TX4 3
theorem nmX4 : ∀ a, a < 3 → ∀ b, b < 3 → a ≠ b → (TX4 a).2.1 ≠ (TX4 b).2.1 := by decide +kernel
theorem tyX4_ok : ∀ k, k < 3 → parseFieldDescriptor (TX4 k).2.2.1 = some (tyX4 k) := by decide +kernel
abbrev cX4_init : ByteArray := prog_6_method_1_code
def yX4_init : MethodName := ⟨RX4, "<init>", "()V"⟩
abbrev cX4_copyFrom : ByteArray := prog_6_method_2_code
def yX4_copyFrom : MethodName := ⟨RX4, "copyFrom", "(LMirrorsOnStrike$Places;)V"⟩
abbrev cX4_join : ByteArray := prog_6_method_3_code
def yX4_join : MethodName := ⟨RX4, "join", "(II)I"⟩
abbrev cX4_countWays : ByteArray := prog_6_method_4_code
def yX4_countWays : MethodName := ⟨RX4, "countWays", "()I"⟩
abbrev cX4_glancesAt : ByteArray := prog_6_method_5_code
def yX4_glancesAt : MethodName := ⟨RX4, "glancesAt", "(I)I"⟩
abbrev cX4_bare : ByteArray := prog_6_method_6_code
def yX4_bare : MethodName := ⟨RX4, "bare", "()I"⟩
abbrev cX4_route : ByteArray := prog_6_method_7_code
def yX4_route : MethodName := ⟨RX4, "route", "(II)I"⟩
abbrev cX4_goOnFrom : ByteArray := prog_6_method_8_code
def yX4_goOnFrom : MethodName := ⟨RX4, "goOnFrom", "(I)V"⟩
abbrev cX4_routeCovered : ByteArray := prog_6_method_9_code
def yX4_routeCovered : MethodName := ⟨RX4, "routeCovered", "(III)I"⟩
def RX5 : String := "MirrorsOnStrike$Town"
def TX5 : u_T := fun k => match k with
  | 0 => ("MirrorsOnStrike$Town", "folk", "LMirrorsOnStrike$Folk;", true)
  | _ => ("MirrorsOnStrike$Town", "places", "LMirrorsOnStrike$Places;", true)
def tyX5 : Nat → FieldType := fun k => match k with
  | 0 => .object "MirrorsOnStrike$Folk"
  | _ => .object "MirrorsOnStrike$Places"
abbrev wsX50 : List Cond := u_ws RX5 TX5 2
theorem nmX5 : ∀ a, a < 2 → ∀ b, b < 2 → a ≠ b → (TX5 a).2.1 ≠ (TX5 b).2.1 := by decide +kernel
theorem tyX5_ok : ∀ k, k < 2 → parseFieldDescriptor (TX5 k).2.2.1 = some (tyX5 k) := by decide +kernel
abbrev cX5_init : ByteArray := prog_7_method_1_code
def yX5_init : MethodName := ⟨RX5, "<init>", "()V"⟩
abbrev cX5_copyFrom : ByteArray := prog_7_method_2_code
def yX5_copyFrom : MethodName := ⟨RX5, "copyFrom", "(LMirrorsOnStrike$Town;)V"⟩
def RX6 : String := "MirrorsOnStrike"
def TX6 : u_T := fun k => match k with
  | 0 => ("MirrorsOnStrike", "here", "LMirrorsOnStrike$Town;", true)
  | 1 => ("MirrorsOnStrike", "draft", "LMirrorsOnStrike$Town;", true)
  | 2 => ("MirrorsOnStrike", "picture", "LMirrorsOnStrike$Town;", true)
  | 3 => ("MirrorsOnStrike", "pictured", "Z", false)
  | 4 => ("MirrorsOnStrike", "mind", "LMirrorsOnStrike$Folk;", true)
  | 5 => ("MirrorsOnStrike", "past", "LMirrorsOnStrike$Past;", true)
  | 6 => ("MirrorsOnStrike", "letters", "LMirrorsOnStrike$Letters;", true)
  | 7 => ("MirrorsOnStrike", "numbers", "[I", true)
  | 8 => ("MirrorsOnStrike", "told", "I", false)
  | 9 => ("MirrorsOnStrike", "refusals", "[I", true)
  | 10 => ("MirrorsOnStrike", "marks", "[I", true)
  | 11 => ("MirrorsOnStrike", "costs", "[I", true)
  | 12 => ("MirrorsOnStrike", "standing", "[I", true)
  | _ => ("MirrorsOnStrike", "moved", "[I", true)
def tyX6 : Nat → FieldType := fun k => match k with
  | 0 => .object "MirrorsOnStrike$Town"
  | 1 => .object "MirrorsOnStrike$Town"
  | 2 => .object "MirrorsOnStrike$Town"
  | 3 => .boolean
  | 4 => .object "MirrorsOnStrike$Folk"
  | 5 => .object "MirrorsOnStrike$Past"
  | 6 => .object "MirrorsOnStrike$Letters"
  | 7 => .array .int
  | 8 => .int
  | 9 => .array .int
  | 10 => .array .int
  | 11 => .array .int
  | 12 => .array .int
  | _ => .array .int
abbrev wsX60 : List Cond := u_ws RX6 TX6 14
theorem nmX6 : ∀ a, a < 14 → ∀ b, b < 14 → a ≠ b → (TX6 a).2.1 ≠ (TX6 b).2.1 := by decide +kernel
theorem tyX6_ok : ∀ k, k < 14 → parseFieldDescriptor (TX6 k).2.2.1 = some (tyX6 k) := by decide +kernel
abbrev cX6_init : ByteArray := prog_1_method_1_code
def yX6_init : MethodName := ⟨RX6, "<init>", "()V"⟩
abbrev cX6_refuse : ByteArray := prog_1_method_2_code
def yX6_refuse : MethodName := ⟨RX6, "refuse", "(I)I"⟩
abbrev cX6_first : ByteArray := prog_1_method_3_code
def yX6_first : MethodName := ⟨RX6, "first", "(II)I"⟩
abbrev cX6_noPerson : ByteArray := prog_1_method_4_code
def yX6_noPerson : MethodName := ⟨RX6, "noPerson", "(I)I"⟩
abbrev cX6_noTwo : ByteArray := prog_1_method_5_code
def yX6_noTwo : MethodName := ⟨RX6, "noTwo", "(II)I"⟩
abbrev cX6_noPlace : ByteArray := prog_1_method_6_code
def yX6_noPlace : MethodName := ⟨RX6, "noPlace", "(I)I"⟩
abbrev cX6_noPlaces : ByteArray := prog_1_method_7_code
def yX6_noPlaces : MethodName := ⟨RX6, "noPlaces", "(II)I"⟩
abbrev cX6_noChoice : ByteArray := prog_1_method_8_code
def yX6_noChoice : MethodName := ⟨RX6, "noChoice", "(II)I"⟩
abbrev cX6_outside : ByteArray := prog_1_method_9_code
def yX6_outside : MethodName := ⟨RX6, "outside", "(III)I"⟩
abbrev cX6_outside_ : ByteArray := prog_1_method_10_code
def yX6_outside_ : MethodName := ⟨RX6, "outside", "(IIIII)I"⟩
abbrev cX6_asksNobody : ByteArray := prog_1_method_11_code
def yX6_asksNobody : MethodName := ⟨RX6, "asksNobody", "(I)I"⟩
abbrev cX6_rowTooLong : ByteArray := prog_1_method_12_code
def yX6_rowTooLong : MethodName := ⟨RX6, "rowTooLong", "()I"⟩
abbrev cX6_isPlace : ByteArray := prog_1_method_13_code
def yX6_isPlace : MethodName := ⟨RX6, "isPlace", "(I)Z"⟩
abbrev cX6_holds : ByteArray := prog_1_method_14_code
def yX6_holds : MethodName := ⟨RX6, "holds", "(II)Z"⟩
abbrev cX6_fewer : ByteArray := prog_1_method_15_code
def yX6_fewer : MethodName := ⟨RX6, "fewer", "(II)Z"⟩
abbrev cX6_leastOf : ByteArray := prog_1_method_16_code
def yX6_leastOf : MethodName := ⟨RX6, "leastOf", "(I)I"⟩
abbrev cX6_ahead : ByteArray := prog_1_method_17_code
def yX6_ahead : MethodName := ⟨RX6, "ahead", "(I)LMirrorsOnStrike$Folk;"⟩
abbrev cX6_feed : ByteArray := prog_1_method_18_code
def yX6_feed : MethodName := ⟨RX6, "feed", "(I)I"⟩
abbrev cX6_town : ByteArray := prog_1_method_19_code
def yX6_town : MethodName := ⟨RX6, "town", "()I"⟩
abbrev cX6_person : ByteArray := prog_1_method_20_code
def yX6_person : MethodName := ⟨RX6, "person", "(II)I"⟩
abbrev cX6_comes : ByteArray := prog_1_method_21_code
def yX6_comes : MethodName := ⟨RX6, "comes", "(III)I"⟩
abbrev cX6_asks : ByteArray := prog_1_method_22_code
def yX6_asks : MethodName := ⟨RX6, "asks", "(II)I"⟩
abbrev cX6_believes : ByteArray := prog_1_method_23_code
def yX6_believes : MethodName := ⟨RX6, "believes", "(II)I"⟩
abbrev cX6_kind : ByteArray := prog_1_method_24_code
def yX6_kind : MethodName := ⟨RX6, "kind", "(III)I"⟩
abbrev cX6_way : ByteArray := prog_1_method_25_code
def yX6_way : MethodName := ⟨RX6, "way", "(II)I"⟩
abbrev cX6_hangs : ByteArray := prog_1_method_26_code
def yX6_hangs : MethodName := ⟨RX6, "hangs", "(II)I"⟩
abbrev cX6_week : ByteArray := prog_1_method_27_code
def yX6_week : MethodName := ⟨RX6, "week", "()I"⟩
abbrev cX6_back : ByteArray := prog_1_method_28_code
def yX6_back : MethodName := ⟨RX6, "back", "()I"⟩
abbrev cX6_says : ByteArray := prog_1_method_29_code
def yX6_says : MethodName := ⟨RX6, "says", "(II)I"⟩
abbrev cX6_saysOf : ByteArray := prog_1_method_30_code
def yX6_saysOf : MethodName := ⟨RX6, "saysOf", "(II)I"⟩
abbrev cX6_belief : ByteArray := prog_1_method_31_code
def yX6_belief : MethodName := ⟨RX6, "belief", "(II)I"⟩
abbrev cX6_fooled : ByteArray := prog_1_method_32_code
def yX6_fooled : MethodName := ⟨RX6, "fooled", "(II)I"⟩
abbrev cX6_error : ByteArray := prog_1_method_33_code
def yX6_error : MethodName := ⟨RX6, "error", "(I)I"⟩
abbrev cX6_clash : ByteArray := prog_1_method_34_code
def yX6_clash : MethodName := ⟨RX6, "clash", "(II)I"⟩
abbrev cX6_settles : ByteArray := prog_1_method_35_code
def yX6_settles : MethodName := ⟨RX6, "settles", "()I"⟩
abbrev cX6_round : ByteArray := prog_1_method_36_code
def yX6_round : MethodName := ⟨RX6, "round", "()I"⟩
abbrev cX6_knows : ByteArray := prog_1_method_37_code
def yX6_knows : MethodName := ⟨RX6, "knows", "(I)I"⟩
abbrev cX6_nearest : ByteArray := prog_1_method_38_code
def yX6_nearest : MethodName := ⟨RX6, "nearest", "(II)I"⟩
abbrev cX6_errorBySet : ByteArray := prog_1_method_39_code
def yX6_errorBySet : MethodName := ⟨RX6, "errorBySet", "(II)I"⟩
abbrev cX6_fair : ByteArray := prog_1_method_40_code
def yX6_fair : MethodName := ⟨RX6, "fair", "(III)I"⟩
abbrev cX6_worth : ByteArray := prog_1_method_41_code
def yX6_worth : MethodName := ⟨RX6, "worth", "(II)I"⟩
abbrev cX6_newEar : ByteArray := prog_1_method_42_code
def yX6_newEar : MethodName := ⟨RX6, "newEar", "(I)I"⟩
abbrev cX6_errorsWithEar : ByteArray := prog_1_method_43_code
def yX6_errorsWithEar : MethodName := ⟨RX6, "errorsWithEar", "(III)I"⟩
abbrev cX6_sisters : ByteArray := prog_1_method_44_code
def yX6_sisters : MethodName := ⟨RX6, "sisters", "(IIII)I"⟩
abbrev cX6_cheat : ByteArray := prog_1_method_45_code
def yX6_cheat : MethodName := ⟨RX6, "cheat", "(III)I"⟩
abbrev cX6_fitsRow : ByteArray := prog_1_method_46_code
def yX6_fitsRow : MethodName := ⟨RX6, "fitsRow", "(I)Z"⟩
abbrev cX6_thief : ByteArray := prog_1_method_47_code
def yX6_thief : MethodName := ⟨RX6, "thief", "(I)I"⟩
abbrev cX6_suspects : ByteArray := prog_1_method_48_code
def yX6_suspects : MethodName := ⟨RX6, "suspects", "()I"⟩
abbrev cX6_tellsMost : ByteArray := prog_1_method_49_code
def yX6_tellsMost : MethodName := ⟨RX6, "tellsMost", "(I)I"⟩
abbrev cX6_kindsOfWords : ByteArray := prog_1_method_50_code
def yX6_kindsOfWords : MethodName := ⟨RX6, "kindsOfWords", "(I)I"⟩
abbrev cX6_photos : ByteArray := prog_1_method_51_code
def yX6_photos : MethodName := ⟨RX6, "photos", "(I)I"⟩
abbrev cX6_fillCosts : ByteArray := prog_1_method_52_code
def yX6_fillCosts : MethodName := ⟨RX6, "fillCosts", "()V"⟩
abbrev cX6_costWith : ByteArray := prog_1_method_53_code
def yX6_costWith : MethodName := ⟨RX6, "costWith", "(III)I"⟩
abbrev cX6_photoOf : ByteArray := prog_1_method_54_code
def yX6_photoOf : MethodName := ⟨RX6, "photoOf", "(I)I"⟩
abbrev cX6_firstPhoto : ByteArray := prog_1_method_55_code
def yX6_firstPhoto : MethodName := ⟨RX6, "firstPhoto", "(II)I"⟩
abbrev cX6_barber : ByteArray := prog_1_method_56_code
def yX6_barber : MethodName := ⟨RX6, "barber", "(II)I"⟩
abbrev cX6_steps : ByteArray := prog_1_method_57_code
def yX6_steps : MethodName := ⟨RX6, "steps", "(II)I"⟩
abbrev cX6_glances : ByteArray := prog_1_method_58_code
def yX6_glances : MethodName := ⟨RX6, "glances", "(III)I"⟩
abbrev cX6_unseen : ByteArray := prog_1_method_59_code
def yX6_unseen : MethodName := ⟨RX6, "unseen", "(I)I"⟩
abbrev cX6_cover : ByteArray := prog_1_method_60_code
def yX6_cover : MethodName := ⟨RX6, "cover", "(II)I"⟩
abbrev cX6_bargain : ByteArray := prog_1_method_61_code
def yX6_bargain : MethodName := ⟨RX6, "bargain", "(II)I"⟩
abbrev cX6_townShare : ByteArray := prog_1_method_62_code
def yX6_townShare : MethodName := ⟨RX6, "townShare", "(II)I"⟩
abbrev cX6_strike : ByteArray := prog_1_method_63_code
def yX6_strike : MethodName := ⟨RX6, "strike", "(I)I"⟩
abbrev cX6_echo : ByteArray := prog_1_method_64_code
def yX6_echo : MethodName := ⟨RX6, "echo", "(I)I"⟩
abbrev cX6_loops : ByteArray := prog_1_method_65_code
def yX6_loops : MethodName := ⟨RX6, "loops", "(I)I"⟩
abbrev cX6_humble : ByteArray := prog_1_method_66_code
def yX6_humble : MethodName := ⟨RX6, "humble", "(I)I"⟩
abbrev cX6_aheadWithFigure : ByteArray := prog_1_method_67_code
def yX6_aheadWithFigure : MethodName := ⟨RX6, "aheadWithFigure", "(III)LMirrorsOnStrike$Folk;"⟩
abbrev cX6_highest : ByteArray := prog_1_method_68_code
def yX6_highest : MethodName := ⟨RX6, "highest", "(II)I"⟩
abbrev cX6_spread : ByteArray := prog_1_method_69_code
def yX6_spread : MethodName := ⟨RX6, "spread", "(I)I"⟩
abbrev cX6_pairs : ByteArray := prog_1_method_70_code
def yX6_pairs : MethodName := ⟨RX6, "pairs", "()I"⟩
abbrev cX6_calm : ByteArray := prog_1_method_71_code
def yX6_calm : MethodName := ⟨RX6, "calm", "(I)I"⟩
abbrev cX6_honest : ByteArray := prog_1_method_72_code
def yX6_honest : MethodName := ⟨RX6, "honest", "(I)I"⟩
abbrev cX6_chain : ByteArray := prog_1_method_73_code
def yX6_chain : MethodName := ⟨RX6, "chain", "(II)I"⟩
abbrev cX6_clique : ByteArray := prog_1_method_74_code
def yX6_clique : MethodName := ⟨RX6, "clique", "()I"⟩
abbrev cX6_cut : ByteArray := prog_1_method_75_code
def yX6_cut : MethodName := ⟨RX6, "cut", "(II)I"⟩
abbrev cX6_wanted : ByteArray := prog_1_method_76_code
def yX6_wanted : MethodName := ⟨RX6, "wanted", "(II)I"⟩
abbrev cX6_panel : ByteArray := prog_1_method_77_code
def yX6_panel : MethodName := ⟨RX6, "panel", "(II)I"⟩
abbrev cX6_tour : ByteArray := prog_1_method_78_code
def yX6_tour : MethodName := ⟨RX6, "tour", "(II)I"⟩
abbrev cX6_hasSeen : ByteArray := prog_1_method_79_code
def yX6_hasSeen : MethodName := ⟨RX6, "hasSeen", "(I)Z"⟩
abbrev cX6_stepOn : ByteArray := prog_1_method_80_code
def yX6_stepOn : MethodName := ⟨RX6, "stepOn", "()V"⟩
abbrev cX6_narrows : ByteArray := prog_1_method_81_code
def yX6_narrows : MethodName := ⟨RX6, "narrows", "(II)I"⟩
abbrev cX6_middle : ByteArray := prog_1_method_82_code
def yX6_middle : MethodName := ⟨RX6, "middle", "(II)I"⟩
abbrev cX6_changed : ByteArray := prog_1_method_83_code
def yX6_changed : MethodName := ⟨RX6, "changed", "(III)I"⟩
abbrev cX6_row : ByteArray := prog_1_method_84_code
def yX6_row : MethodName := ⟨RX6, "row", "(I)I"⟩
abbrev cX6_judge : ByteArray := prog_1_method_85_code
def yX6_judge : MethodName := ⟨RX6, "judge", "()I"⟩
abbrev cX6_clear : ByteArray := prog_1_method_86_code
def yX6_clear : MethodName := ⟨RX6, "clear", "()I"⟩
abbrev cX6_lots : ByteArray := prog_1_method_87_code
def yX6_lots : MethodName := ⟨RX6, "lots", "(III)I"⟩
abbrev cX6_image : ByteArray := prog_1_method_88_code
def yX6_image : MethodName := ⟨RX6, "image", "()I"⟩
abbrev cX6_restore : ByteArray := prog_1_method_89_code
def yX6_restore : MethodName := ⟨RX6, "restore", "()I"⟩
abbrev cX6_count : ByteArray := prog_1_method_90_code
def yX6_count : MethodName := ⟨RX6, "count", "(I)I"⟩
def RX7 : String := "MirrorsOnStrikeModel"
def TX7 : u_T := fun k => match k with
  | 0 => ("MirrorsOnStrikeModel", "refused", "[I", true)
  | 1 => ("MirrorsOnStrikeModel", "kind", "[I", true)
  | 2 => ("MirrorsOnStrikeModel", "figure", "[I", true)
  | 3 => ("MirrorsOnStrikeModel", "look", "[I", true)
  | 4 => ("MirrorsOnStrikeModel", "believed", "[I", true)
  | 5 => ("MirrorsOnStrikeModel", "ears", "[I", true)
  | 6 => ("MirrorsOnStrikeModel", "ways", "[I", true)
  | 7 => ("MirrorsOnStrikeModel", "hung", "[I", true)
  | 8 => ("MirrorsOnStrikeModel", "people", "I", false)
  | 9 => ("MirrorsOnStrikeModel", "weeks", "I", false)
  | 10 => ("MirrorsOnStrikeModel", "tape", "[I", true)
  | 11 => ("MirrorsOnStrikeModel", "letter", "[I", true)
  | 12 => ("MirrorsOnStrikeModel", "letterAt", "[I", true)
  | 13 => ("MirrorsOnStrikeModel", "told", "[I", true)
  | 14 => ("MirrorsOnStrikeModel", "taped", "I", false)
  | 15 => ("MirrorsOnStrikeModel", "at", "I", false)
  | 16 => ("MirrorsOnStrikeModel", "statements", "I", false)
  | 17 => ("MirrorsOnStrikeModel", "kept", "[I", true)
  | 18 => ("MirrorsOnStrikeModel", "hasImage", "Z", false)
  | 19 => ("MirrorsOnStrikeModel", "isKeeping", "Z", false)
  | 20 => ("MirrorsOnStrikeModel", "cursor", "I", false)
  | 21 => ("MirrorsOnStrikeModel", "backs", "I", false)
  | 22 => ("MirrorsOnStrikeModel", "then", "[I", true)
  | 23 => ("MirrorsOnStrikeModel", "trail", "[I", true)
  | 24 => ("MirrorsOnStrikeModel", "row", "[I", true)
  | 25 => ("MirrorsOnStrikeModel", "rowMany", "I", false)
  | 26 => ("MirrorsOnStrikeModel", "seen", "[I", true)
  | 27 => ("MirrorsOnStrikeModel", "photo", "[I", true)
  | 28 => ("MirrorsOnStrikeModel", "dear", "[I", true)
  | _ => ("MirrorsOnStrikeModel", "toured", "[I", true)
def tyX7 : Nat → FieldType := fun k => match k with
  | 0 => .array .int
  | 1 => .array .int
  | 2 => .array .int
  | 3 => .array .int
  | 4 => .array .int
  | 5 => .array .int
  | 6 => .array .int
  | 7 => .array .int
  | 8 => .int
  | 9 => .int
  | 10 => .array .int
  | 11 => .array .int
  | 12 => .array .int
  | 13 => .array .int
  | 14 => .int
  | 15 => .int
  | 16 => .int
  | 17 => .array .int
  | 18 => .boolean
  | 19 => .boolean
  | 20 => .int
  | 21 => .int
  | 22 => .array .int
  | 23 => .array .int
  | 24 => .array .int
  | 25 => .int
  | 26 => .array .int
  | 27 => .array .int
  | 28 => .array .int
  | _ => .array .int
abbrev wsX70 : List Cond := u_ws RX7 TX7 30
theorem nmX7 : ∀ a, a < 30 → ∀ b, b < 30 → a ≠ b → (TX7 a).2.1 ≠ (TX7 b).2.1 := by decide +kernel
theorem tyX7_ok : ∀ k, k < 30 → parseFieldDescriptor (TX7 k).2.2.1 = some (tyX7 k) := by decide +kernel
abbrev cX7_init : ByteArray := prog_9_method_1_code
def yX7_init : MethodName := ⟨RX7, "<init>", "()V"⟩
abbrev cX7_no : ByteArray := prog_9_method_2_code
def yX7_no : MethodName := ⟨RX7, "no", "(I)I"⟩
abbrev cX7_lower : ByteArray := prog_9_method_3_code
def yX7_lower : MethodName := ⟨RX7, "lower", "(I)I"⟩
abbrev cX7_isIn : ByteArray := prog_9_method_4_code
def yX7_isIn : MethodName := ⟨RX7, "isIn", "(III)Z"⟩
abbrev cX7_bound : ByteArray := prog_9_method_5_code
def yX7_bound : MethodName := ⟨RX7, "bound", "(III)I"⟩
abbrev cX7_has : ByteArray := prog_9_method_6_code
def yX7_has : MethodName := ⟨RX7, "has", "(II)Z"⟩
abbrev cX7_bits : ByteArray := prog_9_method_7_code
def yX7_bits : MethodName := ⟨RX7, "bits", "(I)I"⟩
abbrev cX7_far : ByteArray := prog_9_method_8_code
def yX7_far : MethodName := ⟨RX7, "far", "(II)I"⟩
abbrev cX7_isPerson : ByteArray := prog_9_method_9_code
def yX7_isPerson : MethodName := ⟨RX7, "isPerson", "(I)Z"⟩
abbrev cX7_areTwo : ByteArray := prog_9_method_10_code
def yX7_areTwo : MethodName := ⟨RX7, "areTwo", "(II)Z"⟩
abbrev cX7_isPlace : ByteArray := prog_9_method_11_code
def yX7_isPlace : MethodName := ⟨RX7, "isPlace", "(I)Z"⟩
abbrev cX7_all : ByteArray := prog_9_method_12_code
def yX7_all : MethodName := ⟨RX7, "all", "()I"⟩
abbrev cX7_feed : ByteArray := prog_9_method_13_code
def yX7_feed : MethodName := ⟨RX7, "feed", "(I)I"⟩
abbrev cX7_next : ByteArray := prog_9_method_14_code
def yX7_next : MethodName := ⟨RX7, "next", "()I"⟩
abbrev cX7_readsDigits : ByteArray := prog_9_method_15_code
def yX7_readsDigits : MethodName := ⟨RX7, "readsDigits", "(II)Z"⟩
abbrev cX7_readsAll : ByteArray := prog_9_method_16_code
def yX7_readsAll : MethodName := ⟨RX7, "readsAll", "(II)Z"⟩
abbrev cX7_statement : ByteArray := prog_9_method_17_code
def yX7_statement : MethodName := ⟨RX7, "statement", "()Z"⟩
abbrev cX7_comes : ByteArray := prog_9_method_18_code
def yX7_comes : MethodName := ⟨RX7, "comes", "(I)Z"⟩
abbrev cX7_town : ByteArray := prog_9_method_19_code
def yX7_town : MethodName := ⟨RX7, "town", "()I"⟩
abbrev cX7_passes : ByteArray := prog_9_method_20_code
def yX7_passes : MethodName := ⟨RX7, "passes", "([I)V"⟩
abbrev cX7_passOne : ByteArray := prog_9_method_21_code
def yX7_passOne : MethodName := ⟨RX7, "passOne", "(I)I"⟩
abbrev cX7_passesAll : ByteArray := prog_9_method_22_code
def yX7_passesAll : MethodName := ⟨RX7, "passesAll", "(IZ)V"⟩
abbrev cX7_thinks : ByteArray := prog_9_method_23_code
def yX7_thinks : MethodName := ⟨RX7, "thinks", "()V"⟩
abbrev cX7_forgets : ByteArray := prog_9_method_24_code
def yX7_forgets : MethodName := ⟨RX7, "forgets", "()V"⟩
abbrev cX7_keepsBack : ByteArray := prog_9_method_25_code
def yX7_keepsBack : MethodName := ⟨RX7, "keepsBack", "()V"⟩
abbrev cX7_back : ByteArray := prog_9_method_26_code
def yX7_back : MethodName := ⟨RX7, "back", "()I"⟩
abbrev cX7_image : ByteArray := prog_9_method_27_code
def yX7_image : MethodName := ⟨RX7, "image", "()I"⟩
abbrev cX7_restore : ByteArray := prog_9_method_28_code
def yX7_restore : MethodName := ⟨RX7, "restore", "()I"⟩
abbrev cX7_adds : ByteArray := prog_9_method_29_code
def yX7_adds : MethodName := ⟨RX7, "adds", "(III)V"⟩
abbrev cX7_held : ByteArray := prog_9_method_30_code
def yX7_held : MethodName := ⟨RX7, "held", "(I)I"⟩
abbrev cX7_saidOf : ByteArray := prog_9_method_31_code
def yX7_saidOf : MethodName := ⟨RX7, "saidOf", "(II)I"⟩
abbrev cX7_meanOf : ByteArray := prog_9_method_32_code
def yX7_meanOf : MethodName := ⟨RX7, "meanOf", "(II)I"⟩
abbrev cX7_goesWeek : ByteArray := prog_9_method_33_code
def yX7_goesWeek : MethodName := ⟨RX7, "goesWeek", "()I"⟩
abbrev cX7_turnsWay : ByteArray := prog_9_method_34_code
def yX7_turnsWay : MethodName := ⟨RX7, "turnsWay", "(II)V"⟩
abbrev cX7_person : ByteArray := prog_9_method_35_code
def yX7_person : MethodName := ⟨RX7, "person", "(II)I"⟩
abbrev cX7_comes_ : ByteArray := prog_9_method_36_code
def yX7_comes_ : MethodName := ⟨RX7, "comes", "(III)I"⟩
abbrev cX7_asks : ByteArray := prog_9_method_37_code
def yX7_asks : MethodName := ⟨RX7, "asks", "(II)I"⟩
abbrev cX7_believes : ByteArray := prog_9_method_38_code
def yX7_believes : MethodName := ⟨RX7, "believes", "(II)I"⟩
abbrev cX7_kind : ByteArray := prog_9_method_39_code
def yX7_kind : MethodName := ⟨RX7, "kind", "(III)I"⟩
abbrev cX7_way : ByteArray := prog_9_method_40_code
def yX7_way : MethodName := ⟨RX7, "way", "(II)I"⟩
abbrev cX7_hangs : ByteArray := prog_9_method_41_code
def yX7_hangs : MethodName := ⟨RX7, "hangs", "(II)I"⟩
abbrev cX7_week : ByteArray := prog_9_method_42_code
def yX7_week : MethodName := ⟨RX7, "week", "()I"⟩
abbrev cX7_says : ByteArray := prog_9_method_43_code
def yX7_says : MethodName := ⟨RX7, "says", "(II)I"⟩
abbrev cX7_saysOf : ByteArray := prog_9_method_44_code
def yX7_saysOf : MethodName := ⟨RX7, "saysOf", "(II)I"⟩
abbrev cX7_findWeeks : ByteArray := prog_9_method_45_code
def yX7_findWeeks : MethodName := ⟨RX7, "findWeeks", "(I)V"⟩
abbrev cX7_notWeeks : ByteArray := prog_9_method_46_code
def yX7_notWeeks : MethodName := ⟨RX7, "notWeeks", "(I)I"⟩
abbrev cX7_beliefAt : ByteArray := prog_9_method_47_code
def yX7_beliefAt : MethodName := ⟨RX7, "beliefAt", "(II)I"⟩
abbrev cX7_belief : ByteArray := prog_9_method_48_code
def yX7_belief : MethodName := ⟨RX7, "belief", "(II)I"⟩
abbrev cX7_fooledAt : ByteArray := prog_9_method_49_code
def yX7_fooledAt : MethodName := ⟨RX7, "fooledAt", "(II)I"⟩
abbrev cX7_errorAt : ByteArray := prog_9_method_50_code
def yX7_errorAt : MethodName := ⟨RX7, "errorAt", "(I)I"⟩
abbrev cX7_errorBehind : ByteArray := prog_9_method_51_code
def yX7_errorBehind : MethodName := ⟨RX7, "errorBehind", "(I)I"⟩
abbrev cX7_fooled : ByteArray := prog_9_method_52_code
def yX7_fooled : MethodName := ⟨RX7, "fooled", "(II)I"⟩
abbrev cX7_error : ByteArray := prog_9_method_53_code
def yX7_error : MethodName := ⟨RX7, "error", "(I)I"⟩
abbrev cX7_first : ByteArray := prog_9_method_54_code
def yX7_first : MethodName := ⟨RX7, "first", "(I)I"⟩
abbrev cX7_clash : ByteArray := prog_9_method_55_code
def yX7_clash : MethodName := ⟨RX7, "clash", "(II)I"⟩
abbrev cX7_areAlike : ByteArray := prog_9_method_56_code
def yX7_areAlike : MethodName := ⟨RX7, "areAlike", "(II)Z"⟩
abbrev cX7_settles : ByteArray := prog_9_method_57_code
def yX7_settles : MethodName := ⟨RX7, "settles", "()I"⟩
abbrev cX7_round : ByteArray := prog_9_method_58_code
def yX7_round : MethodName := ⟨RX7, "round", "()I"⟩
abbrev cX7_others : ByteArray := prog_9_method_59_code
def yX7_others : MethodName := ⟨RX7, "others", "(I)I"⟩
abbrev cX7_isOf : ByteArray := prog_9_method_60_code
def yX7_isOf : MethodName := ⟨RX7, "isOf", "(II)Z"⟩
abbrev cX7_errorOf : ByteArray := prog_9_method_61_code
def yX7_errorOf : MethodName := ⟨RX7, "errorOf", "(II)I"⟩
abbrev cX7_knows : ByteArray := prog_9_method_62_code
def yX7_knows : MethodName := ⟨RX7, "knows", "(I)I"⟩
abbrev cX7_nearest : ByteArray := prog_9_method_63_code
def yX7_nearest : MethodName := ⟨RX7, "nearest", "(II)I"⟩
abbrev cX7_fair : ByteArray := prog_9_method_64_code
def yX7_fair : MethodName := ⟨RX7, "fair", "(III)I"⟩
abbrev cX7_worth : ByteArray := prog_9_method_65_code
def yX7_worth : MethodName := ⟨RX7, "worth", "(II)I"⟩
abbrev cX7_newEar : ByteArray := prog_9_method_66_code
def yX7_newEar : MethodName := ⟨RX7, "newEar", "(I)I"⟩
abbrev cX7_sisters : ByteArray := prog_9_method_67_code
def yX7_sisters : MethodName := ⟨RX7, "sisters", "(IIII)I"⟩
abbrev cX7_believesWith : ByteArray := prog_9_method_68_code
def yX7_believesWith : MethodName := ⟨RX7, "believesWith", "(II)I"⟩
abbrev cX7_cheat : ByteArray := prog_9_method_69_code
def yX7_cheat : MethodName := ⟨RX7, "cheat", "(III)I"⟩
abbrev cX7_barber : ByteArray := prog_9_method_70_code
def yX7_barber : MethodName := ⟨RX7, "barber", "(II)I"⟩
abbrev cX7_fits : ByteArray := prog_9_method_71_code
def yX7_fits : MethodName := ⟨RX7, "fits", "(I)Z"⟩
abbrev cX7_thief : ByteArray := prog_9_method_72_code
def yX7_thief : MethodName := ⟨RX7, "thief", "(I)I"⟩
abbrev cX7_kindsBy : ByteArray := prog_9_method_73_code
def yX7_kindsBy : MethodName := ⟨RX7, "kindsBy", "(I)I"⟩
abbrev cX7_tellsMost : ByteArray := prog_9_method_74_code
def yX7_tellsMost : MethodName := ⟨RX7, "tellsMost", "(I)I"⟩
abbrev cX7_findPhotos : ByteArray := prog_9_method_75_code
def yX7_findPhotos : MethodName := ⟨RX7, "findPhotos", "()V"⟩
abbrev cX7_photoOf : ByteArray := prog_9_method_76_code
def yX7_photoOf : MethodName := ⟨RX7, "photoOf", "(II)I"⟩
abbrev cX7_photos : ByteArray := prog_9_method_77_code
def yX7_photos : MethodName := ⟨RX7, "photos", "(I)I"⟩
abbrev cX7_glanceOf : ByteArray := prog_9_method_78_code
def yX7_glanceOf : MethodName := ⟨RX7, "glanceOf", "(I)I"⟩
abbrev cX7_findWays : ByteArray := prog_9_method_79_code
def yX7_findWays : MethodName := ⟨RX7, "findWays", "(IZ)V"⟩
abbrev cX7_steps : ByteArray := prog_9_method_80_code
def yX7_steps : MethodName := ⟨RX7, "steps", "(II)I"⟩
abbrev cX7_glances : ByteArray := prog_9_method_81_code
def yX7_glances : MethodName := ⟨RX7, "glances", "(III)I"⟩
abbrev cX7_unseen : ByteArray := prog_9_method_82_code
def yX7_unseen : MethodName := ⟨RX7, "unseen", "(I)I"⟩
abbrev cX7_cover : ByteArray := prog_9_method_83_code
def yX7_cover : MethodName := ⟨RX7, "cover", "(II)I"⟩
abbrev cX7_hoursIn : ByteArray := prog_9_method_84_code
def yX7_hoursIn : MethodName := ⟨RX7, "hoursIn", "(II)I"⟩
abbrev cX7_townHas : ByteArray := prog_9_method_85_code
def yX7_townHas : MethodName := ⟨RX7, "townHas", "(II)I"⟩
abbrev cX7_bargain : ByteArray := prog_9_method_86_code
def yX7_bargain : MethodName := ⟨RX7, "bargain", "(II)I"⟩
abbrev cX7_strike : ByteArray := prog_9_method_87_code
def yX7_strike : MethodName := ⟨RX7, "strike", "(I)I"⟩
abbrev cX7_heardBy : ByteArray := prog_9_method_88_code
def yX7_heardBy : MethodName := ⟨RX7, "heardBy", "(I)I"⟩
abbrev cX7_echo : ByteArray := prog_9_method_89_code
def yX7_echo : MethodName := ⟨RX7, "echo", "(I)I"⟩
abbrev cX7_loops : ByteArray := prog_9_method_90_code
def yX7_loops : MethodName := ⟨RX7, "loops", "(I)I"⟩
abbrev cX7_humble : ByteArray := prog_9_method_91_code
def yX7_humble : MethodName := ⟨RX7, "humble", "(I)I"⟩
abbrev cX7_highest : ByteArray := prog_9_method_92_code
def yX7_highest : MethodName := ⟨RX7, "highest", "(II)I"⟩
abbrev cX7_spread : ByteArray := prog_9_method_93_code
def yX7_spread : MethodName := ⟨RX7, "spread", "(I)I"⟩
abbrev cX7_pairs : ByteArray := prog_9_method_94_code
def yX7_pairs : MethodName := ⟨RX7, "pairs", "()I"⟩
abbrev cX7_isCalm : ByteArray := prog_9_method_95_code
def yX7_isCalm : MethodName := ⟨RX7, "isCalm", "(II)Z"⟩
abbrev cX7_calm : ByteArray := prog_9_method_96_code
def yX7_calm : MethodName := ⟨RX7, "calm", "(I)I"⟩
abbrev cX7_untrue : ByteArray := prog_9_method_97_code
def yX7_untrue : MethodName := ⟨RX7, "untrue", "(I)I"⟩
abbrev cX7_honest : ByteArray := prog_9_method_98_code
def yX7_honest : MethodName := ⟨RX7, "honest", "(I)I"⟩
abbrev cX7_chainOf : ByteArray := prog_9_method_99_code
def yX7_chainOf : MethodName := ⟨RX7, "chainOf", "(III)I"⟩
abbrev cX7_chain : ByteArray := prog_9_method_100_code
def yX7_chain : MethodName := ⟨RX7, "chain", "(II)I"⟩
abbrev cX7_isClique : ByteArray := prog_9_method_101_code
def yX7_isClique : MethodName := ⟨RX7, "isClique", "(I)Z"⟩
abbrev cX7_clique : ByteArray := prog_9_method_102_code
def yX7_clique : MethodName := ⟨RX7, "clique", "()I"⟩
abbrev cX7_cut : ByteArray := prog_9_method_103_code
def yX7_cut : MethodName := ⟨RX7, "cut", "(II)I"⟩
abbrev cX7_wanted : ByteArray := prog_9_method_104_code
def yX7_wanted : MethodName := ⟨RX7, "wanted", "(II)I"⟩
abbrev cX7_panel : ByteArray := prog_9_method_105_code
def yX7_panel : MethodName := ⟨RX7, "panel", "(II)I"⟩
abbrev cX7_changed : ByteArray := prog_9_method_106_code
def yX7_changed : MethodName := ⟨RX7, "changed", "(III)I"⟩
abbrev cX7_tour : ByteArray := prog_9_method_107_code
def yX7_tour : MethodName := ⟨RX7, "tour", "(II)I"⟩
abbrev cX7_stepsOn : ByteArray := prog_9_method_108_code
def yX7_stepsOn : MethodName := ⟨RX7, "stepsOn", "(II)Z"⟩
abbrev cX7_isWayWithout : ByteArray := prog_9_method_109_code
def yX7_isWayWithout : MethodName := ⟨RX7, "isWayWithout", "(III)Z"⟩
abbrev cX7_narrows : ByteArray := prog_9_method_110_code
def yX7_narrows : MethodName := ⟨RX7, "narrows", "(II)I"⟩
abbrev cX7_farthest : ByteArray := prog_9_method_111_code
def yX7_farthest : MethodName := ⟨RX7, "farthest", "(I)I"⟩
abbrev cX7_middle : ByteArray := prog_9_method_112_code
def yX7_middle : MethodName := ⟨RX7, "middle", "(II)I"⟩
abbrev cX7_row : ByteArray := prog_9_method_113_code
def yX7_row : MethodName := ⟨RX7, "row", "(I)I"⟩
abbrev cX7_judge : ByteArray := prog_9_method_114_code
def yX7_judge : MethodName := ⟨RX7, "judge", "()I"⟩
abbrev cX7_clear : ByteArray := prog_9_method_115_code
def yX7_clear : MethodName := ⟨RX7, "clear", "()I"⟩
abbrev cX7_lots : ByteArray := prog_9_method_116_code
def yX7_lots : MethodName := ⟨RX7, "lots", "(III)I"⟩
abbrev cX7_count : ByteArray := prog_9_method_117_code
def yX7_count : MethodName := ⟨RX7, "count", "(I)I"⟩
def RJ6 : String := "java/lang/Integer"
abbrev cJ6_bitCount_0f7a4 : ByteArray := prog_10_method_49_code
def yJ6_bitCount_0f7a4 : MethodName := ⟨RJ6, "bitCount", "(I)I"⟩
def RJ9 : String := "java/lang/Math"
abbrev cJ9_abs_0f7a4 : ByteArray := prog_11_method_59_code
def yJ9_abs_0f7a4 : MethodName := ⟨RJ9, "abs", "(I)I"⟩
abbrev cJ9_max_7cf53 : ByteArray := prog_11_method_65_code
def yJ9_max_7cf53 : MethodName := ⟨RJ9, "max", "(II)I"⟩
abbrev cJ9_min_7cf53 : ByteArray := prog_11_method_69_code
def yJ9_min_7cf53 : MethodName := ⟨RJ9, "min", "(II)I"⟩
def RJ10 : String := "java/lang/System"
def RJ7 : String := "java/util/Arrays"
abbrev cJ7_fill_53178 : ByteArray := prog_13_method_103_code
def yJ7_fill_53178 : MethodName := ⟨RJ7, "fill", "([II)V"⟩
def RL : String := "MirrorsOnStrikeLaw"
abbrev cL_law : ByteArray := code
def yL_law : MethodName := ⟨RL, "law", "([I)Z"⟩
abbrev vwCl : List vw_C := [(RX0, TX0, 9), (RX1, TX1, 2), (RX3, TX3, 2), (RX4, TX4, 3), (RX5, TX5, 2), (RX6, TX6, 14), (RX7, TX7, 30)]
end
section
/-! THE ABSTRACT MACHINE: a program's own step function over numbered cells; its heap is two functions (ints, references) beside a list of shapes -/
abbrev HP : Type := (Nat → Nat → Int32) × (Nat → Nat → Option Nat)
abbrev SH : Type := List (Nat × Nat)
/-- an instruction: its pc, itself, two numbers (a jump's target, a field's class and place, a callee), a switch's targets -/
abbrev EI : Type := Nat × Instr × Nat × Nat × List Nat
/-- a method: name, bytes, locals, what it returns, room, arguments, its class's number, code -/
abbrev ME : Type := MethodName × ByteArray × Nat × Option FieldType × Room × Nat × Nat × List EI
abbrev mName (q : ME) : MethodName := q.1
abbrev mBytes (q : ME) : ByteArray := q.2.1
abbrev mLoc (q : ME) : Nat := q.2.2.1
abbrev mRet (q : ME) : Option FieldType := q.2.2.2.1
abbrev mRoom (q : ME) : Room := q.2.2.2.2.1
abbrev mArgs (q : ME) : Nat := q.2.2.2.2.2.1
abbrev mCls (q : ME) : Nat := q.2.2.2.2.2.2.1
abbrev mCode (q : ME) : List EI := q.2.2.2.2.2.2.2
abbrev CF : Type := Nat × List (Option Value) × List Value × Nat × Nat × SH × HP
abbrev RS : Type := Option Value × Nat × Nat × SH × HP
def SCR : Nat := 1000000
def setR {α : Type} (f : Nat → Nat → α) (i : Nat) (r : Nat → α) : Nat → Nat → α := fun j => if j = i then r else f j
def cnd (c : ClassFile.Cond) (x y : Int32) : Bool := match c with
  | .eq => decide (x = y)
  | .ne => decide (¬ x = y)
  | .lt => decide (x < y)
  | .ge => decide (y ≤ x)
  | .gt => decide (y < x)
  | .le => decide (x ≤ y)
def rv : Option Nat → Value
  | none => .null
  | some i => .ref i
/-- the kinds of the fields, by class: 0 int, 1 boolean, 2 reference -/
def clk : List (List Nat) := vwCl.map fun q => (List.range q.2.2).map fun k => if (q.2.1 k).2.2.1 = "I" then 0 else if (q.2.1 k).2.2.1 = "Z" then 1 else 2
def kd (ci k : Nat) : Nat := (clk.getD ci []).getD k 0
def fval (hp : HP) (ci o k : Nat) : Value := if kd ci k = 2 then rv (hp.2 o k) else .int (hp.1 o k)
def locI (L : List (Option Value)) (i : Nat) : Option Int32 := match L[i]? with
  | some (some (.int x)) => some x
  | _ => none
def locR (L : List (Option Value)) (i : Nat) : Option Nat := match L[i]? with
  | some (some (.ref x)) => some x
  | _ => none
def switchTo (x lo hi : Int) (ts : List Nat) : Option Nat := if x < lo ∨ hi < x then ts[0]? else ts[(x - lo).toNat + 1]?
def lookTo (ks : List Int) (x : Int) (ts : List Nat) : Option Nat := match ks, ts with
  | k :: ks, t :: ts => if x = k then some t else lookTo ks x ts
  | _, t :: _ => some t
  | _, [] => none
def isRet (i : Instr) : Bool := match i with
  | .ireturn => true
  | .areturn => true
  | .return_ => true
  | _ => false
def isCall (i : Instr) (b : Nat) : Bool := match i with
  | .invokevirtual _ => true
  | .invokespecial _ => b == 0
  | .invokestatic _ => b == 0
  | _ => false
/-- the steps within a method -/
def prim (rm : Room) (scr : Option (Nat × (Nat → Int32))) (e : EI) (j : Nat) (L : List (Option Value)) (st : List Value) (cs sl : Nat) (sh : SH) (hp : HP) : Option CF :=
  match e.2.1 with
  | .iload_n k => (locI L k).bind fun x => some (j + 1, L, .int x :: st, cs, sl, sh, hp)
  | .iload k => (locI L k).bind fun x => some (j + 1, L, .int x :: st, cs, sl, sh, hp)
  | .aload_n k => (locR L k).bind fun x => some (j + 1, L, .ref x :: st, cs, sl, sh, hp)
  | .aload k => (locR L k).bind fun x => some (j + 1, L, .ref x :: st, cs, sl, sh, hp)
  | .istore_n k => match st with
    | .int x :: r => if (k : Nat) < L.length then some (j + 1, L.set k (some (.int x)), r, cs, sl, sh, hp) else none
    | _ => none
  | .istore k => match st with
    | .int x :: r => if k < L.length then some (j + 1, L.set k (some (.int x)), r, cs, sl, sh, hp) else none
    | _ => none
  | .astore_n k => match st with
    | .ref x :: r => if (k : Nat) < L.length then some (j + 1, L.set k (some (.ref x)), r, cs, sl, sh, hp) else none
    | _ => none
  | .astore k => match st with
    | .ref x :: r => if k < L.length then some (j + 1, L.set k (some (.ref x)), r, cs, sl, sh, hp) else none
    | _ => none
  | .iconst n => some (j + 1, L, .int (Int32.ofInt n) :: st, cs, sl, sh, hp)
  | .bipush n => some (j + 1, L, .int (Int8.ofInt n).toInt32 :: st, cs, sl, sh, hp)
  | .sipush n => some (j + 1, L, .int (Int16.ofInt n).toInt32 :: st, cs, sl, sh, hp)
  | .ldc _ => some (j + 1, L, .int (Int32.ofNat e.2.2.1) :: st, cs, sl, sh, hp)
  | .ldc_w _ => some (j + 1, L, .int (Int32.ofNat e.2.2.1) :: st, cs, sl, sh, hp)
  | .iinc k n => (locI L k).bind fun x => if k < L.length then some (j + 1, L.set k (some (.int (x + Int32.ofInt n))), st, cs, sl, sh, hp) else none
  | .iadd => match st with
    | .int y :: .int x :: r => some (j + 1, L, .int (x + y) :: r, cs, sl, sh, hp)
    | _ => none
  | .isub => match st with
    | .int y :: .int x :: r => some (j + 1, L, .int (x - y) :: r, cs, sl, sh, hp)
    | _ => none
  | .imul => match st with
    | .int y :: .int x :: r => some (j + 1, L, .int (x * y) :: r, cs, sl, sh, hp)
    | _ => none
  | .iand => match st with
    | .int y :: .int x :: r => some (j + 1, L, .int (x &&& y) :: r, cs, sl, sh, hp)
    | _ => none
  | .ior => match st with
    | .int y :: .int x :: r => some (j + 1, L, .int (x ||| y) :: r, cs, sl, sh, hp)
    | _ => none
  | .ixor => match st with
    | .int y :: .int x :: r => some (j + 1, L, .int (x ^^^ y) :: r, cs, sl, sh, hp)
    | _ => none
  | .ishl => match st with
    | .int y :: .int x :: r => some (j + 1, L, .int (x <<< (y &&& 31)) :: r, cs, sl, sh, hp)
    | _ => none
  | .ishr => match st with
    | .int y :: .int x :: r => some (j + 1, L, .int (x >>> (y &&& 31)) :: r, cs, sl, sh, hp)
    | _ => none
  | .iushr => match st with
    | .int y :: .int x :: r => some (j + 1, L, .int (x.toUInt32 >>> (y.toUInt32 &&& Int32.toUInt32 31)).toInt32 :: r, cs, sl, sh, hp)
    | _ => none
  | .idiv => match st with
    | .int y :: .int x :: r => if y = 0 then none else some (j + 1, L, .int (x / y) :: r, cs, sl, sh, hp)
    | _ => none
  | .irem => match st with
    | .int y :: .int x :: r => if y = 0 then none else some (j + 1, L, .int (x - x / y * y) :: r, cs, sl, sh, hp)
    | _ => none
  | .ineg => match st with
    | .int x :: r => some (j + 1, L, .int (-x) :: r, cs, sl, sh, hp)
    | _ => none
  | .dup => match st with
    | .int x :: r => some (j + 1, L, .int x :: .int x :: r, cs, sl, sh, hp)
    | .ref x :: r => some (j + 1, L, .ref x :: .ref x :: r, cs, sl, sh, hp)
    | _ => none
  | .dup2 => match st with
    | .int y :: .ref x :: r => some (j + 1, L, .int y :: .ref x :: .int y :: .ref x :: r, cs, sl, sh, hp)
    | _ => none
  | .pop => match st with
    | .int _ :: r => some (j + 1, L, r, cs, sl, sh, hp)
    | .ref _ :: r => some (j + 1, L, r, cs, sl, sh, hp)
    | _ => none
  | .goto _ => some (e.2.2.1, L, st, cs, sl, sh, hp)
  | .ifCond c _ => match st with
    | .int x :: r => some (if cnd c x 0 = true then e.2.2.1 else j + 1, L, r, cs, sl, sh, hp)
    | _ => none
  | .if_icmp c _ => match st with
    | .int y :: .int x :: r => some (if cnd c x y = true then e.2.2.1 else j + 1, L, r, cs, sl, sh, hp)
    | _ => none
  | .tableswitch _ lo hi _ => match st with
    | .int x :: r => (switchTo x.toInt lo hi e.2.2.2.2).bind fun t => some (t, L, r, cs, sl, sh, hp)
    | _ => none
  | .lookupswitch _ ps => match st with
    | .int x :: r => (lookTo (ps.toList.map (·.1)) x.toInt e.2.2.2.2).bind fun t => some (t, L, r, cs, sl, sh, hp)
    | _ => none
  | .getfield _ => match st with
    | .ref o :: r => if sh[o]? = some (0, e.2.2.1) ∧ ¬ o = SCR then some (j + 1, L, fval hp e.2.2.1 o e.2.2.2.1 :: r, cs, sl, sh, hp) else none
    | _ => none
  | .putfield _ => match st with
    | .int v :: .ref o :: r => if (sh[o]? = some (0, e.2.2.1) ∧ ¬ o = SCR) ∧ (kd e.2.2.1 e.2.2.2.1 = 0 ∨ (kd e.2.2.1 e.2.2.2.1 = 1 ∧ (v = 0 ∨ v = 1))) then some (j + 1, L, r, cs, sl, sh, (setR hp.1 o (upd (hp.1 o) e.2.2.2.1 v), hp.2)) else none
    | .ref q :: .ref o :: r => if (sh[o]? = some (0, e.2.2.1) ∧ ¬ o = SCR) ∧ kd e.2.2.1 e.2.2.2.1 = 2 ∧ ¬ q = SCR then some (j + 1, L, r, cs, sl, sh, (hp.1, setR hp.2 o (va_up (hp.2 o) e.2.2.2.1 (some q)))) else none
    | _ => none
  | .new _ => if cs + 1 ≤ rm.cells ∧ sl + (clk.getD e.2.2.1 []).length ≤ rm.slots ∧ sh.length < SCR then some (j + 1, L, .ref sh.length :: st, cs + 1, sl + (clk.getD e.2.2.1 []).length, sh ++ [(0, e.2.2.1)], (setR hp.1 sh.length (fun _ => 0), setR hp.2 sh.length (fun _ => none))) else none
  | .newarray _ => match st with
    | .int n :: r => if ¬ n < 0 ∧ n.toNatClampNeg ≤ 100000 ∧ cs + 1 ≤ rm.cells ∧ sl + n.toNatClampNeg ≤ rm.slots ∧ sh.length < SCR then some (j + 1, L, .ref sh.length :: r, cs + 1, sl + n.toNatClampNeg, sh ++ [(1, n.toNatClampNeg)], (setR hp.1 sh.length (fun _ => 0), hp.2)) else none
    | _ => none
  | .anewarray _ => match st with
    | .int n :: r => if ¬ n < 0 ∧ n.toNatClampNeg ≤ 100000 ∧ cs + 1 ≤ rm.cells ∧ sl + n.toNatClampNeg ≤ rm.slots ∧ sh.length < SCR then some (j + 1, L, .ref sh.length :: r, cs + 1, sl + n.toNatClampNeg, sh ++ [(2, n.toNatClampNeg)], (hp.1, setR hp.2 sh.length (fun _ => none))) else none
    | _ => none
  | .iaload => match st with
    | .int i :: .ref o :: r => if o = SCR then scr.bind fun q => if ¬ (i < 0 ∨ q.1 ≤ i.toNatClampNeg) then some (j + 1, L, .int (q.2 i.toNatClampNeg) :: r, cs, sl, sh, hp) else none
      else match sh[o]? with
        | some (1, n) => if ¬ (i < 0 ∨ n ≤ i.toNatClampNeg) then some (j + 1, L, .int (hp.1 o i.toNatClampNeg) :: r, cs, sl, sh, hp) else none
        | _ => none
    | _ => none
  | .iastore => match st with
    | .int x :: .int i :: .ref o :: r => if o = SCR then none else match sh[o]? with
        | some (1, n) => if ¬ (i < 0 ∨ n ≤ i.toNatClampNeg) then some (j + 1, L, r, cs, sl, sh, (setR hp.1 o (upd (hp.1 o) i.toNatClampNeg x), hp.2)) else none
        | _ => none
    | _ => none
  | .aaload => match st with
    | .int i :: .ref o :: r => if o = SCR then none else match sh[o]? with
        | some (2, n) => if ¬ (i < 0 ∨ n ≤ i.toNatClampNeg) then some (j + 1, L, rv (hp.2 o i.toNatClampNeg) :: r, cs, sl, sh, hp) else none
        | _ => none
    | _ => none
  | .aastore => match st with
    | .ref q :: .int i :: .ref o :: r => if o = SCR ∨ q = SCR ∨ ¬ sh[q]? = some (0, 0) then none else match sh[o]? with
        | some (2, n) => if ¬ (i < 0 ∨ n ≤ i.toNatClampNeg) then some (j + 1, L, r, cs, sl, sh, (hp.1, setR hp.2 o (va_up (hp.2 o) i.toNatClampNeg (some q)))) else none
        | _ => none
    | _ => none
  | .arraylength => match st with
    | .ref o :: r => if o = SCR then scr.bind fun q => some (j + 1, L, .int (Int32.ofNat q.1) :: r, cs, sl, sh, hp)
      else match sh[o]? with
        | some (1, n) => some (j + 1, L, .int (Int32.ofNat n) :: r, cs, sl, sh, hp)
        | some (2, n) => some (j + 1, L, .int (Int32.ofNat n) :: r, cs, sl, sh, hp)
        | _ => none
    | _ => none
  | .invokespecial _ => match st with
    | .ref _ :: r => if e.2.2.2.1 = 1 ∧ 1 ≤ rm.frames ∧ (r.map fun v => v.category).sum + 12 ≤ rm.locals then some (j + 1, L, r, cs, sl, sh, hp) else none
    | _ => none
  | .invokestatic _ => match st with
    | .int n :: .int dp :: .ref d :: .int sp :: .ref o :: r => match sh[o]?, sh[d]? with
      | some (1, n0), some (1, n1) => if e.2.2.2.1 = 2 ∧ (¬ o = SCR ∧ ¬ d = SCR) ∧ ¬ sp < 0 ∧ ¬ dp < 0 ∧ ¬ n < 0 ∧ sp.toNatClampNeg + n.toNatClampNeg ≤ n0 ∧ dp.toNatClampNeg + n.toNatClampNeg ≤ n1 ∧ 1 ≤ rm.frames ∧ (r.map fun v => v.category).sum + 40 ≤ rm.locals then
          some (j + 1, L, r, cs, sl, sh, (setR hp.1 d (va_cpy (hp.1 o) (hp.1 d) sp.toNatClampNeg dp.toNatClampNeg n.toNatClampNeg), hp.2)) else none
      | _, _ => none
    | _ => none
  | _ => none
def retTo (ret : Option FieldType) (rm : Room) (i : Instr) (st : List Value) (cs sl : Nat) (sh : SH) (hp : HP) : Option RS :=
  if cs ≤ rm.cells ∧ sl ≤ rm.slots then
    match i, st with
    | .ireturn, [.int v] => if ret = some .int ∨ (ret = some .boolean ∧ (v = 0 ∨ v = 1)) then some (some (.int v), cs, sl, sh, hp) else none
    | .areturn, [.ref o] => match ret with
      | some (.object _) => some (some (.ref o), cs, sl, sh, hp)
      | _ => none
    | .return_, [] => if ret = none then some (none, cs, sl, sh, hp) else none
    | _, _ => none
  else none
/-- the receiver's class -/
def recvOk (i : Instr) (me' : ME) (st : List Value) (sh : SH) : Bool := match i with
  | .invokevirtual _ => match (st.take (mArgs me')).getLast? with
    | some (.ref o) => decide (¬ o = SCR ∧ sh[o]? = some (0, mCls me'))
    | _ => false
  | .invokespecial _ => match (st.take (mArgs me')).getLast? with
    | some (.ref _) => true
    | _ => false
  | _ => true
/-- may this call go: room, and the receiver's class -/
def callOk (rm : Room) (i : Instr) (me' : ME) (st : List Value) (cs sl : Nat) (sh : SH) : Bool :=
  decide (mArgs me' ≤ st.length) && decide (mArgs me' ≤ mLoc me') && ((st.take (mArgs me')).all fun v => v.category == 1) && decide (((st.drop (mArgs me')).map fun v => v.category).sum ≤ 8) &&
  decide ((mRoom me').frames + 1 ≤ rm.frames) && decide (8 + (mLoc me' + 11) + (mRoom me').locals ≤ rm.locals) && decide (cs + (mRoom me').cells ≤ rm.cells) && decide (sl + (mRoom me').slots ≤ rm.slots) && recvOk i me' st sh
def args0 (me' : ME) (st : List Value) : List Value := (st.take (mArgs me')).reverse
def loc0 (me' : ME) (st : List Value) : List (Option Value) := (args0 me' st).map some ++ List.replicate (mLoc me' - mArgs me') none
/-- a method's run -/
def exF (ms : List ME) : Nat → Option (Nat × (Nat → Int32)) → ME → Nat → List (Option Value) → List Value → Nat → Nat → SH → HP → Option RS
  | 0, _, _, _, _, _, _, _, _, _ => none
  | n + 1, scr, me, j, L, st, cs, sl, sh, hp => (mCode me)[j]?.bind fun e =>
    if isRet e.2.1 = true then retTo (mRet me) (mRoom me) e.2.1 st cs sl sh hp
    else if isCall e.2.1 e.2.2.2.1 = true then ms[e.2.2.1]?.bind fun me' =>
      if callOk (mRoom me) e.2.1 me' st cs sl sh = true then (exF ms n none me' 0 (loc0 me' st) [] 0 0 sh hp).bind fun q =>
        exF ms n scr me (j + 1) L (q.1.toList ++ st.drop (mArgs me')) (cs + (mRoom me').cells) (sl + (mRoom me').slots) q.2.2.2.1 q.2.2.2.2
      else none
    else (prim (mRoom me) scr e j L st cs sl sh hp).bind fun q => exF ms n scr me q.1 q.2.1 q.2.2.1 q.2.2.2.1 q.2.2.2.2.1 q.2.2.2.2.2.1 q.2.2.2.2.2.2
end
section
/-! THE ABSTRACT MACHINE IS THE MACHINE'S: worlds, locals, the steps within a method -/
/-- references as the machine has them: the cells stand one behind the other from 'base' on; the script is the cell sb -/
def tr (base sb : Nat) : Value → Value
  | .ref i => .ref (if i = SCR then sb else base + i)
  | v => v
theorem tr_cat (base sb : Nat) (v : Value) : (tr base sb v).category = v.category := by cases v <;> rfl
theorem tr_sum (base sb : Nat) (st : List Value) : ((st.map (tr base sb)).map fun v => v.category).sum = (st.map fun v => v.category).sum := by
  rw [List.map_map]
  congr 1
  exact List.map_congr_left fun v _ => tr_cat base sb v
def trv (base : Nat) (r : Option Nat) : Value := va_rf (r.map (base + ·))
theorem tr_rv (base sb : Nat) (r : Option Nat) (h : ¬ r = some SCR) : tr base sb (rv r) = trv base r := by
  cases r with
  | none => rfl
  | some i =>
    have hi : ¬ i = SCR := fun q => h (by rw [q])
    simp [tr, rv, trv, va_rf, hi]
/-- the field k of an object of class ci, as the machine has it -/
def fvl (base : Nat) (hp : HP) (ci o k : Nat) : Value := if kd ci k = 2 then trv base (hp.2 o k) else .int (hp.1 o k)
def cellI (base : Nat) (D : va_G) (cI cF : ClassId) (H : Heap) (sh : SH) (hp : HP) (i : Nat) : Prop := match sh[i]? with
  | some (0, ci) => ∃ r : vw_C, vwCl[ci]? = some r ∧ t_OB (base + i) (D.1 ci) r.2.2 (D.2 ci) H (fvl base hp ci i)
  | some (1, n) => H[base + i]? = some (arrV cI n (fun j => .int (hp.1 i j)))
  | some (2, n) => H[base + i]? = some (arrV cF n (fun j => trv base (hp.2 i j)))
  | _ => True
/-- no cell holds the script -/
def noS (hp : HP) : Prop := ∀ i k, ¬ hp.2 i k = some SCR
def Iv (base : Nat) (Hb : Heap) (D : va_G) (cI cF : ClassId) (H : Heap) (sh : SH) (hp : HP) : Prop :=
  H.size = base + sh.length ∧ sh.length ≤ SCR ∧ noS hp ∧ (∀ i, i < sh.length → cellI base D cI cF H sh hp i) ∧ ∀ q, q < base → H[q]? = Hb[q]?
def LsOk (base sb nL : Nat) (ls : Array Slot) (L : List (Option Value)) : Prop := L.length = nL ∧ ls.size = nL ∧ lv_wf ls ∧ ∀ (i : Nat) (v : Value), L[i]? = some (some v) → ls[i]? = some (.val (tr base sb v)) ∧ v.category = 1
def lvOf (base sb : Nat) (L : List (Option Value)) : List (Nat × Value) := (List.range L.length).filterMap fun i => match L[i]? with
  | some (some v) => some (i, tr base sb v)
  | _ => none
theorem lvOf_mem {base sb : Nat} {L : List (Option Value)} {i : Nat} {v : Value} (h : L[i]? = some (some v)) : (i, tr base sb v) ∈ lvOf base sb L := by
  refine List.mem_filterMap.mpr ⟨i, List.mem_range.mpr (List.getElem?_eq_some_iff.mp h).1, ?_⟩
  rw [h]
theorem lvOf_of {base sb : Nat} {L : List (Option Value)} {q : Nat × Value} (h : q ∈ lvOf base sb L) : ∃ v, L[q.1]? = some (some v) ∧ q.2 = tr base sb v := by
  obtain ⟨i, -, hi⟩ := List.mem_filterMap.mp h
  split at hi
  · rename_i v hv
    cases hi
    exact ⟨v, hv, rfl⟩
  · cases hi
theorem LsOk.has {base sb nL : Nat} {ls : Array Slot} {L : List (Option Value)} (h : LsOk base sb nL ls L) : lv_has ls nL (lvOf base sb L) := by
  refine ⟨h.2.1, h.2.2.1, fun q hq => ?_⟩
  obtain ⟨v, h1, h2⟩ := lvOf_of hq
  rw [h2]
  exact (h.2.2.2 _ _ h1).1
theorem LsOk.set {base sb nL : Nat} {ls ls' : Array Slot} {L : List (Option Value)} {i : Nat} {v : Value} (h : LsOk base sb nL ls L) (hv : v.category = 1)
    (h' : lv_has ls' nL ((i, tr base sb v) :: (lvOf base sb L).filter (fun q => !(q.1 == i) && !(q.1 + 1 == i && q.2.category == 2)))) : LsOk base sb nL ls' (L.set i (some v)) := by
  refine ⟨by rw [List.length_set]; exact h.1, h'.1, h'.2.1, fun k w hk => ?_⟩
  by_cases hki : k = i
  · subst hki
    have hl : k < L.length := by
      have := (List.getElem?_eq_some_iff.mp hk).1
      rw [List.length_set] at this
      exact this
    rw [List.getElem?_set_self hl] at hk
    cases hk
    exact ⟨h'.2.2 _ List.mem_cons_self, hv⟩
  · rw [List.getElem?_set_ne (Ne.symm hki)] at hk
    have hc := (h.2.2.2 _ _ hk).2
    refine ⟨h'.2.2 (k, tr base sb w) (List.mem_cons_of_mem _ (List.mem_filter.mpr ⟨lvOf_mem hk, ?_⟩)), hc⟩
    simp [hki, tr_cat, hc]
theorem LsOk.int {base sb nL : Nat} {ls : Array Slot} {L : List (Option Value)} {i : Nat} {x : Int32} (h : LsOk base sb nL ls L) (hx : locI L i = some x) : ls[i]? = some (.val (.int x)) := by
  unfold locI at hx
  split at hx
  · rename_i y hy
    cases hx
    exact (h.2.2.2 _ _ hy).1
  · cases hx
theorem LsOk.rf {base sb nL : Nat} {ls : Array Slot} {L : List (Option Value)} {i : Nat} {x : Nat} (h : LsOk base sb nL ls L) (hx : locR L i = some x) : ls[i]? = some (.val (.ref (if x = SCR then sb else base + x))) := by
  unfold locR at hx
  split at hx
  · rename_i y hy
    cases hx
    exact (h.2.2.2 _ _ hy).1
  · cases hx
/-! a cell changed, a cell made -/
theorem cellI.kept {base : Nat} {D : va_G} {cI cF : ClassId} {H H' : Heap} {sh sh' : SH} {hp hp' : HP} {i : Nat} (h : cellI base D cI cF H sh hp i) (hs : sh'[i]? = sh[i]?) (h1 : hp'.1 i = hp.1 i) (h2 : hp'.2 i = hp.2 i) (hH : H'[base + i]? = H[base + i]?) : cellI base D cI cF H' sh' hp' i := by
  unfold cellI at h ⊢
  rw [hs]
  split
  · rename_i ci hci
    rw [hci] at h
    obtain ⟨r, hr, ho⟩ := h
    refine ⟨r, hr, (ho.kept hH).to fun k _ => ?_⟩
    simp only [fvl, h1, h2]
  · rename_i n hn
    rw [hn] at h
    rw [hH, h1]
    exact h
  · rename_i n hn
    rw [hn] at h
    rw [hH, h2]
    exact h
  · trivial
theorem setR_ne {α : Type} (f : Nat → Nat → α) {i j : Nat} (r : Nat → α) (h : ¬ j = i) : setR f i r j = f j := by simp [setR, h]
theorem setR_eq {α : Type} (f : Nat → Nat → α) (i : Nat) (r : Nat → α) : setR f i r i = r := by simp [setR]
theorem Iv.put {base : Nat} {Hb : Heap} {D : va_G} {cI cF : ClassId} {H H' : Heap} {sh : SH} {hp hp' : HP} {o : Nat} (h : Iv base Hb D cI cF H sh hp) (ho : o < sh.length) (hS : noS hp')
    (hc : cellI base D cI cF H' sh hp' o) (h1 : ∀ i, ¬ i = o → hp'.1 i = hp.1 i) (h2 : ∀ i, ¬ i = o → hp'.2 i = hp.2 i) (hz : H'.size = H.size) (hq : ∀ q, q ≠ base + o → H'[q]? = H[q]?) : Iv base Hb D cI cF H' sh hp' := by
  obtain ⟨a1, a2, a3, a4, a5⟩ := h
  refine ⟨by rw [hz, a1], a2, hS, fun i hi => ?_, fun q hq1 => ?_⟩
  · by_cases hio : i = o
    · subst hio
      exact hc
    · exact (a4 i hi).kept rfl (h1 i hio) (h2 i hio) (hq _ (by omega))
  · rw [hq q (by omega)]
    exact a5 q hq1
theorem Iv.push {base : Nat} {Hb : Heap} {D : va_G} {cI cF : ClassId} {H H' : Heap} {sh : SH} {x : Nat × Nat} {hp hp' : HP} (h : Iv base Hb D cI cF H sh hp) (hl : sh.length < SCR) (hS : noS hp')
    (hc : cellI base D cI cF H' (sh ++ [x]) hp' sh.length) (h1 : ∀ i, ¬ i = sh.length → hp'.1 i = hp.1 i) (h2 : ∀ i, ¬ i = sh.length → hp'.2 i = hp.2 i) (hz : H'.size = H.size + 1) (hq : ∀ q, q < H.size → H'[q]? = H[q]?) : Iv base Hb D cI cF H' (sh ++ [x]) hp' := by
  obtain ⟨a1, a2, a3, a4, a5⟩ := h
  refine ⟨by rw [hz, a1, List.length_append, List.length_singleton]; omega, by rw [List.length_append, List.length_singleton]; omega, hS, fun i hi => ?_, fun q hq1 => ?_⟩
  · by_cases hio : i = sh.length
    · subst hio
      exact hc
    · rw [List.length_append, List.length_singleton] at hi
      have hi' : i < sh.length := by omega
      exact (a4 i hi').kept (List.getElem?_append_left hi') (h1 i hio) (h2 i hio) (hq _ (by omega))
  · rw [hq q (by omega)]
    exact a5 q hq1
/-! what the tables say of an instruction -/
def pcAt (code : List EI) (t : Nat) : Nat := match code[t]? with
  | some e => e.1
  | none => 0
def ilen (i : Instr) : Nat := match i with
  | .iload _ => 2
  | .aload _ => 2
  | .istore _ => 2
  | .astore _ => 2
  | .bipush _ => 2
  | .sipush _ => 3
  | .ldc _ => 2
  | .ldc_w _ => 3
  | .iinc _ _ => 3
  | .goto _ => 3
  | .ifCond _ _ => 3
  | .if_icmp _ _ => 3
  | .getfield _ => 3
  | .putfield _ => 3
  | .new _ => 3
  | .newarray _ => 2
  | .anewarray _ => 3
  | .invokevirtual _ => 3
  | .invokespecial _ => 3
  | .invokestatic _ => 3
  | _ => 1
/-- the pcs of an entry, by the bytes -/
def chkE (bs : ByteArray) (code : List EI) (j : Nat) (e : EI) : Bool := match e.2.1 with
  | .tableswitch d lo hi offs => (match decode bs e.1 with
      | .ok q => decide (q.1 = .tableswitch d lo hi offs)
      | _ => false) && decide (lo ≤ hi ∧ offs.size = (hi - lo).toNat + 1) && decide ((d :: offs.toList).map (fun o => (e.1 : Int) + o) = e.2.2.2.2.map fun t => (pcAt code t : Int))
  | .lookupswitch d ps => (match decode bs e.1 with
      | .ok q => decide (q.1 = .lookupswitch d ps)
      | _ => false) && ((ps.toList.zip (ps.toList.drop 1)).all fun (a, next) => a.1 < next.1) && decide ((ps.toList.map (·.2) ++ [d]).map (fun o => (e.1 : Int) + o) = e.2.2.2.2.map fun t => (pcAt code t : Int))
  | .goto off => decide (decode bs e.1 = .ok (e.2.1, 3)) && decide ((e.1 : Int) + off = (pcAt code e.2.2.1 : Int))
  | .ifCond _ off => decide (decode bs e.1 = .ok (e.2.1, 3)) && decide ((e.1 : Int) + off = (pcAt code e.2.2.1 : Int)) && decide (pcAt code (j + 1) = e.1 + 3)
  | .if_icmp _ off => decide (decode bs e.1 = .ok (e.2.1, 3)) && decide ((e.1 : Int) + off = (pcAt code e.2.2.1 : Int)) && decide (pcAt code (j + 1) = e.1 + 3)
  | i => decide (decode bs e.1 = .ok (i, ilen i)) && (isRet i || decide (pcAt code (j + 1) = e.1 + ilen i))
def chkC (bs : ByteArray) (code : List EI) : Bool := decide (pcAt code 0 = 0) && (List.range code.length).all fun j => match code[j]? with
  | some e => chkE bs code j e
  | none => false
end
section
/-- the tables' words that any later state keeps -/
def tbG : List Cond := lw_tbl.filter goodWord
/-! what the tables say of the links -/
def FieldOK (own : String) (idx a b : Nat) : Prop := ∃ (C : String) (T : u_T) (N : Nat), vwCl[a]? = some (C, T, N) ∧ b < N ∧ Cond.fieldLink own idx (T b).1 (T b).2.1 (T b).2.2.1 ∈ tbG
def PutOK (y : MethodName) (a b : Nat) : Prop := ∀ (C : String) (T : u_T) (N : Nat), vwCl[a]? = some (C, T, N) → (T b).2.2.2 = true → (T b).1 = y.cls ∧ y.name = "<init>"
def NewOK (own : String) (idx a : Nat) : Prop := ∃ (C : String) (T : u_T) (N : Nat), vwCl[a]? = some (C, T, N) ∧ Cond.classLink own idx C ∈ tbG ∧ Cond.instantiable C N ∈ tbG ∧ Cond.initialized C ∈ tbG
def LinkNOK (own : String) (idx : Nat) (y : MethodName) : Prop := Cond.methodLink own idx y ∈ tbG ∨ ∃ host, Cond.methodLinkNest own idx y host ∈ lw_tbl
def CallOK (ms : List ME) (own : String) (idx a : Nat) : Prop := ∃ me', ms[a]? = some me' ∧ LinkNOK own idx (mName me') ∧ Cond.initialized (mName me').cls ∈ tbG
def LinkOK (ms : List ME) (y : MethodName) (i : Instr) (a b : Nat) : Prop := match i with
  | .getfield idx => FieldOK y.cls idx a b
  | .putfield idx => FieldOK y.cls idx a b ∧ PutOK y a b
  | .new idx => NewOK y.cls idx a
  | .newarray t => t = .int
  | .anewarray idx => Cond.classLink y.cls idx RX0 ∈ tbG
  | .ldc idx => Cond.constant y.cls idx (Int32.ofNat a) ∈ tbG
  | .ldc_w idx => Cond.constant y.cls idx (Int32.ofNat a) ∈ tbG
  | .invokevirtual idx => CallOK ms y.cls idx a ∧ ∀ me', ms[a]? = some me' → Cond.instanceMethod (mName me') ∈ tbG ∧ Cond.selects (mName me').cls (mName me') (mName me') ∈ tbG ∧ ¬ mCls me' = 99
  | .invokespecial idx => (b = 1 → Cond.methodLink y.cls idx Lib.objectInit ∈ tbG) ∧ (b = 0 → CallOK ms y.cls idx a ∧ ∀ me', ms[a]? = some me' → Cond.instanceMethod (mName me') ∈ tbG ∧ (mName me').name = "<init>" ∧ mRet me' = none ∧ ¬ mCls me' = 99)
  | .invokestatic idx => (b = 2 → Cond.methodLink y.cls idx arraycopyName ∈ tbG) ∧ (b = 0 → CallOK ms y.cls idx a ∧ ∀ me', ms[a]? = some me' → Cond.static (mName me') ∈ tbG ∧ mCls me' = 99)
  | _ => True
/-- what the tables say of the classes -/
def ClOK : Prop := ∀ (ci : Nat) (C : String) (T : u_T) (N : Nat), vwCl[ci]? = some (C, T, N) → (∀ w ∈ u_ws C T N, w ∈ tbG) ∧ (∀ a, a < N → ∀ b, b < N → a ≠ b → (T a).2.1 ≠ (T b).2.1) ∧ (clk.getD ci []).length = N ∧
  ∃ ty : Nat → FieldType, (∀ k, k < N → parseFieldDescriptor (T k).2.2.1 = some (ty k)) ∧ ∀ k, k < N → (kd ci k = 0 ∧ ty k = .int) ∨ (kd ci k = 1 ∧ ty k = .boolean) ∨ (kd ci k = 2 ∧ ((∃ n, ty k = .object n) ∨ ∃ t, ty k = .array t))
def GlOK : Prop := Cond.arrayClass .int ∈ tbG ∧ True ∧ Cond.instanceMethod Lib.objectInit ∈ tbG ∧ Cond.code Lib.objectInit ⟨#[0xb1]⟩ 1 none ∈ tbG ∧
  Cond.native arraycopyName ∈ tbG ∧ Cond.static arraycopyName ∈ tbG ∧ Cond.initialized "java/lang/System" ∈ tbG
/-- the words that are kept their own way -/
def Nw (s : State) : Prop := (∀ (a : String) (i : Nat) (x : MethodName) (h : String), Cond.methodLinkNest a i x h ∈ lw_tbl → va_Nw (.methodLinkNest a i x h) s) ∧ va_AO RX0 s
theorem Nw.warm {s U : State} (hW : s.WarmedH U.vm) (h : Nw s) : Nw U := ⟨fun a i x z hm => (h.1 a i x z hm).warmM hW, h.2.moved hW.alike⟩
theorem Nw.same {s U : State} (hv : s.vm = U.vm) (h : Nw s) : Nw U := ⟨fun a i x z hm => va_Nw.same rfl hv (h.1 a i x z hm), h.2.moved (hv ▸ Vm.Alike.refl s.vm)⟩
/-- what holds of a frame -/
def Fx (p : Program) (s : State) (m : MethodId) (args : Array Value) (meth : Method) (c : Code) (y : MethodName) (bs : ByteArray) (nL : Nat) (D : va_G) (cI cF : ClassId) : Prop :=
  p.tables.exec = Jvm.exec ∧ c.code = bs ∧ c.maxLocals = nL ∧ s.vm.findClass y.cls = some m.cls ∧ (∀ w ∈ tbG, w.before args s = true) ∧ va_K D vwCl [(cI, .int), (cF, .object RX0)] s ∧ (y.name = "<init>" → meth.name = "<init>") ∧ Nw s
def Sx (s : State) (base sb : Nat) (Hb : Heap) (scr : Option (Nat × (Nat → Int32))) : Prop := ∀ q, scr = some q → va_X sb q.1 q.2 s Hb ∧ sb < base
theorem noS_setR {hp : HP} {o : Nat} {r : Nat → Option Nat} (h : noS hp) (hr : ∀ k, ¬ r k = some SCR) (f : Nat → Nat → Int32) : noS (f, setR hp.2 o r) := by
  intro i k
  show ¬ (setR hp.2 o r) i k = some SCR
  by_cases hi : i = o
  · subst hi
    rw [setR_eq]
    exact hr k
  · rw [setR_ne _ _ hi]
    exact h i k
theorem noS_up {hp : HP} {o k q : Nat} (h : noS hp) (hq : ¬ q = SCR) : ∀ j, ¬ va_up (hp.2 o) k (some q) j = some SCR := by
  intro j
  unfold va_up
  by_cases hj : j = k
  · rw [if_pos hj]
    exact fun z => hq (Option.some.inj z)
  · rw [if_neg hj]
    exact h o j
theorem cell_obj {base : Nat} {D : va_G} {cI cF : ClassId} {H : Heap} {sh : SH} {hp : HP} {o ci : Nat} {r : vw_C} (h : cellI base D cI cF H sh hp o) (hs : sh[o]? = some (0, ci)) (hr : vwCl[ci]? = some r) : t_OB (base + o) (D.1 ci) r.2.2 (D.2 ci) H (fvl base hp ci o) := by
  unfold cellI at h
  rw [hs] at h
  obtain ⟨r', h1, h2⟩ := h
  cases hr.symm.trans h1
  exact h2
theorem cell_int {base : Nat} {D : va_G} {cI cF : ClassId} {H : Heap} {sh : SH} {hp : HP} {o n : Nat} (h : cellI base D cI cF H sh hp o) (hs : sh[o]? = some (1, n)) : H[base + o]? = some (arrV cI n (fun j => .int (hp.1 o j))) := by
  unfold cellI at h
  rw [hs] at h
  exact h
theorem cell_ref {base : Nat} {D : va_G} {cI cF : ClassId} {H : Heap} {sh : SH} {hp : HP} {o n : Nat} (h : cellI base D cI cF H sh hp o) (hs : sh[o]? = some (2, n)) : H[base + o]? = some (arrV cF n (fun j => trv base (hp.2 o j))) := by
  unfold cellI at h
  rw [hs] at h
  exact h
theorem sh_lt {sh : SH} {o : Nat} {x : Nat × Nat} (h : sh[o]? = some x) : o < sh.length := (List.getElem?_eq_some_iff.mp h).1
theorem tr_fval {base sb : Nat} {hp : HP} (h : noS hp) (ci o k : Nat) : tr base sb (fval hp ci o k) = fvl base hp ci o k := by
  unfold fval fvl
  split
  · exact tr_rv base sb _ (h o k)
  · rfl
theorem tr_ref {base sb o : Nat} (h : ¬ o = SCR) : tr base sb (.ref o) = .ref (base + o) := by simp [tr, h]
theorem lk_to {ks : List (Int × Int)} {d : Int} {x : Int} {pc : Nat} {ts : List Nat} {f : Nat → Nat} {t : Nat} (h : (ks.map (·.2) ++ [d]).map (fun o => (pc : Int) + o) = ts.map fun t => (f t : Int)) (hq : lookTo (ks.map (·.1)) x ts = some t) : (pc : Int) + Op.lookupswitch.offset ks d x = (f t : Int) := by
  induction ks generalizing ts with
  | nil =>
    match ts, h, hq with
    | [], h, _ => simp at h
    | t0 :: ts, h, hq =>
      simp only [List.map_nil, lookTo] at hq
      cases hq
      simp only [List.map_nil, List.nil_append, List.map_cons] at h
      have h0 := (List.cons.inj h).1
      simpa [Op.lookupswitch.offset] using h0
  | cons q ks ih =>
    match ts, h, hq with
    | [], h, _ => simp at h
    | t0 :: ts, h, hq =>
      simp only [List.map_cons, List.cons_append] at h
      have h0 := (List.cons.inj h).1
      have h1 := (List.cons.inj h).2
      simp only [List.map_cons, lookTo] at hq
      by_cases hx : x = q.1
      · rw [if_pos hx] at hq
        cases hq
        simpa [Op.lookupswitch.offset, hx] using h0
      · rw [if_neg hx] at hq
        have := ih h1 hq
        simpa [Op.lookupswitch.offset, Ne.symm hx, hx] using this
end
section
/-! THE STEPS WITHIN A METHOD, against the machine -/
section PRIM
variable {p : Program} {l : Launch} {e0 : Env} {rm : Room} {s : State} {m : MethodId} {args : Array Value} {below : List Frame} {meth : Method} {c : Code} {H : Heap} {locs : List Loc} {Q : State → Prop}
variable {sh : SH} {hp : HP} {base sb : Nat} {Hb : Heap} {D : va_G} {cI cF : ClassId} {ms : List ME} {y : MethodName} {bs : ByteArray} {nL : Nat} {code : List EI}
theorem app_in {locs : List Loc} {base : Nat} {q : Loc} (h : ∀ l ∈ locs, base ≤ l.base) (hq : base ≤ q.base) : ∀ l ∈ locs ++ [q], base ≤ l.base := by
  intro l hl
  rcases List.mem_append.mp hl with h1 | h1
  · exact h l h1
  · rw [List.mem_singleton.mp h1]
    exact hq
set_option maxHeartbeats 4000000 in
set_option maxRecDepth 100000 in
/-- a field read -/
theorem s_get (hcl : ClOK) (fx : Fx p s m args meth c y bs nL D cI cF) (iv : Iv base Hb D cI cF H sh hp) {o a b idx pc : Nat} {ls : Array Slot} {rest : List Value} {cs sl : Nat} (ho : sh[o]? = some (0, a)) (hk : FieldOK y.cls idx a b) (hdg : decode bs pc = .ok (.getfield idx, 3))
    (kk : W p l e0 rm s m args below meth c H locs cs sl Q (F0 m (pc + 3) ls (fvl base hp a o b :: rest))) : W p l e0 rm s m args below meth c H locs cs sl Q (F0 m pc ls (.ref (base + o) :: rest)) := by
  obtain ⟨hx, hb, hml, hown, hts, hK, -⟩ := fx
  obtain ⟨C, T, N, hc, hb2, hlk⟩ := hk
  obtain ⟨hws, hnm, -, ty, hty, -⟩ := hcl _ _ _ _ hc
  obtain ⟨cell, q1, q2, q3, q4⟩ := cell_obj (iv.2.2.2.1 o (sh_lt ho)) ho hc
  obtain ⟨hS, hfc, kC, hkC, hkind⟩ := hK.1 a _ hc
  obtain ⟨cf, kf, fi, f, hi, hsl⟩ := hS b hb2
  refine W.getf hx hb hown (hts _ hlk) hi (u_facts hfc hkC (u_lays hts hws hb2) hi).1 q1 (by rw [q3]; exact fun h => by cases h) (v := fvl base hp a o b) ?_ rfl rfl hdg kk
  rw [hsl, q4 b hb2]
set_option maxHeartbeats 4000000 in
set_option maxRecDepth 100000 in
/-- a field written -/
theorem s_put (hcl : ClOK) (fx : Fx p s m args meth c y bs nL D cI cF) (iv : Iv base Hb D cI cF H sh hp) {hp' : HP} {o a b idx pc : Nat} {ls : Array Slot} {rest : List Value} {cs sl : Nat} {v : Value} (ho : sh[o]? = some (0, a)) (hk : FieldOK y.cls idx a b) (hp2 : PutOK y a b) (hdg : decode bs pc = .ok (.putfield idx, 3))
    (hv : (kd a b = 0 ∧ ∃ x, v = .int x) ∨ (kd a b = 1 ∧ (v = .int 0 ∨ v = .int 1)) ∨ (kd a b = 2 ∧ ∃ x, v = .ref x)) (hl : ∀ q ∈ locs, base ≤ q.base)
    (hS : noS hp') (h1 : ∀ i, ¬ i = o → hp'.1 i = hp.1 i) (h2 : ∀ i, ¬ i = o → hp'.2 i = hp.2 i) (hV : ∀ k, fvl base hp' a o k = updV (fvl base hp a o) b v k)
    (kk : ∀ (H' : Heap) (locs' : List Loc), Iv base Hb D cI cF H' sh hp' → (∀ q ∈ locs', base ≤ q.base) → W p l e0 rm s m args below meth c H' locs' cs sl Q (F0 m (pc + 3) ls rest)) : W p l e0 rm s m args below meth c H locs cs sl Q (F0 m pc ls (v :: .ref (base + o) :: rest)) := by
  obtain ⟨hx, hb, hml, hown, hts, hK, hini, -⟩ := fx
  obtain ⟨C, T, N, hc, hb2, hlk⟩ := hk
  obtain ⟨hws, hnm, -, ty, hty, htk⟩ := hcl _ _ _ _ hc
  have hap := va_apart (own := y.cls) hts hws ty hty hnm hK hc
  have hcell := iv.2.2.2.1 o (sh_lt ho)
  obtain ⟨cell, q1, q2, q3, q4⟩ := cell_obj hcell ho hc
  obtain ⟨hSl, hfc, kC, hkC, hkind⟩ := hK.1 a _ hc
  obtain ⟨cf, kf, fi, f, hi, hsl⟩ := hSl b hb2
  have hst := (u_facts hfc hkC (u_lays hts hws hb2) hi).1
  have hnf : narrow (ty b) v = v ∧ fits (ty b) v = true := by
    rcases htk b hb2 with ⟨k1, k2⟩ | ⟨k1, k2⟩ | ⟨k1, k2⟩
    · rcases hv with ⟨-, x, rfl⟩ | ⟨j1, -⟩ | ⟨j1, -⟩
      · rw [k2]; exact ⟨rfl, rfl⟩
      · omega
      · omega
    · rcases hv with ⟨j1, -⟩ | ⟨-, rfl | rfl⟩ | ⟨j1, -⟩
      · omega
      · rw [k2]; exact ⟨by decide, by decide⟩
      · rw [k2]; exact ⟨by decide, by decide⟩
      · omega
    · rcases hv with ⟨j1, -⟩ | ⟨j1, -⟩ | ⟨-, x, rfl⟩
      · omega
      · omega
      · rcases k2 with ⟨n, k2⟩ | ⟨t, k2⟩ <;> (rw [k2]; exact ⟨rfl, rfl⟩)
  have key : ∀ H' : Heap, H'[base + o]? = some (cell.setSlot f.slot v) → H'.size = H.size → (∀ q, q ≠ base + o → H'[q]? = H[q]?) → Iv base Hb D cI cF H' sh hp' := by
    intro H' e1 e2 e3
    refine iv.put (sh_lt ho) hS ?_ h1 h2 e2 e3
    unfold cellI
    rw [ho]
    rw [hsl] at e1
    refine ⟨_, hc, ?_⟩
    exact t_OB.to (V := updV (fvl base hp a o) b v) ⟨_, e1, q2, q3, t_set q4 hap hb2 v⟩ (fun k _ => (hV k).symm)
  have hloc : ∀ q ∈ locs ++ [⟨base + o, f.slot⟩], base ≤ q.base := app_in hl (Nat.le_add_right _ _)
  cases hfin : (T b).2.2.2 with
  | false =>
    have hlay := hts _ (hws _ (u_in_lay hb2))
    unfold u_lay at hlay
    rw [if_neg (by rw [hfin]; decide)] at hlay
    have h6 := u_store hfc hkC hkind hlay hi (hty b hb2) hnf.1 hnf.2
    exact W.putK hx hb (f := f) ⟨hown, hts _ hlk, ⟨_, _, _, hi⟩, hst⟩ (by rw [q2]; exact h6) q1 q3 (by rw [hsl]; exact k2_hasslot (q4 b hb2)) rfl rfl hdg fun H' e1 e2 e3 => kk H' _ (key H' e1 e2 e3) hloc
  | true =>
    have hlay := hts _ (hws _ (u_in_lay hb2))
    unfold u_lay at hlay
    rw [if_pos hfin] at hlay
    obtain ⟨p1, p2⟩ := hp2 _ _ _ hc hfin
    have hcf : m.cls = cf := by
      obtain ⟨_, _, c', _, _, _, -, -, hf', -, -, -, hown2, -⟩ := Cond.laysFinal_spec hlay
      have e1 : c' = cf := by have := hi.symm.trans hf'; simp at this; exact this.1.symm
      rw [p1] at hown2
      rw [← e1]; exact Option.some.inj (hown.symm.trans hown2)
    have h6 := u_fits hfc hkC hkind (Or.inr hlay) hi (hty b hb2) hnf.1 hnf.2
    exact W.putFinK hx hb hown (hts _ hlk) hi hst hcf (hini p2) (by rw [q2]; exact h6) q1 q3 (by rw [hsl]; exact k2_hasslot (q4 b hb2)) rfl rfl hdg fun H' e1 e2 e3 => kk H' _ (key H' e1 e2 e3) hloc
set_option maxHeartbeats 4000000 in
set_option maxRecDepth 100000 in
theorem s_iast (fx : Fx p s m args meth c y bs nL D cI cF) (iv : Iv base Hb D cI cF H sh hp) {o n pc : Nat} {i x : Int32} {ls : Array Slot} {rest : List Value} {cs sl : Nat} (ho : sh[o]? = some (1, n)) (hin : ¬ (i < 0 ∨ n ≤ i.toNatClampNeg)) (hdg : decode bs pc = .ok (.iastore, 1)) (hl : ∀ q ∈ locs, base ≤ q.base)
    (kk : ∀ (H' : Heap) (locs' : List Loc), Iv base Hb D cI cF H' sh (setR hp.1 o (upd (hp.1 o) i.toNatClampNeg x), hp.2) → (∀ q ∈ locs', base ≤ q.base) → W p l e0 rm s m args below meth c H' locs' cs sl Q (F0 m (pc + 1) ls rest)) : W p l e0 rm s m args below meth c H locs cs sl Q (F0 m pc ls (.int x :: .int i :: .ref (base + o) :: rest)) := by
  obtain ⟨hx, hb, hml, hown, hts, hK, -⟩ := fx
  have hcell := cell_int (iv.2.2.2.1 o (sh_lt ho)) ho
  refine W.iast hx hb hcell ((hK.2 0 _ rfl).1 n _) (fun q => by cases q) (by show ¬ (i < 0 ∨ (arrV _ _ _).slots.size ≤ _); rw [arrV_size]; exact hin) rfl rfl hdg fun H1 e z oq => ?_
  refine kk H1 _ (iv.put (sh_lt ho) iv.2.2.1 ?_ (fun j hj => setR_ne _ _ hj) (fun _ _ => rfl) z oq) (app_in hl (Nat.le_add_right _ _))
  unfold cellI
  rw [ho]
  show H1[base + o]? = some _
  rw [e, arrV_store]
  congr 2
  funext q
  show _ = Value.int (setR hp.1 o _ o q)
  rw [setR_eq]
  by_cases hq : q = i.toNatClampNeg
  · subst hq
    simp [updV, upd]
  · simp [updV, upd, hq]
set_option maxHeartbeats 4000000 in
set_option maxRecDepth 100000 in
theorem s_aast (fx : Fx p s m args meth c y bs nL D cI cF) (iv : Iv base Hb D cI cF H sh hp) {o n pc q : Nat} {i : Int32} {ls : Array Slot} {rest : List Value} {cs sl : Nat} (ho : sh[o]? = some (2, n)) (hq0 : sh[q]? = some (0, 0)) (hqS : ¬ q = SCR) (hin : ¬ (i < 0 ∨ n ≤ i.toNatClampNeg)) (hdg : decode bs pc = .ok (.aastore, 1)) (hl : ∀ q ∈ locs, base ≤ q.base)
    (kk : ∀ (H' : Heap) (locs' : List Loc), Iv base Hb D cI cF H' sh (hp.1, setR hp.2 o (va_up (hp.2 o) i.toNatClampNeg (some q))) → (∀ q ∈ locs', base ≤ q.base) → W p l e0 rm s m args below meth c H' locs' cs sl Q (F0 m (pc + 1) ls rest)) : W p l e0 rm s m args below meth c H locs cs sl Q (F0 m pc ls (.ref (base + q) :: .int i :: .ref (base + o) :: rest)) := by
  obtain ⟨hx, hb, hml, hown, hts, hK, -⟩ := fx
  have hcell := cell_ref (iv.2.2.2.1 o (sh_lt ho)) ho
  have hr0 : vwCl[0]? = some (RX0, TX0, 9) := rfl
  obtain ⟨cellV, g1, g2, g3, -⟩ := cell_obj (iv.2.2.2.1 q (sh_lt hq0)) hq0 hr0
  have hcls := (hK.1 0 _ hr0).2
  obtain ⟨kA, comp, k1, k2, k3, -⟩ := (hK.2 1 _ rfl).2
  have hcomp : comp = D.1 0 := Option.some.inj (k3.symm.trans hcls.1)
  subst hcomp
  obtain ⟨kC, hkC, -⟩ := hcls.2
  have hlt : i.toNatClampNeg < n := Nat.not_le.mp fun z => hin (Or.inr z)
  have h0 : ¬ i < 0 := fun z => hin (Or.inl z)
  refine W.aast hx hb hcell (fun q h => by cases h) (fun h => by cases h) k1 k2 rfl hkC ⟨h0, by show _ < (arrV _ _ _).slots.size; rw [arrV_size]; exact hlt⟩ g1 (fun q h => by rw [g3] at h; cases h) (by rw [g2]; exact hkC) (by rw [g2]; exact va_assign hcls) rfl rfl hdg fun H1 e z oq => ?_
  refine kk H1 _ (iv.put (sh_lt ho) (noS_setR iv.2.2.1 (noS_up iv.2.2.1 hqS) _) ?_ (fun _ _ => rfl) (fun j hj => setR_ne _ _ hj) z oq) (app_in hl (Nat.le_add_right _ _))
  unfold cellI
  rw [ho]
  show H1[base + o]? = some _
  rw [e, arrV_store]
  congr 2
  funext j
  show _ = trv base (setR hp.2 o _ o j)
  rw [setR_eq]
  by_cases hq : j = i.toNatClampNeg
  · subst hq
    simp [updV, va_up, trv, va_rf]
  · simp [updV, va_up, hq]
set_option maxHeartbeats 4000000 in
set_option maxRecDepth 100000 in
theorem s_new (hcl : ClOK) (fx : Fx p s m args meth c y bs nL D cI cF) (iv : Iv base Hb D cI cF H sh hp) {a idx pc : Nat} {ls : Array Slot} {rest : List Value} {cs sl : Nat} (hk : NewOK y.cls idx a) (hlt : sh.length < SCR) (h1 : cs + 1 ≤ rm.cells) (h2 : sl + (clk.getD a []).length ≤ rm.slots) (hdg : decode bs pc = .ok (.new idx, 3))
    (kk : ∀ (H' : Heap), Iv base Hb D cI cF H' (sh ++ [(0, a)]) (setR hp.1 sh.length (fun _ => 0), setR hp.2 sh.length (fun _ => none)) → W p l e0 rm s m args below meth c H' locs (cs + 1) (sl + (clk.getD a []).length) Q (F0 m (pc + 3) ls (.ref (base + sh.length) :: rest))) : W p l e0 rm s m args below meth c H locs cs sl Q (F0 m pc ls rest) := by
  obtain ⟨hx, hb, hml, hown, hts, hK, -⟩ := fx
  obtain ⟨C, T, N, hc, hlk, hin, hit⟩ := hk
  obtain ⟨hws, hnm, hlen, ty, hty, htk⟩ := hcl _ _ _ _ hc
  have hKn := hK.1 a _ hc
  rw [hlen] at h2 kk
  refine W.newcK hx hb hown (hts _ hlk) (hts _ hin) (hts _ hit) rfl hdg h1 h2 hKn.2.1 iv.1 fun H1 kC hkC e1 z1 o1 => ?_
  refine kk H1 (iv.push hlt (noS_setR iv.2.2.1 (fun _ z => by cases z) _) ?_ (fun j hj => setR_ne _ _ hj) (fun j hj => setR_ne _ _ hj) (by rw [z1, iv.1]) (fun q hq => o1 q (by rw [← iv.1]; exact hq)))
  unfold cellI
  rw [List.getElem?_concat_length]
  refine ⟨_, hc, (u_born ty hts hws hKn hkC e1 hty).to fun k hkN => ?_⟩
  rcases htk k hkN with ⟨k1, k2⟩ | ⟨k1, k2⟩ | ⟨k1, k2⟩
  · rw [k2]; simp [fvl, k1, setR, defaultValue]
  · rw [k2]; simp [fvl, k1, setR, defaultValue]
  · rcases k2 with ⟨n, k2⟩ | ⟨t, k2⟩ <;> (rw [k2]; simp [fvl, k1, setR, defaultValue, trv, va_rf])
set_option maxHeartbeats 4000000 in
set_option maxRecDepth 100000 in
theorem s_newa (hgl : GlOK) (fx : Fx p s m args meth c y bs nL D cI cF) (iv : Iv base Hb D cI cF H sh hp) {pc : Nat} {n : Int32} {ls : Array Slot} {rest : List Value} {cs sl : Nat} (hn : ¬ n < 0) (hn2 : n.toNatClampNeg ≤ 100000) (hlt : sh.length < SCR) (h1 : cs + 1 ≤ rm.cells) (h2 : sl + n.toNatClampNeg ≤ rm.slots) (hdg : decode bs pc = .ok (.newarray .int, 2))
    (kk : ∀ (H' : Heap), Iv base Hb D cI cF H' (sh ++ [(1, n.toNatClampNeg)]) (setR hp.1 sh.length (fun _ => 0), hp.2) → W p l e0 rm s m args below meth c H' locs (cs + 1) (sl + n.toNatClampNeg) Q (F0 m (pc + 2) ls (.ref (base + sh.length) :: rest))) : W p l e0 rm s m args below meth c H locs cs sl Q (F0 m pc ls (.int n :: rest)) := by
  obtain ⟨hx, hb, hml, hown, hts, hK, -⟩ := fx
  refine va_newaK hx hb (atype := .int) (hts _ hgl.1) rfl hdg rfl hn rfl (by show n.toNatClampNeg * 4 ≤ 536870912; omega) h1 h2 iv.1 fun H1 cA e1 z1 o1 hAr hNm => ?_
  have hcA : cA = cI := Option.some.inj (hNm.symm.trans (hK.2 0 _ rfl).2)
  subst hcA
  refine kk H1 (iv.push hlt iv.2.2.1 ?_ (fun j hj => setR_ne _ _ hj) (fun _ _ => rfl) (by rw [z1, iv.1]) (fun q hq => o1 q (by rw [← iv.1]; exact hq)))
  unfold cellI
  rw [List.getElem?_concat_length]
  show H1[base + sh.length]? = some _
  rw [e1]
  congr 2
  funext j
  show _ = Value.int (setR hp.1 sh.length _ sh.length j)
  rw [setR_eq]
  rfl
set_option maxHeartbeats 4000000 in
set_option maxRecDepth 100000 in
theorem s_newr (hgl : GlOK) (fx : Fx p s m args meth c y bs nL D cI cF) (iv : Iv base Hb D cI cF H sh hp) {idx pc : Nat} {n : Int32} {ls : Array Slot} {rest : List Value} {cs sl : Nat} (hk : Cond.classLink y.cls idx RX0 ∈ tbG) (hn : ¬ n < 0) (hn2 : n.toNatClampNeg ≤ 100000) (hlt : sh.length < SCR) (h1 : cs + 1 ≤ rm.cells) (h2 : sl + n.toNatClampNeg ≤ rm.slots) (hdg : decode bs pc = .ok (.anewarray idx, 3))
    (kk : ∀ (H' : Heap), Iv base Hb D cI cF H' (sh ++ [(2, n.toNatClampNeg)]) (hp.1, setR hp.2 sh.length (fun _ => none)) → W p l e0 rm s m args below meth c H' locs (cs + 1) (sl + n.toNatClampNeg) Q (F0 m (pc + 3) ls (.ref (base + sh.length) :: rest))) : W p l e0 rm s m args below meth c H locs cs sl Q (F0 m pc ls (.int n :: rest)) := by
  obtain ⟨hx, hb, hml, hown, hts, hK, -, -, hAO⟩ := fx
  refine W.anew hx hb hown (hts _ hk) (va_AO.use hAO) rfl hdg rfl hn (by omega) h1 h2 fun cA kA comp f1 f2 f3 f4 => ?_
  have hcA : cA = cF := by
    obtain ⟨_, _, -, -, -, k4⟩ := (hK.2 1 _ rfl).2
    exact Option.some.inj (f1.symm.trans k4)
  subst hcA
  have hsz := iv.1
  rw [hsz]
  refine kk _ (iv.push hlt (noS_setR iv.2.2.1 (fun _ z => by cases z) _) ?_ (fun _ _ => rfl) (fun j hj => setR_ne _ _ hj) (by simp) (fun q hq => by rw [Array.getElem?_push, if_neg (Nat.ne_of_lt hq)]))
  unfold cellI
  rw [List.getElem?_concat_length]
  show (H.push _)[base + sh.length]? = some _
  rw [← hsz, Array.getElem?_push_size, arrV_new]
  congr 2
  funext j
  show _ = trv base (setR hp.2 sh.length _ sh.length j)
  rw [setR_eq]
  rfl
end PRIM
end
section
section PRIM2
variable {p : Program} {l : Launch} {e0 : Env} {rm : Room} {s : State} {m : MethodId} {args : Array Value} {below : List Frame} {meth : Method} {c : Code} {H : Heap} {locs : List Loc} {Q : State → Prop}
variable {sh : SH} {hp : HP} {base sb : Nat} {Hb : Heap} {D : va_G} {cI cF : ClassId} {ms : List ME} {y : MethodName} {bs : ByteArray} {nL : Nat} {code : List EI}
theorem nn_int {z : Int32} (hz : ¬ z < 0) : z.toInt = (z.toNatClampNeg : Int) := by
  have hz0 : (0 : Int) ≤ z.toInt := by
    have := Int32.not_lt.mp hz
    simpa using Int32.le_iff_toInt_le.mp this
  show z.toInt = ((z.toInt.toNat : Nat) : Int)
  omega
set_option maxHeartbeats 4000000 in
set_option maxRecDepth 100000 in
theorem s_copy (hgl : GlOK) (fx : Fx p s m args meth c y bs nL D cI cF) (iv : Iv base Hb D cI cF H sh hp) {idx pc o d n0 n1 : Nat} {sp dp n : Int32} {ls : Array Slot} {rest : List Value} {cs sl : Nat} (hk : Cond.methodLink y.cls idx arraycopyName ∈ tbG) (hls : ls.size = nL) (ho : sh[o]? = some (1, n0)) (hd : sh[d]? = some (1, n1))
    (h1 : ¬ sp < 0) (h2 : ¬ dp < 0) (h3 : ¬ n < 0) (h4 : sp.toNatClampNeg + n.toNatClampNeg ≤ n0) (h5 : dp.toNatClampNeg + n.toNatClampNeg ≤ n1) (hf : 1 ≤ rm.frames) (hlo : (rest.map fun v => v.category).sum + 40 ≤ rm.locals) (hdg : decode bs pc = .ok (.invokestatic idx, 3)) (hl : ∀ q ∈ locs, base ≤ q.base)
    (kk : ∀ (H' : Heap) (locs' : List Loc), Iv base Hb D cI cF H' sh (setR hp.1 d (va_cpy (hp.1 o) (hp.1 d) sp.toNatClampNeg dp.toNatClampNeg n.toNatClampNeg), hp.2) → (∀ q ∈ locs', base ≤ q.base) → W p l e0 rm s m args below meth c H' locs' cs sl Q (F0 m (pc + 3) ls rest)) : W p l e0 rm s m args below meth c H locs cs sl Q (F0 m pc ls (.int n :: .int dp :: .ref (base + d) :: .int sp :: .ref (base + o) :: rest)) := by
  obtain ⟨hx, hb, hml, hown, hts, hK, -⟩ := fx
  intro T hT X
  have hc0 := cell_int (iv.2.2.2.1 o (sh_lt ho)) ho
  have hc1 := cell_int (iv.2.2.2.1 d (sh_lt hd)) hd
  obtain ⟨-, k0, hk0, cm0, hkk0⟩ := (hK.2 0 _ rfl).1 n0 (fun j => .int (hp.1 o j))
  obtain ⟨-, k1, hk1, cm1, hkk1⟩ := (hK.2 0 _ rfl).1 n1 (fun j => .int (hp.1 d j))
  obtain ⟨vm', X', step⟩ := X.arraycopy hx hown (hts _ hk) (hts _ hgl.2.2.2.2.1) (hts _ hgl.2.2.2.2.2.1) (hts _ hgl.2.2.2.2.2.2) (src := base + o) (dst := base + d) (cs := arrV cI n0 (fun j => .int (hp.1 o j))) (cd := arrV cI n1 (fun j => .int (hp.1 d j))) (srcPos := sp) (destPos := dp) (n := n) (by rw [hT]; exact hc0) (by rw [hT]; exact hc1)
    (fun _ h => by cases h) (fun _ h => by cases h) (fun h => by cases h) (fun h => by cases h) hk0 hk1 hkk0 hkk1 (by simp [refKind]) h1 h2 h3
    (by rw [nn_int h1, nn_int h3]; show ¬ _ > ((arrV cI n0 (fun j => .int (hp.1 o j))).slots.size : Int); rw [arrV_size]; omega)
    (by rw [nn_int h2, nn_int h3]; show ¬ _ > ((arrV cI n1 (fun j => .int (hp.1 d j))).slots.size : Int); rw [arrV_size]; omega)
    (fun vm₁ _ i hi => by
      have e : (arrV cI n0 (fun j => .int (hp.1 o j))).slots.getD (sp.toNatClampNeg + i) .null = .int (hp.1 o (sp.toNatClampNeg + i)) := by
        rw [Array.getD_eq_getD_getElem?, arrV_read _ _ (by omega)]
        rfl
      refine ⟨?_, ?_⟩
      · rw [e]
        rfl
      · rw [e]
        exact trivial)
    (g := F0 m pc ls (.int n :: .int dp :: .ref (base + d) :: .int sp :: .ref (base + o) :: rest)) rfl (by rw [hml]; exact hls) (rest := rest) rfl (by rw [hb]; exact hdg) hf (by
      show 2 * 0 + _ + _ ≤ _
      have : nativeFrameWords "java/lang/System" "arraycopy" 5 + 11 ≤ 40 := by decide +kernel
      omega)
  have e1 : copied (arrV cI n0 (fun j => .int (hp.1 o j))) (arrV cI n1 (fun j => .int (hp.1 d j))) sp dp n = arrV cI n1 (fun j => .int (va_cpy (hp.1 o) (hp.1 d) sp.toNatClampNeg dp.toNatClampNeg n.toNatClampNeg j)) := va_copied (fun z => .int z) cI cI (hp.1 o) (hp.1 d) h4
  rw [e1] at X' step
  have hlt : base + d < H.size := (Array.getElem?_eq_some_iff.mp hc1).1
  generalize hcc : arrV cI n1 (fun j => .int (va_cpy (hp.1 o) (hp.1 d) sp.toNatClampNeg dp.toNatClampNeg n.toNatClampNeg j)) = cc at X' step
  have hheap : ((T.setVm vm').setCell (base + d) cc).heap = H.setIfInBounds (base + d) cc := by rw [← hT]; rfl
  obtain ⟨t, a1, b1⟩ := kk _ _ (iv.put (H' := H.setIfInBounds (base + d) cc) (hp' := (setR hp.1 d (va_cpy (hp.1 o) (hp.1 d) sp.toNatClampNeg dp.toNatClampNeg n.toNatClampNeg), hp.2)) (sh_lt hd) iv.2.2.1 (by
      unfold cellI
      rw [hd]
      show (H.setIfInBounds (base + d) cc)[base + d]? = some _
      rw [← hcc]
      simp [Array.getElem?_setIfInBounds, hlt, setR_eq]) (fun j hj => setR_ne _ _ hj) (fun _ _ => rfl) (by simp) (fun q hq => by simp [Array.getElem?_setIfInBounds, Ne.symm hq])) (fun q hq => by
      rcases List.mem_append.mp hq with h | h
      · exact hl q h
      · obtain ⟨z, -, hz⟩ := List.mem_map.mp h
        rw [← hz]
        exact Nat.le_add_right _ _) _ hheap X'
  exact ⟨t, step t a1, b1⟩
theorem chk_pl {i : Instr} {pc j : Nat} (h : (decide (decode bs pc = .ok (i, ilen i)) && (isRet i || decide (pcAt code (j + 1) = pc + ilen i))) = true) (hr : isRet i = false) : decode bs pc = .ok (i, ilen i) ∧ pcAt code (j + 1) = pc + ilen i := by
  rw [hr] at h
  simpa using h
end PRIM2
end
section
section PRIM3
variable {p : Program} {l : Launch} {e0 : Env} {rm : Room} {s : State} {m : MethodId} {args : Array Value} {below : List Frame} {meth : Method} {c : Code} {H : Heap} {locs : List Loc} {Q : State → Prop}
variable {sh : SH} {hp : HP} {base sb : Nat} {Hb : Heap} {D : va_G} {cI cF : ClassId} {ms : List ME} {y : MethodName} {bs : ByteArray} {nL : Nat} {code : List EI}
set_option maxHeartbeats 20000000 in
set_option maxRecDepth 100000 in
theorem prim_sound (hcl : ClOK) (hgl : GlOK) (fx : Fx p s m args meth c y bs nL D cI cF) {scr : Option (Nat × (Nat → Int32))} (sx : Sx s base sb Hb scr) {e : EI} {j : Nat} {L : List (Option Value)} {st : List Value} {cs sl : Nat} {q : CF} {ls : Array Slot}
    (hex : prim rm scr e j L st cs sl sh hp = some q) (hch : chkE bs code j e = true) (hlk : LinkOK ms y e.2.1 e.2.2.1 e.2.2.2.1) (iv : Iv base Hb D cI cF H sh hp) (hl : ∀ z ∈ locs, base ≤ z.base) (hL : LsOk base sb nL ls L)
    (kk : ∀ (H' : Heap) (locs' : List Loc) (ls' : Array Slot), Iv base Hb D cI cF H' q.2.2.2.2.2.1 q.2.2.2.2.2.2 → (∀ z ∈ locs', base ≤ z.base) → LsOk base sb nL ls' q.2.1 → W p l e0 rm s m args below meth c H' locs' q.2.2.2.1 q.2.2.2.2.1 Q (F0 m (pcAt code q.1) ls' (q.2.2.1.map (tr base sb)))) :
    W p l e0 rm s m args below meth c H locs cs sl Q (F0 m e.1 ls (st.map (tr base sb))) := by
  obtain ⟨pc, ins, a, b, ts⟩ := e
  have hx := fx.1
  have hb := fx.2.1
  have hts := fx.2.2.2.2.1
  have hown := fx.2.2.2.1
  dsimp only at hlk ⊢
  cases ins
  case iload_n k =>
    obtain ⟨hd, hn⟩ := chk_pl (code := code) (j := j) hch rfl
    dsimp only [ilen] at hd hn
    simp only [prim, Option.bind_eq_some_iff] at hex
    obtain ⟨x, hx1, hex⟩ := hex
    cases hex
    refine lv_iload_n hx hb hd rfl (hL.int hx1) ?_
    rw [← hn]
    exact kk H locs ls iv hl hL
  case iload k =>
    obtain ⟨hd, hn⟩ := chk_pl (code := code) (j := j) hch rfl
    dsimp only [ilen] at hd hn
    simp only [prim, Option.bind_eq_some_iff] at hex
    obtain ⟨x, hx1, hex⟩ := hex
    cases hex
    refine lv_iload hx hb hd (hL.int hx1) ?_
    rw [← hn]
    exact kk H locs ls iv hl hL
  case aload_n k =>
    obtain ⟨hd, hn⟩ := chk_pl (code := code) (j := j) hch rfl
    dsimp only [ilen] at hd hn
    simp only [prim, Option.bind_eq_some_iff] at hex
    obtain ⟨x, hx1, hex⟩ := hex
    cases hex
    refine lv_aload_n hx hb hd rfl (hL.rf hx1) ?_
    rw [← hn]
    exact kk H locs ls iv hl hL
  case aload k =>
    obtain ⟨hd, hn⟩ := chk_pl (code := code) (j := j) hch rfl
    dsimp only [ilen] at hd hn
    simp only [prim, Option.bind_eq_some_iff] at hex
    obtain ⟨x, hx1, hex⟩ := hex
    cases hex
    refine lv_aload hx hb hd (hL.rf hx1) ?_
    rw [← hn]
    exact kk H locs ls iv hl hL
  case istore_n k =>
    obtain ⟨hd, hn⟩ := chk_pl (code := code) (j := j) hch rfl
    dsimp only [ilen] at hd hn
    simp only [prim] at hex
    split at hex
    · rename_i x r
      split at hex
      · rename_i hk
        cases hex
        refine lv_istore_n hx hb hd rfl hL.has (by rw [← hL.1]; exact hk) rfl (fun ls' hl' => ?_)
        rw [← hn]
        exact kk H locs ls' iv hl (hL.set rfl hl')
      · cases hex
    · cases hex
  case istore k =>
    obtain ⟨hd, hn⟩ := chk_pl (code := code) (j := j) hch rfl
    dsimp only [ilen] at hd hn
    simp only [prim] at hex
    split at hex
    · rename_i x r
      split at hex
      · rename_i hk
        cases hex
        refine lv_istore hx hb hd hL.has (by rw [← hL.1]; exact hk) rfl (fun ls' hl' => ?_)
        rw [← hn]
        exact kk H locs ls' iv hl (hL.set rfl hl')
      · cases hex
    · cases hex
  case astore_n k =>
    obtain ⟨hd, hn⟩ := chk_pl (code := code) (j := j) hch rfl
    dsimp only [ilen] at hd hn
    simp only [prim] at hex
    split at hex
    · rename_i x r
      split at hex
      · rename_i hk
        cases hex
        refine lv_astore_n hx hb hd rfl hL.has (by rw [← hL.1]; exact hk) rfl (fun ls' hl' => ?_)
        rw [← hn]
        exact kk H locs ls' iv hl (hL.set rfl hl')
      · cases hex
    · cases hex
  case astore k =>
    obtain ⟨hd, hn⟩ := chk_pl (code := code) (j := j) hch rfl
    dsimp only [ilen] at hd hn
    simp only [prim] at hex
    split at hex
    · rename_i x r
      split at hex
      · rename_i hk
        cases hex
        refine lv_astore hx hb hd hL.has (by rw [← hL.1]; exact hk) rfl (fun ls' hl' => ?_)
        rw [← hn]
        exact kk H locs ls' iv hl (hL.set rfl hl')
      · cases hex
    · cases hex
  case iconst n =>
    obtain ⟨hd, hn⟩ := chk_pl (code := code) (j := j) hch rfl
    dsimp only [ilen] at hd hn
    simp only [prim] at hex
    cases hex
    refine lv_iconst hx hb hd rfl ?_
    rw [← hn]
    exact kk H locs ls iv hl hL
  case bipush n =>
    obtain ⟨hd, hn⟩ := chk_pl (code := code) (j := j) hch rfl
    dsimp only [ilen] at hd hn
    simp only [prim] at hex
    cases hex
    refine lv_bipush hx hb hd rfl ?_
    rw [← hn]
    exact kk H locs ls iv hl hL
  case sipush n =>
    obtain ⟨hd, hn⟩ := chk_pl (code := code) (j := j) hch rfl
    dsimp only [ilen] at hd hn
    simp only [prim] at hex
    cases hex
    refine lv_sipush hx hb hd rfl ?_
    rw [← hn]
    exact kk H locs ls iv hl hL
  case ldc n =>
    obtain ⟨hd, hn⟩ := chk_pl (code := code) (j := j) hch rfl
    dsimp only [ilen] at hd hn
    simp only [prim] at hex
    cases hex
    refine lv_ldc hx hb hown (hts _ hlk) hd ?_
    rw [← hn]
    exact kk H locs ls iv hl hL
  case ldc_w n =>
    obtain ⟨hd, hn⟩ := chk_pl (code := code) (j := j) hch rfl
    dsimp only [ilen] at hd hn
    simp only [prim] at hex
    cases hex
    refine lv_ldcw hx hb hown (hts _ hlk) hd ?_
    rw [← hn]
    exact kk H locs ls iv hl hL
  case iinc k n =>
    obtain ⟨hd, hn⟩ := chk_pl (code := code) (j := j) hch rfl
    dsimp only [ilen] at hd hn
    simp only [prim, Option.bind_eq_some_iff] at hex
    obtain ⟨x, hx1, hex⟩ := hex
    split at hex
    · rename_i hk
      cases hex
      have hv : L[k]? = some (some (.int x)) := by
        unfold locI at hx1
        split at hx1
        · rename_i z hz
          cases hx1
          exact hz
        · cases hx1
      obtain ⟨i, hi⟩ := List.getElem?_of_mem (lvOf_mem (base := base) (sb := sb) hv)
      refine lv_iinc hx hb hd hL.has hi rfl (by rw [← hL.1]; exact hk) rfl (fun ls' hl' => ?_)
      rw [← hn]
      exact kk H locs ls' iv hl (hL.set rfl hl')
    · cases hex
  case iadd =>
    obtain ⟨hd, hn⟩ := chk_pl (code := code) (j := j) hch rfl
    dsimp only [ilen] at hd hn
    simp only [prim] at hex
    split at hex
    · cases hex
      refine lv_iadd hx hb hd ?_
      rw [← hn]
      exact kk H locs ls iv hl hL
    · cases hex
  case isub =>
    obtain ⟨hd, hn⟩ := chk_pl (code := code) (j := j) hch rfl
    dsimp only [ilen] at hd hn
    simp only [prim] at hex
    split at hex
    · cases hex
      refine lv_isub hx hb hd ?_
      rw [← hn]
      exact kk H locs ls iv hl hL
    · cases hex
  case imul =>
    obtain ⟨hd, hn⟩ := chk_pl (code := code) (j := j) hch rfl
    dsimp only [ilen] at hd hn
    simp only [prim] at hex
    split at hex
    · cases hex
      refine lv_imul hx hb hd ?_
      rw [← hn]
      exact kk H locs ls iv hl hL
    · cases hex
  case iand =>
    obtain ⟨hd, hn⟩ := chk_pl (code := code) (j := j) hch rfl
    dsimp only [ilen] at hd hn
    simp only [prim] at hex
    split at hex
    · cases hex
      refine lv_iand hx hb hd ?_
      rw [← hn]
      exact kk H locs ls iv hl hL
    · cases hex
  case ior =>
    obtain ⟨hd, hn⟩ := chk_pl (code := code) (j := j) hch rfl
    dsimp only [ilen] at hd hn
    simp only [prim] at hex
    split at hex
    · cases hex
      refine lv_ior hx hb hd ?_
      rw [← hn]
      exact kk H locs ls iv hl hL
    · cases hex
  case ixor =>
    obtain ⟨hd, hn⟩ := chk_pl (code := code) (j := j) hch rfl
    dsimp only [ilen] at hd hn
    simp only [prim] at hex
    split at hex
    · cases hex
      refine lv_ixor hx hb hd ?_
      rw [← hn]
      exact kk H locs ls iv hl hL
    · cases hex
  case ishl =>
    obtain ⟨hd, hn⟩ := chk_pl (code := code) (j := j) hch rfl
    dsimp only [ilen] at hd hn
    simp only [prim] at hex
    split at hex
    · cases hex
      refine lv_ishl hx hb hd ?_
      rw [← hn]
      exact kk H locs ls iv hl hL
    · cases hex
  case ishr =>
    obtain ⟨hd, hn⟩ := chk_pl (code := code) (j := j) hch rfl
    dsimp only [ilen] at hd hn
    simp only [prim] at hex
    split at hex
    · cases hex
      refine lv_ishr hx hb hd ?_
      rw [← hn]
      exact kk H locs ls iv hl hL
    · cases hex
  case iushr =>
    obtain ⟨hd, hn⟩ := chk_pl (code := code) (j := j) hch rfl
    dsimp only [ilen] at hd hn
    simp only [prim] at hex
    split at hex
    · cases hex
      refine lv_iushr hx hb hd rfl ?_
      rw [← hn]
      exact kk H locs ls iv hl hL
    · cases hex
  case ineg =>
    obtain ⟨hd, hn⟩ := chk_pl (code := code) (j := j) hch rfl
    dsimp only [ilen] at hd hn
    simp only [prim] at hex
    split at hex
    · cases hex
      refine lv_ineg hx hb hd ?_
      rw [← hn]
      exact kk H locs ls iv hl hL
    · cases hex
  case idiv =>
    obtain ⟨hd, hn⟩ := chk_pl (code := code) (j := j) hch rfl
    dsimp only [ilen] at hd hn
    simp only [prim] at hex
    split at hex
    · split at hex
      · cases hex
      · rename_i hne
        cases hex
        refine lv_idiv hx hb hd hne ?_
        rw [← hn]
        exact kk H locs ls iv hl hL
    · cases hex
  case irem =>
    obtain ⟨hd, hn⟩ := chk_pl (code := code) (j := j) hch rfl
    dsimp only [ilen] at hd hn
    simp only [prim] at hex
    split at hex
    · split at hex
      · cases hex
      · rename_i hne
        cases hex
        refine lv_irem hx hb hd hne ?_
        rw [← hn]
        exact kk H locs ls iv hl hL
    · cases hex
  case dup =>
    obtain ⟨hd, hn⟩ := chk_pl (code := code) (j := j) hch rfl
    dsimp only [ilen] at hd hn
    simp only [prim] at hex
    split at hex
    · cases hex
      refine lv_dup hx hb hd rfl ?_
      rw [← hn]
      exact kk H locs ls iv hl hL
    · cases hex
      refine lv_dup hx hb hd rfl ?_
      rw [← hn]
      exact kk H locs ls iv hl hL
    · cases hex
  case dup2 =>
    obtain ⟨hd, hn⟩ := chk_pl (code := code) (j := j) hch rfl
    dsimp only [ilen] at hd hn
    simp only [prim] at hex
    split at hex
    · cases hex
      refine lv_dup2_11 hx hb hd rfl rfl ?_
      rw [← hn]
      exact kk H locs ls iv hl hL
    · cases hex
  case pop =>
    obtain ⟨hd, hn⟩ := chk_pl (code := code) (j := j) hch rfl
    dsimp only [ilen] at hd hn
    simp only [prim] at hex
    split at hex
    · cases hex
      refine lv_pop hx hb hd rfl ?_
      rw [← hn]
      exact kk H locs ls iv hl hL
    · cases hex
      refine lv_pop hx hb hd rfl ?_
      rw [← hn]
      exact kk H locs ls iv hl hL
    · cases hex
  case goto off =>
    simp only [chkE, Bool.and_eq_true, decide_eq_true_eq] at hch
    obtain ⟨hd, ht⟩ := hch
    simp only [prim] at hex
    cases hex
    exact lv_goto hx hb hd ht (kk H locs ls iv hl hL)
  case ifCond cnd0 off =>
    simp only [chkE, Bool.and_eq_true, decide_eq_true_eq] at hch
    obtain ⟨⟨hd, ht⟩, hn⟩ := hch
    simp only [prim] at hex
    split at hex
    · cases hex
      cases cnd0
      case eq =>
        refine lv_if_eq hx hb hd ht (fun hc => ?_) (fun hc => ?_)
        · have k := kk H locs ls iv hl hL
          simp only [cnd, hc, decide_true, if_true, not_true_eq_false, not_false_eq_true] at k
          exact k
        · have k := kk H locs ls iv hl hL
          simp only [cnd, hc, decide_false, Bool.false_eq_true, if_false, not_true_eq_false, not_false_eq_true, hn] at k
          exact k
      case ne =>
        refine lv_if_ne hx hb hd ht (fun hc => ?_) (fun hc => ?_)
        · have k := kk H locs ls iv hl hL
          simp only [cnd, hc, decide_true, if_true, not_true_eq_false, not_false_eq_true] at k
          exact k
        · have k := kk H locs ls iv hl hL
          simp only [cnd, hc, decide_false, Bool.false_eq_true, if_false, not_true_eq_false, not_false_eq_true, hn] at k
          exact k
      case lt =>
        refine lv_if_lt hx hb hd ht (fun hc => ?_) (fun hc => ?_)
        · have k := kk H locs ls iv hl hL
          simp only [cnd, hc, decide_true, if_true, not_true_eq_false, not_false_eq_true] at k
          exact k
        · have k := kk H locs ls iv hl hL
          simp only [cnd, hc, decide_false, Bool.false_eq_true, if_false, not_true_eq_false, not_false_eq_true, hn] at k
          exact k
      case ge =>
        refine lv_if_ge hx hb hd ht (fun hc => ?_) (fun hc => ?_)
        · have k := kk H locs ls iv hl hL
          simp only [cnd, hc, decide_true, if_true, not_true_eq_false, not_false_eq_true] at k
          exact k
        · have k := kk H locs ls iv hl hL
          simp only [cnd, hc, decide_false, Bool.false_eq_true, if_false, not_true_eq_false, not_false_eq_true, hn] at k
          exact k
      case gt =>
        refine lv_if_gt hx hb hd ht (fun hc => ?_) (fun hc => ?_)
        · have k := kk H locs ls iv hl hL
          simp only [cnd, hc, decide_true, if_true, not_true_eq_false, not_false_eq_true] at k
          exact k
        · have k := kk H locs ls iv hl hL
          simp only [cnd, hc, decide_false, Bool.false_eq_true, if_false, not_true_eq_false, not_false_eq_true, hn] at k
          exact k
      case le =>
        refine lv_if_le hx hb hd ht (fun hc => ?_) (fun hc => ?_)
        · have k := kk H locs ls iv hl hL
          simp only [cnd, hc, decide_true, if_true, not_true_eq_false, not_false_eq_true] at k
          exact k
        · have k := kk H locs ls iv hl hL
          simp only [cnd, hc, decide_false, Bool.false_eq_true, if_false, not_true_eq_false, not_false_eq_true, hn] at k
          exact k
    · cases hex
  case if_icmp cnd0 off =>
    simp only [chkE, Bool.and_eq_true, decide_eq_true_eq] at hch
    obtain ⟨⟨hd, ht⟩, hn⟩ := hch
    simp only [prim] at hex
    split at hex
    · cases hex
      cases cnd0
      case eq =>
        refine lv_icmp_eq hx hb hd ht (fun hc => ?_) (fun hc => ?_)
        · have k := kk H locs ls iv hl hL
          simp only [cnd, hc, decide_true, if_true, not_true_eq_false, not_false_eq_true] at k
          exact k
        · have k := kk H locs ls iv hl hL
          simp only [cnd, hc, decide_false, Bool.false_eq_true, if_false, not_true_eq_false, not_false_eq_true, hn] at k
          exact k
      case ne =>
        refine lv_icmp_ne hx hb hd ht (fun hc => ?_) (fun hc => ?_)
        · have k := kk H locs ls iv hl hL
          simp only [cnd, hc, decide_true, if_true, not_true_eq_false, not_false_eq_true] at k
          exact k
        · have k := kk H locs ls iv hl hL
          simp only [cnd, hc, decide_false, Bool.false_eq_true, if_false, not_true_eq_false, not_false_eq_true, hn] at k
          exact k
      case lt =>
        refine lv_icmp_lt hx hb hd ht (fun hc => ?_) (fun hc => ?_)
        · have k := kk H locs ls iv hl hL
          simp only [cnd, hc, decide_true, if_true, not_true_eq_false, not_false_eq_true] at k
          exact k
        · have k := kk H locs ls iv hl hL
          simp only [cnd, hc, decide_false, Bool.false_eq_true, if_false, not_true_eq_false, not_false_eq_true, hn] at k
          exact k
      case ge =>
        refine lv_icmp_ge hx hb hd ht (fun hc => ?_) (fun hc => ?_)
        · have k := kk H locs ls iv hl hL
          simp only [cnd, hc, decide_true, if_true, not_true_eq_false, not_false_eq_true] at k
          exact k
        · have k := kk H locs ls iv hl hL
          simp only [cnd, hc, decide_false, Bool.false_eq_true, if_false, not_true_eq_false, not_false_eq_true, hn] at k
          exact k
      case gt =>
        refine lv_icmp_gt hx hb hd ht (fun hc => ?_) (fun hc => ?_)
        · have k := kk H locs ls iv hl hL
          simp only [cnd, hc, decide_true, if_true, not_true_eq_false, not_false_eq_true] at k
          exact k
        · have k := kk H locs ls iv hl hL
          simp only [cnd, hc, decide_false, Bool.false_eq_true, if_false, not_true_eq_false, not_false_eq_true, hn] at k
          exact k
      case le =>
        refine lv_icmp_le hx hb hd ht (fun hc => ?_) (fun hc => ?_)
        · have k := kk H locs ls iv hl hL
          simp only [cnd, hc, decide_true, if_true, not_true_eq_false, not_false_eq_true] at k
          exact k
        · have k := kk H locs ls iv hl hL
          simp only [cnd, hc, decide_false, Bool.false_eq_true, if_false, not_true_eq_false, not_false_eq_true, hn] at k
          exact k
    · cases hex
  case tableswitch d lo hi offs =>
    simp only [chkE, Bool.and_eq_true, decide_eq_true_eq] at hch
    obtain ⟨⟨hd0, hlo, hsz⟩, ht⟩ := hch
    have hd : ∃ len, decode bs pc = .ok (.tableswitch d lo hi offs, len) := by
      split at hd0
      · rename_i z hz
        exact ⟨z.2, by rw [hz]; rw [← of_decide_eq_true hd0]⟩
      · cases hd0
    obtain ⟨len, hd⟩ := hd
    simp only [prim] at hex
    split at hex
    · rename_i x r
      simp only [Option.bind_eq_some_iff] at hex
      obtain ⟨t, ht1, hex⟩ := hex
      cases hex
      unfold switchTo at ht1
      have hat : ∀ (k t : Nat), ts[k]? = some t → (d :: offs.toList)[k]?.map (fun o => (pc : Int) + o) = some (pcAt code t : Int) := by
        intro k t h
        have := congrArg (fun z => z[k]?) ht
        simp only [List.getElem?_map] at this
        rw [this, h]
        rfl
      split at ht1
      · rename_i hout
        have := hat _ _ ht1
        simp only [List.getElem?_cons_zero, Option.map_some, Option.some.injEq] at this
        exact lv_tableOut hx hb hd hout this (kk H locs ls iv hl hL)
      · rename_i hin
        have h2 := hat _ _ ht1
        rw [List.getElem?_cons_succ] at h2
        simp only [Option.map_eq_some_iff] at h2
        obtain ⟨off, ho, h3⟩ := h2
        exact lv_tableIn hx hb hd (fun z => hin (Or.inl z)) (fun z => hin (Or.inr z)) (by rw [← Array.getElem?_toList]; exact ho) h3 (kk H locs ls iv hl hL)
    · cases hex
  case lookupswitch d ps =>
    simp only [chkE, Bool.and_eq_true, decide_eq_true_eq] at hch
    obtain ⟨⟨hd0, hso⟩, ht⟩ := hch
    have hd : ∃ len, decode bs pc = .ok (.lookupswitch d ps, len) := by
      split at hd0
      · rename_i z hz
        exact ⟨z.2, by rw [hz]; rw [← of_decide_eq_true hd0]⟩
      · cases hd0
    obtain ⟨len, hd⟩ := hd
    simp only [prim] at hex
    split at hex
    · rename_i x r
      simp only [Option.bind_eq_some_iff] at hex
      obtain ⟨t, ht1, hex⟩ := hex
      cases hex
      exact lv_lookup hx hb hd hso rfl (lk_to ht ht1) (kk H locs ls iv hl hL)
    · cases hex
  case getfield idx =>
    obtain ⟨hd, hn⟩ := chk_pl (code := code) (j := j) hch rfl
    dsimp only [ilen] at hd hn
    simp only [prim] at hex
    split at hex
    · rename_i o r
      split at hex
      · rename_i ho
        cases hex
        show W p l e0 rm s m args below meth c H locs cs sl Q (F0 m pc ls (tr base sb (.ref o) :: r.map (tr base sb)))
        rw [tr_ref ho.2]
        refine s_get hcl fx iv ho.1 hlk hd ?_
        rw [← hn, ← tr_fval (sb := sb) iv.2.2.1]
        exact kk H locs ls iv hl hL
      · cases hex
    · cases hex
  case putfield idx =>
    obtain ⟨hd, hn⟩ := chk_pl (code := code) (j := j) hch rfl
    dsimp only [ilen] at hd hn
    simp only [prim] at hex
    split at hex
    · rename_i v o r
      split at hex
      · rename_i ho
        cases hex
        show W p l e0 rm s m args below meth c H locs cs sl Q (F0 m pc ls (.int v :: tr base sb (.ref o) :: r.map (tr base sb)))
        rw [tr_ref ho.1.2]
        refine s_put (hp' := (setR hp.1 o (upd (hp.1 o) b v), hp.2)) hcl fx iv ho.1.1 hlk.1 hlk.2 hd ?_ hl iv.2.2.1 (fun i hi => setR_ne _ _ hi) (fun _ _ => rfl) ?_ (fun H' locs' iv' hl' => ?_)
        · rcases ho.2 with h | ⟨h, rfl | rfl⟩
          · exact Or.inl ⟨h, v, rfl⟩
          · exact Or.inr (Or.inl ⟨h, Or.inl rfl⟩)
          · exact Or.inr (Or.inl ⟨h, Or.inr rfl⟩)
        · intro k
          simp only [fvl, setR_eq, updV, upd]
          by_cases hkb : k = b
          · subst hkb
            rw [if_neg (by rcases ho.2 with h | ⟨h, -⟩ <;> omega)]
            simp
          · simp [hkb]
        · rw [← hn]
          exact kk H' locs' ls iv' hl' hL
      · cases hex
    · rename_i v o r
      split at hex
      · rename_i ho
        cases hex
        show W p l e0 rm s m args below meth c H locs cs sl Q (F0 m pc ls (tr base sb (.ref v) :: tr base sb (.ref o) :: r.map (tr base sb)))
        rw [tr_ref ho.1.2, tr_ref ho.2.2]
        refine s_put (hp' := (hp.1, setR hp.2 o (va_up (hp.2 o) b (some v)))) hcl fx iv ho.1.1 hlk.1 hlk.2 hd ?_ hl (noS_setR iv.2.2.1 (noS_up iv.2.2.1 ho.2.2) _) (fun _ _ => rfl) (fun i hi => setR_ne _ _ hi) ?_ (fun H' locs' iv' hl' => ?_)
        · exact Or.inr (Or.inr ⟨ho.2.1, _, rfl⟩)
        · intro k
          simp only [fvl, setR_eq, updV, va_up]
          by_cases hkb : k = b
          · subst hkb
            simp [ho.2.1, trv, va_rf]
          · simp [hkb]
        · rw [← hn]
          exact kk H' locs' ls iv' hl' hL
      · cases hex
    · cases hex
  case new idx =>
    obtain ⟨hd, hn⟩ := chk_pl (code := code) (j := j) hch rfl
    dsimp only [ilen] at hd hn
    simp only [prim] at hex
    split at hex
    · rename_i hc
      cases hex
      refine s_new hcl fx iv hlk hc.2.2 hc.1 hc.2.1 hd (fun H' iv' => ?_)
      rw [← hn, ← tr_ref (sb := sb) (Nat.ne_of_lt hc.2.2)]
      exact kk H' locs ls iv' hl hL
    · cases hex
  case newarray aty =>
    obtain ⟨hd, hn⟩ := chk_pl (code := code) (j := j) hch rfl
    dsimp only [ilen] at hd hn
    simp only [prim] at hex
    have haty : aty = .int := hlk
    subst haty
    split at hex
    · split at hex
      · rename_i hc
        cases hex
        refine s_newa hgl fx iv hc.1 hc.2.1 hc.2.2.2.2 hc.2.2.1 hc.2.2.2.1 hd (fun H' iv' => ?_)
        rw [← hn, ← tr_ref (sb := sb) (Nat.ne_of_lt hc.2.2.2.2)]
        exact kk H' locs ls iv' hl hL
      · cases hex
    · cases hex
  case anewarray idx =>
    obtain ⟨hd, hn⟩ := chk_pl (code := code) (j := j) hch rfl
    dsimp only [ilen] at hd hn
    simp only [prim] at hex
    split at hex
    · split at hex
      · rename_i hc
        cases hex
        refine s_newr hgl fx iv hlk hc.1 hc.2.1 hc.2.2.2.2 hc.2.2.1 hc.2.2.2.1 hd (fun H' iv' => ?_)
        rw [← hn, ← tr_ref (sb := sb) (Nat.ne_of_lt hc.2.2.2.2)]
        exact kk H' locs ls iv' hl hL
      · cases hex
    · cases hex
  case iaload =>
    obtain ⟨hd, hn⟩ := chk_pl (code := code) (j := j) hch rfl
    dsimp only [ilen] at hd hn
    simp only [prim] at hex
    split at hex
    · rename_i i o r
      show W p l e0 rm s m args below meth c H locs cs sl Q (F0 m pc ls (.int i :: tr base sb (.ref o) :: r.map (tr base sb)))
      split at hex
      · rename_i hoS
        simp only [Option.bind_eq_some_iff] at hex
        obtain ⟨z, hz, hex⟩ := hex
        split at hex
        · rename_i hin
          cases hex
          obtain ⟨⟨scell, h1, h2, h3, h4, h5⟩, hsb⟩ := sx _ hz
          rw [show tr base sb (.ref o) = .ref sb from by rw [hoS]; simp [tr]]
          refine W.iald (v := .int (z.2 i.toNatClampNeg)) hx hb (by rw [iv.2.2.2.2 _ hsb]; exact h1) h2 h3 (by rw [h4]; exact hin) (h5 _ (Nat.not_le.mp fun w => hin (Or.inr w))) rfl rfl hd ?_
          have k := kk H locs ls iv hl hL
          rw [hn] at k
          exact k
        · cases hex
      · rename_i hoS
        split at hex
        · rename_i n ho
          split at hex
          · rename_i hin
            cases hex
            rw [tr_ref hoS]
            refine W.iald (v := .int (hp.1 o i.toNatClampNeg)) hx hb (cell_int (iv.2.2.2.1 o (sh_lt ho)) ho) ((fx.2.2.2.2.2.1.2 0 _ rfl).1 n _) (fun w => by cases w) (by show ¬ (i < 0 ∨ (arrV _ _ _).slots.size ≤ _); rw [arrV_size]; exact hin) (by show (arrV _ _ _).slots[_]? = _; rw [arrV_read _ _ (Nat.not_le.mp fun w => hin (Or.inr w))]) rfl rfl hd ?_
            have k := kk H locs ls iv hl hL
            rw [hn] at k
            exact k
          · cases hex
        · cases hex
    · cases hex
  case iastore =>
    obtain ⟨hd, hn⟩ := chk_pl (code := code) (j := j) hch rfl
    dsimp only [ilen] at hd hn
    simp only [prim] at hex
    split at hex
    · rename_i x i o r
      split at hex
      · cases hex
      · rename_i hoS
        split at hex
        · rename_i n ho
          split at hex
          · rename_i hin
            cases hex
            show W p l e0 rm s m args below meth c H locs cs sl Q (F0 m pc ls (.int x :: .int i :: tr base sb (.ref o) :: r.map (tr base sb)))
            rw [tr_ref hoS]
            refine s_iast fx iv ho hin hd hl (fun H' locs' iv' hl' => ?_)
            rw [← hn]
            exact kk H' locs' ls iv' hl' hL
          · cases hex
        · cases hex
    · cases hex
  case aaload =>
    obtain ⟨hd, hn⟩ := chk_pl (code := code) (j := j) hch rfl
    dsimp only [ilen] at hd hn
    simp only [prim] at hex
    split at hex
    · rename_i i o r
      split at hex
      · cases hex
      · rename_i hoS
        split at hex
        · rename_i n ho
          split at hex
          · rename_i hin
            cases hex
            show W p l e0 rm s m args below meth c H locs cs sl Q (F0 m pc ls (.int i :: tr base sb (.ref o) :: r.map (tr base sb)))
            rw [tr_ref hoS]
            refine W.aald (v := trv base (hp.2 o i.toNatClampNeg)) (ty := .object RX0) hx hb (cell_ref (iv.2.2.2.1 o (sh_lt ho)) ho) ((fx.2.2.2.2.2.1.2 1 _ rfl).1 n _) rfl (fun w => by cases w) (by show ¬ (i < 0 ∨ (arrV _ _ _).slots.size ≤ _); rw [arrV_size]; exact hin) (by show (arrV _ _ _).slots[_]? = _; rw [arrV_read _ _ (Nat.not_le.mp fun w => hin (Or.inr w))]) rfl rfl hd ?_
            have k := kk H locs ls iv hl hL
            rw [hn] at k
            rw [← tr_rv base sb _ (iv.2.2.1 _ _)]
            exact k
          · cases hex
        · cases hex
    · cases hex
  case aastore =>
    obtain ⟨hd, hn⟩ := chk_pl (code := code) (j := j) hch rfl
    dsimp only [ilen] at hd hn
    simp only [prim] at hex
    split at hex
    · rename_i v i o r
      split at hex
      · cases hex
      · rename_i hoS
        have h1 : ¬ o = SCR := fun w => hoS (Or.inl w)
        have h2 : ¬ v = SCR := fun w => hoS (Or.inr (Or.inl w))
        have h3 : sh[v]? = some (0, 0) := Decidable.byContradiction fun w => hoS (Or.inr (Or.inr w))
        split at hex
        · rename_i n ho
          split at hex
          · rename_i hin
            cases hex
            show W p l e0 rm s m args below meth c H locs cs sl Q (F0 m pc ls (tr base sb (.ref v) :: .int i :: tr base sb (.ref o) :: r.map (tr base sb)))
            rw [tr_ref h1, tr_ref h2]
            refine s_aast fx iv ho h3 h2 hin hd hl (fun H' locs' iv' hl' => ?_)
            rw [← hn]
            exact kk H' locs' ls iv' hl' hL
          · cases hex
        · cases hex
    · cases hex
  case arraylength =>
    obtain ⟨hd, hn⟩ := chk_pl (code := code) (j := j) hch rfl
    dsimp only [ilen] at hd hn
    simp only [prim] at hex
    split at hex
    · rename_i o r
      show W p l e0 rm s m args below meth c H locs cs sl Q (F0 m pc ls (tr base sb (.ref o) :: r.map (tr base sb)))
      split at hex
      · rename_i hoS
        simp only [Option.bind_eq_some_iff] at hex
        obtain ⟨z, hz, hex⟩ := hex
        cases hex
        obtain ⟨⟨scell, h1, h2, h3, h4, h5⟩, hsb⟩ := sx _ hz
        rw [show tr base sb (.ref o) = .ref sb from by rw [hoS]; simp [tr]]
        refine W.alen (n := Int32.ofNat z.1) hx hb (by rw [iv.2.2.2.2 _ hsb]; exact h1) h2 (by rw [h4] <;> rfl) rfl rfl hd ?_
        have k := kk H locs ls iv hl hL
        rw [hn] at k
        exact k
      · rename_i hoS
        rw [tr_ref hoS]
        split at hex
        · rename_i n ho
          cases hex
          refine W.alen (n := Int32.ofNat n) hx hb (cell_int (iv.2.2.2.1 o (sh_lt ho)) ho) ((fx.2.2.2.2.2.1.2 0 _ rfl).1 n _) (by rw [arrV_size] <;> rfl) rfl rfl hd ?_
          have k := kk H locs ls iv hl hL
          rw [hn] at k
          exact k
        · rename_i n ho
          cases hex
          refine W.alen (n := Int32.ofNat n) hx hb (cell_ref (iv.2.2.2.1 o (sh_lt ho)) ho) ((fx.2.2.2.2.2.1.2 1 _ rfl).1 n _) (by rw [arrV_size] <;> rfl) rfl rfl hd ?_
          have k := kk H locs ls iv hl hL
          rw [hn] at k
          exact k
        · cases hex
    · cases hex
  case invokespecial idx =>
    obtain ⟨hd, hn⟩ := chk_pl (code := code) (j := j) hch rfl
    dsimp only [ilen] at hd hn
    simp only [prim] at hex
    split at hex
    · rename_i o r
      split at hex
      · rename_i hc
        cases hex
        refine W.objInit hx hb hown (hts _ (hlk.1 hc.1)) (hts _ hgl.2.2.1) (hts _ hgl.2.2.2.1) rfl (by rw [fx.2.2.1]; exact hL.2.1) rfl hd hc.2.1 (by
          have := tr_sum base sb r
          show 2 * 0 + ((r.map (tr base sb)).map fun v => v.category).sum + 12 ≤ _
          omega) ?_
        have k := kk H locs ls iv hl hL
        rw [hn] at k
        exact k
      · cases hex
    · cases hex
  case invokestatic idx =>
    obtain ⟨hd, hn⟩ := chk_pl (code := code) (j := j) hch rfl
    dsimp only [ilen] at hd hn
    simp only [prim] at hex
    split at hex
    · rename_i n dp d sp o r
      split at hex
      · rename_i n0 n1 ho hd1
        split at hex
        · rename_i hc
          cases hex
          show W p l e0 rm s m args below meth c H locs cs sl Q (F0 m pc ls (.int n :: .int dp :: tr base sb (.ref d) :: .int sp :: tr base sb (.ref o) :: r.map (tr base sb)))
          rw [tr_ref hc.2.1.1, tr_ref hc.2.1.2]
          refine s_copy hgl fx iv (hlk.1 hc.1) hL.2.1 ho hd1 hc.2.2.1 hc.2.2.2.1 hc.2.2.2.2.1 hc.2.2.2.2.2.1 hc.2.2.2.2.2.2.1 hc.2.2.2.2.2.2.2.1 (by rw [tr_sum]; exact hc.2.2.2.2.2.2.2.2) hd hl (fun H' locs' iv' hl' => ?_)
          rw [← hn]
          exact kk H' locs' ls iv' hl' hL
        · cases hex
      · cases hex
    · cases hex
  all_goals (simp only [prim] at hex; cases hex)
end PRIM3
end
section
/-! METHODS: a run of the abstract machine is a run of the machine -/
abbrev mWs (me : ME) : List Cond := Cond.code (mName me) (mBytes me) (mLoc me) (mRet me) :: tbG
def MeOK (ms : List ME) (me : ME) : Prop := chkC (mBytes me) (mCode me) = true ∧ (∀ e ∈ mCode me, LinkOK ms (mName me) e.2.1 e.2.2.1 e.2.2.2.1) ∧ Cond.code (mName me) (mBytes me) (mLoc me) (mRet me) ∈ tbG ∧ plainName (mName me).cls = true ∧
  ((mName me).cls ≠ "java/lang/invoke/MethodHandle" ∧ (mName me).cls ≠ "java/lang/invoke/VarHandle") ∧ (∃ np, (parseMethodDescriptor (mName me).desc).map (fun d => d.parameters.length) = some np ∧ mArgs me = if mCls me = 99 then np else np + 1) ∧
  (¬ mCls me = 99 → (vwCl[mCls me]?).map (·.1) = some (mName me).cls)
def va_KK (D : va_G) (cI cF : ClassId) (U : State) : Prop := va_K D vwCl [(cI, .int), (cF, .object RX0)] U
def Ct (l : Launch) (base sb : Nat) (Hb : Heap) (D : va_G) (cI cF : ClassId) (me : ME) (as : List Value) (sh : SH) (hp : HP) (res : RS) : Prop :=
  Met l (mName me) (mWs me) (mRoom me) (va_Pc (as.map (tr base sb)) (fun U => Iv base Hb D cI cF U.heap sh hp ∧ va_KK D cI cF U ∧ Nw U)) (fun _ _ o t => o = .returned (res.1.map (tr base sb)) ∧ Iv base Hb D cI cF t.heap res.2.2.2.1 res.2.2.2.2) (mRoom me).cells (mRoom me).slots (fun q => base ≤ q)
section RUN
variable {p : Program} {l : Launch} {e0 : Env} {rm : Room} {s : State} {m : MethodId} {args : Array Value} {below : List Frame} {meth : Method} {c : Code} {H : Heap} {locs : List Loc} {Q : State → Prop} {cells slots mc mss : Nat}
theorem my_call {rv : Option Value} {P : Heap → Prop} {free : Addr → Prop} {g : JFrame} {rest : List Value} (hr : va_Run p l e0 rm s m args below meth c H locs cells slots mc mss g rest (fun _ o t => o = .returned rv ∧ P t.heap) free)
    (kk : ∀ (H1 : Heap) (locs1 : List Loc), P H1 → (∀ z ∈ locs1, z ∈ locs ∨ free z.base) → W p l e0 rm s m args below meth c H1 locs1 (cells + mc) (slots + mss) Q { g with pc := g.pc + 3, stack := rv.toList ++ rest }) : W p l e0 rm s m args below meth c H locs cells slots Q g := by
  intro T hT X
  obtain ⟨v, st₀, t, T', L, h0, X', hL, e1, e2, ⟨ho, hP⟩, st⟩ := hr T hT X
  cases ho
  obtain ⟨t2, a1, b1⟩ := kk T'.heap (locs ++ L) (by rw [e1]; exact hP) (fun z hz => (List.mem_append.mp hz).imp id (hL z)) T' rfl X'
  exact ⟨t2, st t2 a1, b1⟩
theorem ct_blind (base sb : Nat) (Hb : Heap) (D : va_G) (cI cF : ClassId) (as : List Value) (sh : SH) (hp : HP) : FrameBlind (va_Pc (as.map (tr base sb)) (fun U => Iv base Hb D cI cF U.heap sh hp ∧ va_KK D cI cF U ∧ Nw U)) := by
  intro a U g mk q
  obtain ⟨q1, q2, q3, q4⟩ := q
  exact ⟨q1, q2, va_K.moved (u := U) (U := U.calling g mk a) (Vm.Alike.refl U.vm) q3, Nw.same (U := U.calling g mk a) rfl q4⟩
theorem pc_at {code : List EI} {j : Nat} {e : EI} (h : code[j]? = some e) : pcAt code j = e.1 := by
  unfold pcAt
  rw [h]
theorem chk_at {bs : ByteArray} {code : List EI} (h : chkC bs code = true) {j : Nat} {e : EI} (hj : code[j]? = some e) : chkE bs code j e = true := by
  have h := (Bool.and_eq_true_iff.mp h).2
  have := List.all_eq_true.mp h j (List.mem_range.mpr (List.getElem?_eq_some_iff.mp hj).1)
  simp only [hj] at this
  exact this
theorem ls_entry {base sb : Nat} {as : List Value} {n : Nat} (hc : ∀ v ∈ as, v.category = 1) (hn : as.length ≤ n) : LsOk base sb n ((lg_sl (as.map (tr base sb)) ++ List.replicate (n - (lg_sl (as.map (tr base sb))).length) Slot.unset).toArray) (as.map some ++ List.replicate (n - as.length) none) := by
  have hsl : lg_sl (as.map (tr base sb)) = as.map (fun v => Slot.val (tr base sb v)) := by
    clear hn
    induction as with
    | nil => rfl
    | cons v vs ih =>
      have hv : (tr base sb v).category = 1 := by rw [tr_cat]; exact hc v List.mem_cons_self
      have ih' := ih (fun w hw => hc w (List.mem_cons_of_mem _ hw))
      simp only [lg_sl, List.map_cons, List.flatMap_cons, hv] at ih' ⊢
      rw [ih']
      rfl
  have hlen : (lg_sl (as.map (tr base sb))).length = as.length := by rw [hsl, List.length_map]
  have he := lv_entry (as.map (tr base sb)) (n := n) (by rw [hlen]; exact hn)
  refine ⟨by simp; omega, he.1, he.2.1, fun i v hi => ?_⟩
  by_cases hil : i < as.length
  · rw [List.getElem?_append_left (by rw [List.length_map]; exact hil), List.getElem?_map] at hi
    obtain ⟨w, hw, hwv⟩ := Option.map_eq_some_iff.mp hi
    cases hwv
    refine ⟨?_, hc _ (List.mem_of_getElem? hw)⟩
    rw [hsl]
    have e := (List.getElem?_eq_some_iff.mp hw).2
    simp [hil, List.getElem?_append_left, e]
  · rw [List.getElem?_append_right (by rw [List.length_map]; omega), List.getElem?_replicate] at hi
    split at hi <;> cases hi
end RUN
end
section
section RUN2
variable {p : Program} {l : Launch} {e0 : Env} {rm : Room} {s : State} {m : MethodId} {args : Array Value} {below : List Frame} {meth : Method} {c : Code} {H : Heap} {locs : List Loc} {Q : State → Prop} {cells slots mc mss : Nat}
variable {sh : SH} {hp : HP} {base sb : Nat} {Hb : Heap} {D : va_G} {cI cF : ClassId} {ms : List ME}
/-- a contract's words, out of the tables -/
theorem ws_warm (hts : ∀ w ∈ tbG, w.before args s = true) {me : ME} (hc : Cond.code (mName me) (mBytes me) (mLoc me) (mRet me) ∈ tbG) : ∀ w ∈ mWs me, ∀ (a' : Array Value) (U : State), s.WarmedH U.vm → w.before a' U = true := by
  intro w hw a' U hW
  have hw2 : w ∈ tbG := by
    rcases List.mem_cons.mp hw with h | h
    · rw [h]; exact hc
    · exact h
  exact word_at hW (good_of_word (List.mem_filter.mp hw2).2) (hts w hw2)
set_option maxHeartbeats 4000000 in
/-- a contract's proof: the body's run -/
theorem ct_of {me : ME} {as : List Value} {res : RS} (ho : MeOK ms me) (hcat : ∀ v ∈ as, v.category = 1) (hlen : as.length = mArgs me) (hle : mArgs me ≤ mLoc me)
    (body : ∀ {p : Program} {e0 : Env} {s : State} {m : MethodId} {args : Array Value} {below : List Frame} {meth : Method} {c : Code} {H : Heap} {locs : List Loc} {Q : State → Prop} {ls : Array Slot}, Fx p s m args meth c (mName me) (mBytes me) (mLoc me) D cI cF → Iv base Hb D cI cF H sh hp → (∀ z ∈ locs, base ≤ z.base) →
      LsOk base sb (mLoc me) ls (as.map some ++ List.replicate (mLoc me - mArgs me) none) →
      (∀ (e : EI) (st' : List Value) (H' : Heap) (locs' : List Loc) (ls' : Array Slot), e ∈ mCode me → decode (mBytes me) e.1 = .ok (e.2.1, 1) → retTo (mRet me) (mRoom me) e.2.1 st' res.2.1 res.2.2.1 res.2.2.2.1 res.2.2.2.2 = some res → Iv base Hb D cI cF H' res.2.2.2.1 res.2.2.2.2 → (∀ z ∈ locs', base ≤ z.base) →
        W p l e0 (mRoom me) s m args below meth c H' locs' res.2.1 res.2.2.1 Q (F0 m e.1 ls' (st'.map (tr base sb)))) →
      W p l e0 (mRoom me) s m args below meth c H locs 0 0 Q (F0 m 0 ls [])) : Ct l base sb Hb D cI cF me as sh hp res := by
  unfold Ct
  refine Met.ofW (cc := mBytes me) (maxL := mLoc me) (ret := mRet me) ho.2.2.2.1 rfl ?_
  intro p e s m args below meth c s₁ B hml hv
  obtain ⟨rfl, hI, hK, hN⟩ := hv
  have hts := atoms_spec (ws := mWs me) B.pre
  have hown : s.vm.findClass (mName me).cls = some m.cls := findClass_of_methodNamed B.named
  have hlocks := B.notSynchronized
  have hr := B.returns
  have fx : Fx p s m (as.map (tr base sb)).toArray meth c (mName me) (mBytes me) (mLoc me) D cI cF := ⟨B.exec, B.bytes, hml, hown, fun w hw => hts w (List.mem_cons_of_mem _ hw), hK, fun h => (name_of_methodNamed B.named B.method).1.trans h, hN⟩
  rw [lg_entry_eq]
  refine body fx hI (fun z hz => by cases hz) (by rw [← hlen]; exact ls_entry hcat (by omega)) ?_
  intro e st' H' locs' ls' he hde hret hI' hl'
  unfold retTo at hret
  split at hret
  · rename_i hle2
    refine W.widen (k := (mRoom me).cells) (n := (mRoom me).slots) hle2.1 hle2.2 ?_
    split at hret
    · rename_i v hi
      split at hret
      · rename_i hty
        rw [hi] at hde
        rcases hty with h | ⟨h, hv⟩
        · refine W.iret B.exec B.bytes (hr.trans h) (fun t ht hW => ?_) hl' hde
          rw [← (Option.some.inj hret)]
          exact ⟨rfl, by rw [ht, ← Option.some.inj hret]; exact hI'⟩
        · refine W.zret B.exec B.bytes (hr.trans h) (by rcases hv with rfl | rfl <;> decide) (fun t ht hW => ?_) hl' hde
          rw [← (Option.some.inj hret)]
          exact ⟨rfl, by rw [ht, ← Option.some.inj hret]; exact hI'⟩
      · cases hret
    · rename_i o hi
      split at hret
      · rename_i n hty
        rw [hi] at hde
        refine W.aret (rt := .object n) B.exec B.bytes (hr.trans hty) (Or.inl ⟨n, rfl⟩) (Or.inr ⟨_, rfl⟩) (fun t ht hW => ?_) hl' hde
        rw [← (Option.some.inj hret)]
        exact ⟨rfl, by rw [ht, ← Option.some.inj hret]; exact hI'⟩
      · cases hret
    · rename_i hi
      split at hret
      · rename_i hty
        rw [hi] at hde
        refine W.vret B.exec B.bytes (hr.trans hty) (fun t ht hW => ?_) hl' hde
        rw [← (Option.some.inj hret)]
        exact ⟨rfl, by rw [ht, ← Option.some.inj hret]; exact hI'⟩
      · cases hret
    · cases hret
  · cases hret
end RUN2
end
section
section RUN3
variable {p : Program} {l : Launch} {e0 : Env} {rm : Room} {s : State} {m : MethodId} {args : Array Value} {below : List Frame} {meth : Method} {c : Code} {H : Heap} {locs : List Loc} {Q : State → Prop} {cs sl : Nat}
variable {sh : SH} {hp : HP} {base sb : Nat} {Hb : Heap} {D : va_G} {cI cF : ClassId} {ms : List ME} {y : MethodName} {bs : ByteArray} {nL : Nat}
theorem np_sig {me : ME} {np : Nat} (h : (parseMethodDescriptor (mName me).desc).map (fun d => d.parameters.length) = some np) : ∀ sig, parseMethodDescriptor (mName me).desc = some sig → np = sig.parameters.length := by
  intro sig hs
  rw [hs] at h
  exact (Option.some.inj h).symm
theorem getLast_split {α : Type} {l : List α} {x : α} (h : l.getLast? = some x) : ∃ init, l = init ++ [x] := by
  refine ⟨l.dropLast, ?_⟩
  have hne : l ≠ [] := by
    intro h0
    rw [h0] at h
    cases h
  rw [List.getLast?_eq_some_getLast hne] at h
  cases h
  exact (List.dropLast_concat_getLast hne).symm
set_option maxHeartbeats 8000000 in
/-- a call, whichever its kind -/
theorem call_sound (fx : Fx p s m args meth c y bs nL D cI cF) (iv : Iv base Hb D cI cF H sh hp) (hl : ∀ z ∈ locs, base ≤ z.base) {i : Instr} {a pc : Nat} {me' : ME} (hme : ms[a]? = some me') (ho : MeOK ms me') {st : List Value} {ls : Array Slot} (hls : ls.size = nL) {res : RS}
    (hok : callOk rm i me' st cs sl sh = true) (hi : (∃ idx, i = .invokevirtual idx ∧ LinkOK ms y i a 0) ∨ (∃ idx, i = .invokespecial idx ∧ LinkOK ms y i a 0) ∨ ∃ idx, i = .invokestatic idx ∧ LinkOK ms y i a 0)
    (hM : Ct l base sb Hb D cI cF me' (args0 me' st) sh hp res) (hdg : decode bs pc = .ok (i, 3))
    (kk : ∀ (H' : Heap) (locs' : List Loc), Iv base Hb D cI cF H' res.2.2.2.1 res.2.2.2.2 → (∀ z ∈ locs', base ≤ z.base) → W p l e0 rm s m args below meth c H' locs' (cs + (mRoom me').cells) (sl + (mRoom me').slots) Q (F0 m (pc + 3) ls ((res.1.toList ++ st.drop (mArgs me')).map (tr base sb)))) :
    W p l e0 rm s m args below meth c H locs cs sl Q (F0 m pc ls (st.map (tr base sb))) := by
  obtain ⟨hx, hb, hml, hown, hts, hK, hini, hN⟩ := fx
  simp only [callOk, Bool.and_eq_true, decide_eq_true_eq] at hok
  obtain ⟨⟨⟨⟨⟨⟨⟨⟨k1, k2⟩, k3⟩, k4⟩, k5⟩, k6⟩, k7⟩, k8⟩, k9⟩ := hok
  obtain ⟨o1, o2, o3, o4, o5, ⟨np, o6, o7⟩, o8⟩ := ho
  have hww := ws_warm (s := s) (args := args) hts o3
  have hcode : (Cond.code (mName me') (mBytes me') (mLoc me') (mRet me')).before args s = true := hts _ o3
  have hst : st.map (tr base sb) = (st.take (mArgs me')).map (tr base sb) ++ (st.drop (mArgs me')).map (tr base sb) := by rw [← List.map_append, List.take_append_drop]
  have hrest : 2 * (F0 m pc ls (st.map (tr base sb))).monitorRoom + (((st.drop (mArgs me')).map (tr base sb)).map fun v => v.category).sum ≤ 8 := lv_room (by rw [tr_sum]; exact k4)
  have hback : ∀ (H1 : Heap) (locs1 : List Loc), Iv base Hb D cI cF H1 res.2.2.2.1 res.2.2.2.2 → (∀ z ∈ locs1, z ∈ locs ∨ base ≤ z.base) →
      W p l e0 rm s m args below meth c H1 locs1 (cs + (mRoom me').cells) (sl + (mRoom me').slots) Q { F0 m pc ls (st.map (tr base sb)) with pc := pc + 3, stack := (res.1.map (tr base sb)).toList ++ (st.drop (mArgs me')).map (tr base sb) } := by
    intro H1 locs1 hI hz
    have := kk H1 locs1 hI (fun z hz1 => (hz z hz1).elim (hl z) id)
    rw [List.map_append] at this
    have e : (res.1.map (tr base sb)).toList = res.1.toList.map (tr base sb) := by cases res.1 <;> rfl
    rw [e]
    exact this
  have hpc : ∀ U : State, U.heap = H → s.WarmedH U.vm → va_Pc ((args0 me' st).map (tr base sb)) (fun U => Iv base Hb D cI cF U.heap sh hp ∧ va_KK D cI cF U ∧ Nw U) ((args0 me' st).map (tr base sb)).toArray U := fun U hU hW => ⟨rfl, by rw [hU]; exact iv, va_K.moved hW.alike hK, hN.warm hW⟩
  have htl : (st.take (mArgs me')).length = mArgs me' := by rw [List.length_take]; omega
  have hlk : ∀ {own : String} {idx : Nat}, LinkNOK own idx (mName me') → (Cond.methodLink own idx (mName me')).before args s = true ∨ ∃ host, (Cond.methodLinkNest own idx (mName me') host).before args s = true := by
    intro own idx h
    rcases h with h | ⟨host, h⟩
    · exact Or.inl (hts _ h)
    · exact Or.inr ⟨host, va_Nw.use rfl (hN.1 _ _ _ _ h)⟩
  rcases hi with ⟨idx, rfl, hL⟩ | ⟨idx, rfl, hL⟩ | ⟨idx, rfl, hL⟩
  · obtain ⟨⟨me2, hm2, hlink, hinit⟩, hrow⟩ := hL
    cases hme.symm.trans hm2
    obtain ⟨r1, r2, r3⟩ := hrow _ hme
    rw [if_neg r3] at o7
    simp only [recvOk] at k9
    split at k9
    · rename_i o hlast
      have k9 := of_decide_eq_true k9
      obtain ⟨init, hinit2⟩ := getLast_split hlast
      have hil : init.length = np := by
        have := congrArg List.length hinit2
        rw [htl, List.length_append, List.length_singleton] at this
        omega
      have hargs : args0 me' st = .ref o :: init.reverse := by
        unfold args0
        rw [hinit2]
        simp
      have hcls := o8 r3
      obtain ⟨r, hr, hrc⟩ := Option.map_eq_some_iff.mp hcls
      have hcell := cell_obj (iv.2.2.2.1 o (sh_lt k9.2)) k9.2 hr
      obtain ⟨cell, q1, q2, q3, -⟩ := hcell
      have hfc := (hK.1 _ _ hr).2.1
      have hbase : tr base sb (.ref o) = .ref (base + o) := tr_ref k9.1
      have hargs2 : (args0 me' st).map (tr base sb) = .ref (base + o) :: (init.reverse).map (tr base sb) := by rw [hargs, List.map_cons, hbase]
      have hpre : PreV s H (mName me').cls (base + o) (va_Pc ((args0 me' st).map (tr base sb)) (fun U => Iv base Hb D cI cF U.heap sh hp ∧ va_KK D cI cF U ∧ Nw U)) ((init.reverse).map (tr base sb)) :=
        ⟨ct_blind base sb Hb D cI cF _ sh hp, ⟨cell, q1, by rw [q3]; rfl, by rw [q2, ← hrc]; exact hfc⟩, fun U hU hW => by rw [← hargs2]; exact hpc U hU hW⟩
      have hstk : (F0 m pc ls (st.map (tr base sb))).stack = ((init.reverse).map (tr base sb)).reverse ++ .ref (base + o) :: (st.drop (mArgs me')).map (tr base sb) := by
        show st.map (tr base sb) = _
        rw [hst, hinit2]
        simp [hbase]
      rcases hlk hlink with h | ⟨host, h⟩
      · exact my_call (va_runV (C := (mName me').cls) (n := np) (Ts := tbG) ⟨hx, hb, hml, hown, hts⟩ hM ⟨⟨rfl, rfl, k5, k6, hww, List.mem_cons_self, hcode, hts _ hinit, o5, np_sig o6, h⟩, hts _ r1, hts _ r2⟩ hpre rfl (by simp [hil]) hls hstk hrest hdg ⟨k7, k8⟩) hback
      · exact my_call (va_runVN (C := (mName me').cls) (n := np) (Ts := tbG) ⟨hx, hb, hml, hown, hts⟩ hM ⟨⟨⟨rfl, rfl, k5, k6, hww, List.mem_cons_self⟩, hcode, hts _ hinit, o5, np_sig o6, h⟩, hts _ r1, hts _ r2⟩ hpre rfl (by simp [hil]) hls hstk hrest hdg ⟨k7, k8⟩) hback
    · cases k9
  · obtain ⟨⟨me2, hm2, hlink, hinit⟩, hrow⟩ := hL.2 rfl
    cases hme.symm.trans hm2
    obtain ⟨r1, r2, r4, r3⟩ := hrow _ hme
    rw [if_neg r3] at o7
    simp only [recvOk] at k9
    split at k9
    · rename_i o hlast
      obtain ⟨init, hinit2⟩ := getLast_split hlast
      have hil : init.length = np := by
        have := congrArg List.length hinit2
        rw [htl, List.length_append, List.length_singleton] at this
        omega
      have hargs : args0 me' st = .ref o :: init.reverse := by
        unfold args0
        rw [hinit2]
        simp
      have hbase : tr base sb (.ref o) = .ref (if o = SCR then sb else base + o) := rfl
      have hargs2 : (args0 me' st).map (tr base sb) = .ref (if o = SCR then sb else base + o) :: (init.reverse).map (tr base sb) := by rw [hargs, List.map_cons, hbase]
      have hpre : PreS s H (va_Pc ((args0 me' st).map (tr base sb)) (fun U => Iv base Hb D cI cF U.heap sh hp ∧ va_KK D cI cF U ∧ Nw U)) (.ref (if o = SCR then sb else base + o) :: (init.reverse).map (tr base sb)) :=
        ⟨ct_blind base sb Hb D cI cF _ sh hp, fun U hU hW => by rw [← hargs2]; exact hpc U hU hW⟩
      have hstk : (F0 m pc ls (st.map (tr base sb))).stack = ((init.reverse).map (tr base sb)).reverse ++ .ref (if o = SCR then sb else base + o) :: (st.drop (mArgs me')).map (tr base sb) := by
        show st.map (tr base sb) = _
        rw [hst, hinit2]
        simp [hbase]
      rw [r4] at hcode
      have hM' := hM
      unfold Ct at hM'
      have hmem : Cond.code (mName me') (mBytes me') (mLoc me') none ∈ mWs me' := by rw [← r4]; exact List.mem_cons_self
      have hww2 := ws_warm (s := s) (args := args) hts o3
      rcases hlk hlink with h | ⟨host, h⟩
      · exact my_call (va_runI (n := np) (Ts := tbG) ⟨hx, hb, hml, hown, hts⟩ hM' ⟨⟨rfl, rfl, k5, k6, hww2, hmem, hcode, hts _ hinit, o5, np_sig o6, h⟩, r2, hts _ r1⟩ hpre rfl (by simp [hil]) hls hstk hrest hdg ⟨k7, k8⟩) hback
      · exact my_call (va_runIN (n := np) (Ts := tbG) ⟨hx, hb, hml, hown, hts⟩ hM' ⟨⟨⟨rfl, rfl, k5, k6, hww2, hmem⟩, hcode, hts _ hinit, o5, np_sig o6, h⟩, r2, hts _ r1⟩ hpre rfl (by simp [hil]) hls hstk hrest hdg ⟨k7, k8⟩) hback
    · cases k9
  · obtain ⟨⟨me2, hm2, hlink, hinit⟩, hrow⟩ := hL.2 rfl
    cases hme.symm.trans hm2
    obtain ⟨r1, r3⟩ := hrow _ hme
    rw [if_pos r3] at o7
    have hpre : PreS s H (va_Pc ((args0 me' st).map (tr base sb)) (fun U => Iv base Hb D cI cF U.heap sh hp ∧ va_KK D cI cF U ∧ Nw U)) ((args0 me' st).map (tr base sb)) := ⟨ct_blind base sb Hb D cI cF _ sh hp, hpc⟩
    have hstk : (F0 m pc ls (st.map (tr base sb))).stack = ((args0 me' st).map (tr base sb)).reverse ++ (st.drop (mArgs me')).map (tr base sb) := by
      show st.map (tr base sb) = _
      rw [hst]
      simp [args0]
    have hal : ((args0 me' st).map (tr base sb)).length = np := by
      rw [List.length_map]
      unfold args0
      rw [List.length_reverse, htl, o7]
    rcases hlk hlink with h | ⟨host, h⟩
    · exact my_call (va_runS (n := np) (Ts := tbG) ⟨hx, hb, hml, hown, hts⟩ hM ⟨⟨rfl, rfl, k5, k6, hww, List.mem_cons_self, hcode, hts _ hinit, o5, np_sig o6, h⟩, hts _ r1⟩ hpre rfl hal hls hstk hrest hdg ⟨k7, k8⟩) hback
    · exact my_call (va_runSN (n := np) (Ts := tbG) ⟨hx, hb, hml, hown, hts⟩ hM ⟨⟨⟨rfl, rfl, k5, k6, hww, List.mem_cons_self⟩, hcode, hts _ hinit, o5, np_sig o6, h⟩, hts _ r1, trivial⟩ hpre rfl hal hls hstk hrest hdg ⟨k7, k8⟩) hback
end RUN3
end
section
section RUN4
variable {Hb : Heap} {ms : List ME}
set_option maxHeartbeats 8000000 in
/-- THE ABSTRACT MACHINE'S RUN OF A METHOD IS THE MACHINE'S -/
theorem exF_sound (hcl : ClOK) (hgl : GlOK) (hms : ∀ (i : Nat) (me : ME), ms[i]? = some me → MeOK ms me) (base sb : Nat) (Hb : Heap) (D : va_G) (cI cF : ClassId) : ∀ (n : Nat) (scr : Option (Nat × (Nat → Int32))) (me : ME) (j : Nat) (L : List (Option Value)) (st : List Value) (cs sl : Nat) (sh : SH) (hp : HP) (res : RS), exF ms n scr me j L st cs sl sh hp = some res → MeOK ms me →
    ∀ {p : Program} {l : Launch} {e0 : Env} {s : State} {m : MethodId} {args : Array Value} {below : List Frame} {meth : Method} {c : Code} {H : Heap} {locs : List Loc} {Q : State → Prop} {ls : Array Slot}, Fx p s m args meth c (mName me) (mBytes me) (mLoc me) D cI cF → Sx s base sb Hb scr → Iv base Hb D cI cF H sh hp → (∀ z ∈ locs, base ≤ z.base) → LsOk base sb (mLoc me) ls L →
      (∀ (e : EI) (st' : List Value) (H' : Heap) (locs' : List Loc) (ls' : Array Slot), e ∈ mCode me → decode (mBytes me) e.1 = .ok (e.2.1, 1) → retTo (mRet me) (mRoom me) e.2.1 st' res.2.1 res.2.2.1 res.2.2.2.1 res.2.2.2.2 = some res → Iv base Hb D cI cF H' res.2.2.2.1 res.2.2.2.2 → (∀ z ∈ locs', base ≤ z.base) →
        W p l e0 (mRoom me) s m args below meth c H' locs' res.2.1 res.2.2.1 Q (F0 m e.1 ls' (st'.map (tr base sb)))) →
      W p l e0 (mRoom me) s m args below meth c H locs cs sl Q (F0 m (pcAt (mCode me) j) ls (st.map (tr base sb))) := by
  intro n
  induction n with
  | zero =>
    intro scr me j L st cs sl sh hp res h
    cases h
  | succ n ih =>
    intro scr me j L st cs sl sh hp res h ho p l e0 s m args below meth c H locs Q ls fx sx iv hl hL kk
    simp only [exF, Option.bind_eq_some_iff] at h
    obtain ⟨e, he, h⟩ := h
    have hmem := List.mem_of_getElem? he
    have hch := chk_at ho.1 he
    have hlk := ho.2.1 e hmem
    rw [pc_at he]
    split at h
    · rename_i hret
      have hde : decode (mBytes me) e.1 = .ok (e.2.1, 1) := by
        obtain ⟨pc, ins, a, b, ts⟩ := e
        cases ins <;> first | (cases hret; done) | (simp only [chkE, ilen, Bool.and_eq_true] at hch; exact of_decide_eq_true hch.1)
      have hrs : cs = res.2.1 ∧ sl = res.2.2.1 ∧ sh = res.2.2.2.1 ∧ hp = res.2.2.2.2 := by
        unfold retTo at h
        split at h
        · split at h
          · split at h
            · cases h; exact ⟨rfl, rfl, rfl, rfl⟩
            · cases h
          · split at h
            · cases h; exact ⟨rfl, rfl, rfl, rfl⟩
            · cases h
          · split at h
            · cases h; exact ⟨rfl, rfl, rfl, rfl⟩
            · cases h
          · cases h
        · cases h
      obtain ⟨rfl, rfl, rfl, rfl⟩ := hrs
      exact kk e st H locs ls hmem hde h iv hl
    · rename_i hret
      have hret : isRet e.2.1 = false := by simpa using hret
      split at h
      · rename_i hcall
        simp only [Option.bind_eq_some_iff] at h
        obtain ⟨me', hme, h⟩ := h
        split at h
        · rename_i hok
          simp only [Option.bind_eq_some_iff] at h
          obtain ⟨r1, h1, h2⟩ := h
          have ho' := hms _ _ hme
          have hok2 := hok
          simp only [callOk, Bool.and_eq_true, decide_eq_true_eq] at hok2
          obtain ⟨⟨⟨⟨⟨⟨⟨⟨k1, k2⟩, k3⟩, k4⟩, k5⟩, k6⟩, k7⟩, k8⟩, k9⟩ := hok2
          have hcat : ∀ v ∈ args0 me' st, v.category = 1 := by
            intro v hv
            unfold args0 at hv
            have := List.all_eq_true.mp k3 v (List.mem_reverse.mp hv)
            simpa using this
          have hlen : (args0 me' st).length = mArgs me' := by
            unfold args0
            rw [List.length_reverse, List.length_take]
            omega
          have hpc0 : pcAt (mCode me') 0 = 0 := by
            have := (Bool.and_eq_true_iff.mp ho'.1).1
            simpa using this
          have hM : Ct l base sb Hb D cI cF me' (args0 me' st) sh hp r1 := by
            refine ct_of ho' hcat hlen k2 ?_
            intro p e0 s m args below meth c H locs Q ls fx' iv' hl' hL' kk'
            have := ih none me' 0 (loc0 me' st) [] 0 0 sh hp r1 h1 ho' (p := p) (l := l) (e0 := e0) (s := s) (m := m) (args := args) (below := below) (meth := meth) (c := c) (H := H) (locs := locs) (Q := Q) (ls := ls) fx' (fun q hq => by cases hq) iv' hl' hL' kk'
            rw [hpc0] at this
            exact this
          obtain ⟨pc, ins, a, b, ts⟩ := e
          have hplain : decode (mBytes me) pc = .ok (ins, 3) ∧ pcAt (mCode me) (j + 1) = pc + 3 := by
            cases ins <;> first | (cases hcall; done) | exact chk_pl hch rfl
          refine call_sound fx iv hl hme ho' hL.2.1 hok ?_ hM hplain.1 ?_
          · cases ins <;> first | (cases hcall; done) | exact Or.inl ⟨_, rfl, hlk⟩ | (have hb : b = 0 := (by simpa [isCall] using hcall); subst hb; first | exact Or.inr (Or.inl ⟨_, rfl, hlk⟩) | exact Or.inr (Or.inr ⟨_, rfl, hlk⟩))
          · intro H' locs' iv' hl'
            rw [← hplain.2]
            exact ih scr me (j + 1) L _ _ _ _ _ res h2 ho fx sx iv' hl' hL kk
        · cases h
      · rename_i hcall
        simp only [Option.bind_eq_some_iff] at h
        obtain ⟨q, h1, h2⟩ := h
        refine prim_sound hcl hgl fx sx h1 hch hlk iv hl hL ?_
        intro H' locs' ls' iv' hl' hL'
        exact ih scr me q.1 q.2.1 q.2.2.1 q.2.2.2.1 q.2.2.2.2.1 q.2.2.2.2.2.1 q.2.2.2.2.2.2 res h2 ho fx sx iv' hl' hL' kk
end RUN4
end
