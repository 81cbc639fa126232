section
-- ===== PART A: goes FIRST, ahead of the names: the tables' words, and 'selects' of the private methods out of them =====
/-- a private method of a class that the tables say can be made, by its rows of tables_1 -/
def lw_okq (q : MethodName × Nat) : Prop := (q.1.cls ≠ "java/lang/invoke/MethodHandle" ∧ q.1.cls ≠ "java/lang/invoke/VarHandle") ∧ Cond.instantiable q.1.cls q.2 ∈ tables_1 ∧ Cond.privateMethod q.1 ∈ tables_1 ∧ Cond.instanceMethod q.1 ∈ tables_1
theorem lw_p0 : lw_okq (⟨"KeptCurves$Bytes", "alikeFrom", "(IC)I"⟩, 2) := ⟨⟨by decide +kernel, by decide +kernel⟩, List.mem_of_getElem? (i := 207) (by decide +kernel), List.mem_of_getElem? (i := 328) (by decide +kernel), List.mem_of_getElem? (i := 329) (by decide +kernel)⟩
theorem lw_p1 : lw_okq (⟨"KeptCurves$Curve", "learnRows", "()V"⟩, 10) := ⟨⟨by decide +kernel, by decide +kernel⟩, List.mem_of_getElem? (i := 24) (by decide +kernel), List.mem_of_getElem? (i := 395) (by decide +kernel), List.mem_of_getElem? (i := 396) (by decide +kernel)⟩
theorem lw_p2 : lw_okq (⟨"KeptCurves$Curve", "knownSwap", "(III)I"⟩, 10) := ⟨⟨by decide +kernel, by decide +kernel⟩, List.mem_of_getElem? (i := 24) (by decide +kernel), List.mem_of_getElem? (i := 401) (by decide +kernel), List.mem_of_getElem? (i := 402) (by decide +kernel)⟩
theorem lw_p3 : lw_okq (⟨"KeptCurves$Curve", "knownRow", "(III)I"⟩, 10) := ⟨⟨by decide +kernel, by decide +kernel⟩, List.mem_of_getElem? (i := 24) (by decide +kernel), List.mem_of_getElem? (i := 405) (by decide +kernel), List.mem_of_getElem? (i := 406) (by decide +kernel)⟩
theorem lw_p4 : lw_okq (⟨"KeptCurves$Curve", "learnKept", "()V"⟩, 10) := ⟨⟨by decide +kernel, by decide +kernel⟩, List.mem_of_getElem? (i := 24) (by decide +kernel), List.mem_of_getElem? (i := 463) (by decide +kernel), List.mem_of_getElem? (i := 464) (by decide +kernel)⟩
theorem lw_p5 : lw_okq (⟨"KeptCurves$Loops", "isUnmarked", "(I)Z"⟩, 5) := ⟨⟨by decide +kernel, by decide +kernel⟩, List.mem_of_getElem? (i := 75) (by decide +kernel), List.mem_of_getElem? (i := 488) (by decide +kernel), List.mem_of_getElem? (i := 489) (by decide +kernel)⟩
theorem lw_p6 : lw_okq (⟨"KeptCurves$Loops", "goRound", "(LKeptCurves$Curve;I)V"⟩, 5) := ⟨⟨by decide +kernel, by decide +kernel⟩, List.mem_of_getElem? (i := 75) (by decide +kernel), List.mem_of_getElem? (i := 493) (by decide +kernel), List.mem_of_getElem? (i := 494) (by decide +kernel)⟩
theorem lw_p7 : lw_okq (⟨"KeptCurves$Loops", "tallyOne", "(I)V"⟩, 5) := ⟨⟨by decide +kernel, by decide +kernel⟩, List.mem_of_getElem? (i := 75) (by decide +kernel), List.mem_of_getElem? (i := 505) (by decide +kernel), List.mem_of_getElem? (i := 506) (by decide +kernel)⟩
theorem lw_p8 : lw_okq (⟨"KeptCurves$Poly", "trim", "(I)V"⟩, 2) := ⟨⟨by decide +kernel, by decide +kernel⟩, List.mem_of_getElem? (i := 109) (by decide +kernel), List.mem_of_getElem? (i := 538) (by decide +kernel), List.mem_of_getElem? (i := 539) (by decide +kernel)⟩
theorem lw_p9 : lw_okq (⟨"KeptCurves$Degrees", "swaps", "(LKeptCurves$Tables;ILKeptCurves$Fraction;LKeptCurves$Fraction;)Z"⟩, 13) := ⟨⟨by decide +kernel, by decide +kernel⟩, List.mem_of_getElem? (i := 97) (by decide +kernel), List.mem_of_getElem? (i := 542) (by decide +kernel), List.mem_of_getElem? (i := 543) (by decide +kernel)⟩
theorem lw_p10 : lw_okq (⟨"KeptCurves$Degrees", "readSquares", "(LKeptCurves$Fraction;)V"⟩, 13) := ⟨⟨by decide +kernel, by decide +kernel⟩, List.mem_of_getElem? (i := 97) (by decide +kernel), List.mem_of_getElem? (i := 546) (by decide +kernel), List.mem_of_getElem? (i := 547) (by decide +kernel)⟩
theorem lw_p11 : lw_okq (⟨"KeptCurves$Degrees", "readRow", "(LKeptCurves$Poly;LKeptCurves$Tables;III)V"⟩, 13) := ⟨⟨by decide +kernel, by decide +kernel⟩, List.mem_of_getElem? (i := 97) (by decide +kernel), List.mem_of_getElem? (i := 561) (by decide +kernel), List.mem_of_getElem? (i := 562) (by decide +kernel)⟩
theorem lw_p12 : lw_okq (⟨"KeptCurves$Degrees", "readCross", "(LKeptCurves$Poly;II)V"⟩, 13) := ⟨⟨by decide +kernel, by decide +kernel⟩, List.mem_of_getElem? (i := 97) (by decide +kernel), List.mem_of_getElem? (i := 570) (by decide +kernel), List.mem_of_getElem? (i := 571) (by decide +kernel)⟩
theorem lw_p13 : lw_okq (⟨"KeptCurves$Degrees", "commonFactor", "()LKeptCurves$Poly;"⟩, 13) := ⟨⟨by decide +kernel, by decide +kernel⟩, List.mem_of_getElem? (i := 97) (by decide +kernel), List.mem_of_getElem? (i := 578) (by decide +kernel), List.mem_of_getElem? (i := 579) (by decide +kernel)⟩
theorem lw_p14 : lw_okq (⟨"KeptCurves$Curve", "reach", "(II)I"⟩, 10) := ⟨⟨by decide +kernel, by decide +kernel⟩, List.mem_of_getElem? (i := 24) (by decide +kernel), List.mem_of_getElem? (i := 663) (by decide +kernel), List.mem_of_getElem? (i := 664) (by decide +kernel)⟩
theorem lw_p15 : lw_okq (⟨"KeptCurves$Plan", "swappedIfItGoes", "(LKeptCurves$Curve;II)I"⟩, 3) := ⟨⟨by decide +kernel, by decide +kernel⟩, List.mem_of_getElem? (i := 190) (by decide +kernel), List.mem_of_getElem? (i := 715) (by decide +kernel), List.mem_of_getElem? (i := 716) (by decide +kernel)⟩
def lw_privs_1 : List (MethodName × Nat) := [(⟨"KeptCurves$Bytes", "alikeFrom", "(IC)I"⟩, 2), (⟨"KeptCurves$Curve", "learnRows", "()V"⟩, 10), (⟨"KeptCurves$Curve", "knownSwap", "(III)I"⟩, 10), (⟨"KeptCurves$Curve", "knownRow", "(III)I"⟩, 10), (⟨"KeptCurves$Curve", "learnKept", "()V"⟩, 10), (⟨"KeptCurves$Loops", "isUnmarked", "(I)Z"⟩, 5), (⟨"KeptCurves$Loops", "goRound", "(LKeptCurves$Curve;I)V"⟩, 5), (⟨"KeptCurves$Loops", "tallyOne", "(I)V"⟩, 5), (⟨"KeptCurves$Poly", "trim", "(I)V"⟩, 2), (⟨"KeptCurves$Degrees", "swaps", "(LKeptCurves$Tables;ILKeptCurves$Fraction;LKeptCurves$Fraction;)Z"⟩, 13), (⟨"KeptCurves$Degrees", "readSquares", "(LKeptCurves$Fraction;)V"⟩, 13), (⟨"KeptCurves$Degrees", "readRow", "(LKeptCurves$Poly;LKeptCurves$Tables;III)V"⟩, 13), (⟨"KeptCurves$Degrees", "readCross", "(LKeptCurves$Poly;II)V"⟩, 13), (⟨"KeptCurves$Degrees", "commonFactor", "()LKeptCurves$Poly;"⟩, 13), (⟨"KeptCurves$Curve", "reach", "(II)I"⟩, 10), (⟨"KeptCurves$Plan", "swappedIfItGoes", "(LKeptCurves$Curve;II)I"⟩, 3)]
theorem lw_r1 : ∀ q ∈ lw_privs_1, lw_okq q := List.forall_mem_cons.mpr ⟨lw_p0, List.forall_mem_cons.mpr ⟨lw_p1, List.forall_mem_cons.mpr ⟨lw_p2, List.forall_mem_cons.mpr ⟨lw_p3, List.forall_mem_cons.mpr ⟨lw_p4, List.forall_mem_cons.mpr ⟨lw_p5, List.forall_mem_cons.mpr ⟨lw_p6, List.forall_mem_cons.mpr ⟨lw_p7, List.forall_mem_cons.mpr ⟨lw_p8, List.forall_mem_cons.mpr ⟨lw_p9, List.forall_mem_cons.mpr ⟨lw_p10, List.forall_mem_cons.mpr ⟨lw_p11, List.forall_mem_cons.mpr ⟨lw_p12, List.forall_mem_cons.mpr ⟨lw_p13, List.forall_mem_cons.mpr ⟨lw_p14, List.forall_mem_cons.mpr ⟨lw_p15, fun _ h => absurd h List.not_mem_nil⟩⟩⟩⟩⟩⟩⟩⟩⟩⟩⟩⟩⟩⟩⟩⟩
theorem lw_p16 : lw_okq (⟨"KeptCurves$Plan", "steppedAsFarAsItGoes", "(LKeptCurves$Curve;ZII)I"⟩, 3) := ⟨⟨by decide +kernel, by decide +kernel⟩, List.mem_of_getElem? (i := 190) (by decide +kernel), List.mem_of_getElem? (i := 720) (by decide +kernel), List.mem_of_getElem? (i := 721) (by decide +kernel)⟩
theorem lw_p17 : lw_okq (⟨"KeptCurves$Bytes", "writeTerm", "(III)V"⟩, 2) := ⟨⟨by decide +kernel, by decide +kernel⟩, List.mem_of_getElem? (i := 207) (by decide +kernel), List.mem_of_getElem? (i := 735) (by decide +kernel), List.mem_of_getElem? (i := 736) (by decide +kernel)⟩
theorem lw_p18 : lw_okq (⟨"KeptCurvesModel", "valueAt", "(III)I"⟩, 30) := ⟨⟨by decide +kernel, by decide +kernel⟩, List.mem_of_getElem? (i := 820) (by decide +kernel), List.mem_of_getElem? (i := 949) (by decide +kernel), List.mem_of_getElem? (i := 950) (by decide +kernel)⟩
theorem lw_p19 : lw_okq (⟨"KeptCurvesModel", "keptAt", "(II)I"⟩, 30) := ⟨⟨by decide +kernel, by decide +kernel⟩, List.mem_of_getElem? (i := 820) (by decide +kernel), List.mem_of_getElem? (i := 960) (by decide +kernel), List.mem_of_getElem? (i := 961) (by decide +kernel)⟩
theorem lw_p20 : lw_okq (⟨"KeptCurvesModel", "crossed", "(III)I"⟩, 30) := ⟨⟨by decide +kernel, by decide +kernel⟩, List.mem_of_getElem? (i := 820) (by decide +kernel), List.mem_of_getElem? (i := 974) (by decide +kernel), List.mem_of_getElem? (i := 975) (by decide +kernel)⟩
theorem lw_p21 : lw_okq (⟨"KeptCurvesModel", "rowAt", "(IIII)I"⟩, 30) := ⟨⟨by decide +kernel, by decide +kernel⟩, List.mem_of_getElem? (i := 820) (by decide +kernel), List.mem_of_getElem? (i := 978) (by decide +kernel), List.mem_of_getElem? (i := 979) (by decide +kernel)⟩
theorem lw_p22 : lw_okq (⟨"KeptCurvesModel", "other", "(III)I"⟩, 30) := ⟨⟨by decide +kernel, by decide +kernel⟩, List.mem_of_getElem? (i := 820) (by decide +kernel), List.mem_of_getElem? (i := 989) (by decide +kernel), List.mem_of_getElem? (i := 990) (by decide +kernel)⟩
theorem lw_p23 : lw_okq (⟨"KeptCurvesModel", "step", "(IZ)I"⟩, 30) := ⟨⟨by decide +kernel, by decide +kernel⟩, List.mem_of_getElem? (i := 820) (by decide +kernel), List.mem_of_getElem? (i := 1004) (by decide +kernel), List.mem_of_getElem? (i := 1005) (by decide +kernel)⟩
theorem lw_p24 : lw_okq (⟨"KeptCurvesModel", "swapped", "(II)I"⟩, 30) := ⟨⟨by decide +kernel, by decide +kernel⟩, List.mem_of_getElem? (i := 820) (by decide +kernel), List.mem_of_getElem? (i := 1008) (by decide +kernel), List.mem_of_getElem? (i := 1009) (by decide +kernel)⟩
theorem lw_p25 : lw_okq (⟨"KeptCurvesModel", "nth", "(II)I"⟩, 30) := ⟨⟨by decide +kernel, by decide +kernel⟩, List.mem_of_getElem? (i := 820) (by decide +kernel), List.mem_of_getElem? (i := 1020) (by decide +kernel), List.mem_of_getElem? (i := 1021) (by decide +kernel)⟩
theorem lw_p26 : lw_okq (⟨"KeptCurvesModel", "findsKept", "()V"⟩, 30) := ⟨⟨by decide +kernel, by decide +kernel⟩, List.mem_of_getElem? (i := 820) (by decide +kernel), List.mem_of_getElem? (i := 1024) (by decide +kernel), List.mem_of_getElem? (i := 1025) (by decide +kernel)⟩
theorem lw_p27 : lw_okq (⟨"KeptCurvesModel", "findsCycles", "(I)V"⟩, 30) := ⟨⟨by decide +kernel, by decide +kernel⟩, List.mem_of_getElem? (i := 820) (by decide +kernel), List.mem_of_getElem? (i := 1042) (by decide +kernel), List.mem_of_getElem? (i := 1043) (by decide +kernel)⟩
theorem lw_p28 : lw_okq (⟨"KeptCurvesModel", "lengthOf", "(I)I"⟩, 30) := ⟨⟨by decide +kernel, by decide +kernel⟩, List.mem_of_getElem? (i := 820) (by decide +kernel), List.mem_of_getElem? (i := 1046) (by decide +kernel), List.mem_of_getElem? (i := 1047) (by decide +kernel)⟩
theorem lw_p29 : lw_okq (⟨"KeptCurvesModel", "isSwapped", "(I[I[I[I[I)Z"⟩, 30) := ⟨⟨by decide +kernel, by decide +kernel⟩, List.mem_of_getElem? (i := 820) (by decide +kernel), List.mem_of_getElem? (i := 1058) (by decide +kernel), List.mem_of_getElem? (i := 1059) (by decide +kernel)⟩
theorem lw_p30 : lw_okq (⟨"KeptCurvesModel", "rowsAt", "(I[I[I)V"⟩, 30) := ⟨⟨by decide +kernel, by decide +kernel⟩, List.mem_of_getElem? (i := 820) (by decide +kernel), List.mem_of_getElem? (i := 1062) (by decide +kernel), List.mem_of_getElem? (i := 1063) (by decide +kernel)⟩
theorem lw_p31 : lw_okq (⟨"KeptCurvesModel", "crosses", "([III)V"⟩, 30) := ⟨⟨by decide +kernel, by decide +kernel⟩, List.mem_of_getElem? (i := 820) (by decide +kernel), List.mem_of_getElem? (i := 1078) (by decide +kernel), List.mem_of_getElem? (i := 1079) (by decide +kernel)⟩
def lw_privs_2 : List (MethodName × Nat) := [(⟨"KeptCurves$Plan", "steppedAsFarAsItGoes", "(LKeptCurves$Curve;ZII)I"⟩, 3), (⟨"KeptCurves$Bytes", "writeTerm", "(III)V"⟩, 2), (⟨"KeptCurvesModel", "valueAt", "(III)I"⟩, 30), (⟨"KeptCurvesModel", "keptAt", "(II)I"⟩, 30), (⟨"KeptCurvesModel", "crossed", "(III)I"⟩, 30), (⟨"KeptCurvesModel", "rowAt", "(IIII)I"⟩, 30), (⟨"KeptCurvesModel", "other", "(III)I"⟩, 30), (⟨"KeptCurvesModel", "step", "(IZ)I"⟩, 30), (⟨"KeptCurvesModel", "swapped", "(II)I"⟩, 30), (⟨"KeptCurvesModel", "nth", "(II)I"⟩, 30), (⟨"KeptCurvesModel", "findsKept", "()V"⟩, 30), (⟨"KeptCurvesModel", "findsCycles", "(I)V"⟩, 30), (⟨"KeptCurvesModel", "lengthOf", "(I)I"⟩, 30), (⟨"KeptCurvesModel", "isSwapped", "(I[I[I[I[I)Z"⟩, 30), (⟨"KeptCurvesModel", "rowsAt", "(I[I[I)V"⟩, 30), (⟨"KeptCurvesModel", "crosses", "([III)V"⟩, 30)]
theorem lw_r2 : ∀ q ∈ lw_privs_2, lw_okq q := List.forall_mem_cons.mpr ⟨lw_p16, List.forall_mem_cons.mpr ⟨lw_p17, List.forall_mem_cons.mpr ⟨lw_p18, List.forall_mem_cons.mpr ⟨lw_p19, List.forall_mem_cons.mpr ⟨lw_p20, List.forall_mem_cons.mpr ⟨lw_p21, List.forall_mem_cons.mpr ⟨lw_p22, List.forall_mem_cons.mpr ⟨lw_p23, List.forall_mem_cons.mpr ⟨lw_p24, List.forall_mem_cons.mpr ⟨lw_p25, List.forall_mem_cons.mpr ⟨lw_p26, List.forall_mem_cons.mpr ⟨lw_p27, List.forall_mem_cons.mpr ⟨lw_p28, List.forall_mem_cons.mpr ⟨lw_p29, List.forall_mem_cons.mpr ⟨lw_p30, List.forall_mem_cons.mpr ⟨lw_p31, fun _ h => absurd h List.not_mem_nil⟩⟩⟩⟩⟩⟩⟩⟩⟩⟩⟩⟩⟩⟩⟩⟩
theorem lw_p32 : lw_okq (⟨"KeptCurvesModel", "lowers", "([I[I)V"⟩, 30) := ⟨⟨by decide +kernel, by decide +kernel⟩, List.mem_of_getElem? (i := 820) (by decide +kernel), List.mem_of_getElem? (i := 1082) (by decide +kernel), List.mem_of_getElem? (i := 1083) (by decide +kernel)⟩
theorem lw_p33 : lw_okq (⟨"KeptCurvesModel", "isTold", "(I)Z"⟩, 30) := ⟨⟨by decide +kernel, by decide +kernel⟩, List.mem_of_getElem? (i := 820) (by decide +kernel), List.mem_of_getElem? (i := 1093) (by decide +kernel), List.mem_of_getElem? (i := 1094) (by decide +kernel)⟩
theorem lw_p34 : lw_okq (⟨"KeptCurvesModel", "placeIn", "(I)I"⟩, 30) := ⟨⟨by decide +kernel, by decide +kernel⟩, List.mem_of_getElem? (i := 820) (by decide +kernel), List.mem_of_getElem? (i := 1097) (by decide +kernel), List.mem_of_getElem? (i := 1098) (by decide +kernel)⟩
theorem lw_p35 : lw_okq (⟨"KeptCurvesModel", "moves", "()V"⟩, 30) := ⟨⟨by decide +kernel, by decide +kernel⟩, List.mem_of_getElem? (i := 820) (by decide +kernel), List.mem_of_getElem? (i := 1113) (by decide +kernel), List.mem_of_getElem? (i := 1114) (by decide +kernel)⟩
theorem lw_p36 : lw_okq (⟨"KeptCurvesModel", "here", "()I"⟩, 30) := ⟨⟨by decide +kernel, by decide +kernel⟩, List.mem_of_getElem? (i := 820) (by decide +kernel), List.mem_of_getElem? (i := 1156) (by decide +kernel), List.mem_of_getElem? (i := 1157) (by decide +kernel)⟩
theorem lw_p37 : lw_okq (⟨"KeptCurvesModel", "isTerm", "()Z"⟩, 30) := ⟨⟨by decide +kernel, by decide +kernel⟩, List.mem_of_getElem? (i := 820) (by decide +kernel), List.mem_of_getElem? (i := 1160) (by decide +kernel), List.mem_of_getElem? (i := 1161) (by decide +kernel)⟩
theorem lw_p38 : lw_okq (⟨"KeptCurvesModel", "often", "(I)I"⟩, 30) := ⟨⟨by decide +kernel, by decide +kernel⟩, List.mem_of_getElem? (i := 820) (by decide +kernel), List.mem_of_getElem? (i := 1167) (by decide +kernel), List.mem_of_getElem? (i := 1168) (by decide +kernel)⟩
theorem lw_p39 : lw_okq (⟨"KeptCurvesModel", "writes", "(II)V"⟩, 30) := ⟨⟨by decide +kernel, by decide +kernel⟩, List.mem_of_getElem? (i := 820) (by decide +kernel), List.mem_of_getElem? (i := 1175) (by decide +kernel), List.mem_of_getElem? (i := 1176) (by decide +kernel)⟩
def lw_privs_3 : List (MethodName × Nat) := [(⟨"KeptCurvesModel", "lowers", "([I[I)V"⟩, 30), (⟨"KeptCurvesModel", "isTold", "(I)Z"⟩, 30), (⟨"KeptCurvesModel", "placeIn", "(I)I"⟩, 30), (⟨"KeptCurvesModel", "moves", "()V"⟩, 30), (⟨"KeptCurvesModel", "here", "()I"⟩, 30), (⟨"KeptCurvesModel", "isTerm", "()Z"⟩, 30), (⟨"KeptCurvesModel", "often", "(I)I"⟩, 30), (⟨"KeptCurvesModel", "writes", "(II)V"⟩, 30)]
theorem lw_r3 : ∀ q ∈ lw_privs_3, lw_okq q := List.forall_mem_cons.mpr ⟨lw_p32, List.forall_mem_cons.mpr ⟨lw_p33, List.forall_mem_cons.mpr ⟨lw_p34, List.forall_mem_cons.mpr ⟨lw_p35, List.forall_mem_cons.mpr ⟨lw_p36, List.forall_mem_cons.mpr ⟨lw_p37, List.forall_mem_cons.mpr ⟨lw_p38, List.forall_mem_cons.mpr ⟨lw_p39, fun _ h => absurd h List.not_mem_nil⟩⟩⟩⟩⟩⟩⟩⟩
def lw_privs : List (MethodName × Nat) := lw_privs_1 ++ (lw_privs_2 ++ (lw_privs_3))
def lw_tbl : List Cond := k2_sels lw_privs ++ tables_1
theorem lw_privs_ok : ∀ q ∈ lw_privs, lw_okq q := by
  show ∀ q ∈ lw_privs_1 ++ (lw_privs_2 ++ (lw_privs_3)), lw_okq q
  exact List.forall_mem_append.mpr ⟨lw_r1, List.forall_mem_append.mpr ⟨lw_r2, lw_r3⟩⟩
end
section
def RX0 : String := "KeptCurves$Bytes"
def TX0 : u_T := fun k => match k with
  | 0 => ("KeptCurves$Bytes", "signs", "[I", true)
  | _ => ("KeptCurves$Bytes", "size", "I", false)
def tyX0 : Nat → FieldType := fun k => match k with
  | 0 => .array .int
  | _ => .int
abbrev wsX00 : List Cond := u_ws RX0 TX0 2
theorem nmX0 : ∀ a, a < 2 → ∀ b, b < 2 → a ≠ b → (TX0 a).2.1 ≠ (TX0 b).2.1 := by decide +kernel
theorem tyX0_ok : ∀ k, k < 2 → parseFieldDescriptor (TX0 k).2.2.1 = some (tyX0 k) := by decide +kernel
abbrev cX0_init : ByteArray := prog_2_method_1_code
def yX0_init : MethodName := ⟨RX0, "<init>", "()V"⟩
abbrev cX0_append : ByteArray := prog_2_method_2_code
def yX0_append : MethodName := ⟨RX0, "append", "(I)V"⟩
abbrev cX0_byteAt : ByteArray := prog_2_method_3_code
def yX0_byteAt : MethodName := ⟨RX0, "byteAt", "(I)I"⟩
abbrev cX0_alikeFrom : ByteArray := prog_2_method_4_code
def yX0_alikeFrom : MethodName := ⟨RX0, "alikeFrom", "(IC)I"⟩
abbrev cX0_readTerms : ByteArray := prog_2_method_5_code
def yX0_readTerms : MethodName := ⟨RX0, "readTerms", "([I)I"⟩
abbrev cX0_addTo : ByteArray := prog_2_method_6_code
def yX0_addTo : MethodName := ⟨RX0, "addTo", "([III)V"⟩
abbrev cX0_writeTerms : ByteArray := prog_2_method_7_code
def yX0_writeTerms : MethodName := ⟨RX0, "writeTerms", "(LKeptCurves$Tables;I)V"⟩
abbrev cX0_writeTerm : ByteArray := prog_2_method_8_code
def yX0_writeTerm : MethodName := ⟨RX0, "writeTerm", "(III)V"⟩
def RX1 : String := "KeptCurves$Curve"
def TX1 : u_T := fun k => match k with
  | 0 => ("KeptCurves$Curve", "tables", "LKeptCurves$Tables;", true)
  | 1 => ("KeptCurves$Curve", "version", "I", false)
  | 2 => ("KeptCurves$Curve", "rowsVersion", "I", false)
  | 3 => ("KeptCurves$Curve", "keptVersion", "I", false)
  | 4 => ("KeptCurves$Curve", "swapRows", "[I", true)
  | 5 => ("KeptCurves$Curve", "keptOf", "[I", true)
  | 6 => ("KeptCurves$Curve", "fibreSizes", "[I", true)
  | 7 => ("KeptCurves$Curve", "aheadOf", "[I", true)
  | 8 => ("KeptCurves$Curve", "reached", "[Z", true)
  | _ => ("KeptCurves$Curve", "queue", "[I", true)
def tyX1 : Nat → FieldType := fun k => match k with
  | 0 => .object "KeptCurves$Tables"
  | 1 => .int
  | 2 => .int
  | 3 => .int
  | 4 => .array .int
  | 5 => .array .int
  | 6 => .array .int
  | 7 => .array .int
  | 8 => .array .boolean
  | _ => .array .int
abbrev wsX10 : List Cond := u_ws RX1 TX1 10
theorem nmX1 : ∀ a, a < 10 → ∀ b, b < 10 → a ≠ b → (TX1 a).2.1 ≠ (TX1 b).2.1 := by decide +kernel
theorem tyX1_ok : ∀ k, k < 10 → parseFieldDescriptor (TX1 k).2.2.1 = some (tyX1 k) := by decide +kernel
abbrev cX1_init : ByteArray := prog_3_method_1_code
def yX1_init : MethodName := ⟨RX1, "<init>", "()V"⟩
abbrev cX1_change : ByteArray := prog_3_method_2_code
def yX1_change : MethodName := ⟨RX1, "change", "(IIII)V"⟩
abbrev cX1_changeAll : ByteArray := prog_3_method_3_code
def yX1_changeAll : MethodName := ⟨RX1, "changeAll", "(I[I)V"⟩
abbrev cX1_changeBack : ByteArray := prog_3_method_4_code
def yX1_changeBack : MethodName := ⟨RX1, "changeBack", "(LKeptCurves$Tables;)V"⟩
abbrev cX1_learnRows : ByteArray := prog_3_method_5_code
def yX1_learnRows : MethodName := ⟨RX1, "learnRows", "()V"⟩
abbrev cX1_knownRow : ByteArray := prog_3_method_6_code
def yX1_knownRow : MethodName := ⟨RX1, "knownRow", "(III)I"⟩
abbrev cX1_rowOf : ByteArray := prog_3_method_7_code
def yX1_rowOf : MethodName := ⟨RX1, "rowOf", "(III)I"⟩
abbrev cX1_pinchedLines : ByteArray := prog_3_method_8_code
def yX1_pinchedLines : MethodName := ⟨RX1, "pinchedLines", "(I)J"⟩
abbrev cX1_swapOf : ByteArray := prog_3_method_9_code
def yX1_swapOf : MethodName := ⟨RX1, "swapOf", "(III)I"⟩
abbrev cX1_knownSwap : ByteArray := prog_3_method_10_code
def yX1_knownSwap : MethodName := ⟨RX1, "knownSwap", "(III)I"⟩
abbrev cX1_stepFrom : ByteArray := prog_3_method_11_code
def yX1_stepFrom : MethodName := ⟨RX1, "stepFrom", "(I)I"⟩
abbrev cX1_stepBackFrom : ByteArray := prog_3_method_12_code
def yX1_stepBackFrom : MethodName := ⟨RX1, "stepBackFrom", "(I)I"⟩
abbrev cX1_walk : ByteArray := prog_3_method_13_code
def yX1_walk : MethodName := ⟨RX1, "walk", "(II)I"⟩
abbrev cX1_walkBack : ByteArray := prog_3_method_14_code
def yX1_walkBack : MethodName := ⟨RX1, "walkBack", "(II)I"⟩
abbrev cX1_periodOf : ByteArray := prog_3_method_15_code
def yX1_periodOf : MethodName := ⟨RX1, "periodOf", "(I)I"⟩
abbrev cX1_learnKept : ByteArray := prog_3_method_16_code
def yX1_learnKept : MethodName := ⟨RX1, "learnKept", "()V"⟩
abbrev cX1_keeps : ByteArray := prog_3_method_17_code
def yX1_keeps : MethodName := ⟨RX1, "keeps", "(II)Z"⟩
abbrev cX1_spotWhereKept : ByteArray := prog_3_method_18_code
def yX1_spotWhereKept : MethodName := ⟨RX1, "spotWhereKept", "(II)I"⟩
abbrev cX1_ranked : ByteArray := prog_3_method_19_code
def yX1_ranked : MethodName := ⟨RX1, "ranked", "(I)I"⟩
abbrev cX1_reachOf : ByteArray := prog_3_method_20_code
def yX1_reachOf : MethodName := ⟨RX1, "reachOf", "(LKeptCurves$SpotSet;I)I"⟩
abbrev cX1_reach : ByteArray := prog_3_method_21_code
def yX1_reach : MethodName := ⟨RX1, "reach", "(II)I"⟩
def RX2 : String := "KeptCurves$Degrees"
def TX2 : u_T := fun k => match k with
  | 0 => ("KeptCurves$Degrees", "x", "LKeptCurves$Fraction;", true)
  | 1 => ("KeptCurves$Degrees", "y", "LKeptCurves$Fraction;", true)
  | 2 => ("KeptCurves$Degrees", "squares", "[LKeptCurves$Poly;", true)
  | 3 => ("KeptCurves$Degrees", "above", "[LKeptCurves$Poly;", true)
  | 4 => ("KeptCurves$Degrees", "below", "[LKeptCurves$Poly;", true)
  | 5 => ("KeptCurves$Degrees", "p", "LKeptCurves$Poly;", true)
  | 6 => ("KeptCurves$Degrees", "q", "LKeptCurves$Poly;", true)
  | 7 => ("KeptCurves$Degrees", "\x72", "LKeptCurves$Poly;", true)
  | 8 => ("KeptCurves$Degrees", "u", "LKeptCurves$Poly;", true)
  | 9 => ("KeptCurves$Degrees", "v", "LKeptCurves$Poly;", true)
  | 10 => ("KeptCurves$Degrees", "left", "LKeptCurves$Poly;", true)
  | 11 => ("KeptCurves$Degrees", "right", "LKeptCurves$Poly;", true)
  | _ => ("KeptCurves$Degrees", "spare", "LKeptCurves$Poly;", true)
def tyX2 : Nat → FieldType := fun k => match k with
  | 0 => .object "KeptCurves$Fraction"
  | 1 => .object "KeptCurves$Fraction"
  | 2 => .array (.object "KeptCurves$Poly")
  | 3 => .array (.object "KeptCurves$Poly")
  | 4 => .array (.object "KeptCurves$Poly")
  | 5 => .object "KeptCurves$Poly"
  | 6 => .object "KeptCurves$Poly"
  | 7 => .object "KeptCurves$Poly"
  | 8 => .object "KeptCurves$Poly"
  | 9 => .object "KeptCurves$Poly"
  | 10 => .object "KeptCurves$Poly"
  | 11 => .object "KeptCurves$Poly"
  | _ => .object "KeptCurves$Poly"
abbrev wsX20 : List Cond := u_ws RX2 TX2 13
theorem nmX2 : ∀ a, a < 13 → ∀ b, b < 13 → a ≠ b → (TX2 a).2.1 ≠ (TX2 b).2.1 := by decide +kernel
theorem tyX2_ok : ∀ k, k < 13 → parseFieldDescriptor (TX2 k).2.2.1 = some (tyX2 k) := by decide +kernel
abbrev cX2_init : ByteArray := prog_4_method_1_code
def yX2_init : MethodName := ⟨RX2, "<init>", "()V"⟩
abbrev cX2_behindSteps : ByteArray := prog_4_method_2_code
def yX2_behindSteps : MethodName := ⟨RX2, "behindSteps", "(LKeptCurves$Tables;III)I"⟩
abbrev cX2_swaps : ByteArray := prog_4_method_3_code
def yX2_swaps : MethodName := ⟨RX2, "swaps", "(LKeptCurves$Tables;ILKeptCurves$Fraction;LKeptCurves$Fraction;)Z"⟩
abbrev cX2_readSquares : ByteArray := prog_4_method_4_code
def yX2_readSquares : MethodName := ⟨RX2, "readSquares", "(LKeptCurves$Fraction;)V"⟩
abbrev cX2_readRow : ByteArray := prog_4_method_5_code
def yX2_readRow : MethodName := ⟨RX2, "readRow", "(LKeptCurves$Poly;LKeptCurves$Tables;III)V"⟩
abbrev cX2_readCross : ByteArray := prog_4_method_6_code
def yX2_readCross : MethodName := ⟨RX2, "readCross", "(LKeptCurves$Poly;II)V"⟩
abbrev cX2_commonFactor : ByteArray := prog_4_method_7_code
def yX2_commonFactor : MethodName := ⟨RX2, "commonFactor", "()LKeptCurves$Poly;"⟩
def RX3 : String := "KeptCurves$Fraction"
def TX3 : u_T := fun k => match k with
  | 0 => ("KeptCurves$Fraction", "above", "LKeptCurves$Poly;", true)
  | _ => ("KeptCurves$Fraction", "below", "LKeptCurves$Poly;", true)
def tyX3 : Nat → FieldType := fun k => match k with
  | 0 => .object "KeptCurves$Poly"
  | _ => .object "KeptCurves$Poly"
abbrev wsX30 : List Cond := u_ws RX3 TX3 2
theorem nmX3 : ∀ a, a < 2 → ∀ b, b < 2 → a ≠ b → (TX3 a).2.1 ≠ (TX3 b).2.1 := by decide +kernel
theorem tyX3_ok : ∀ k, k < 2 → parseFieldDescriptor (TX3 k).2.2.1 = some (tyX3 k) := by decide +kernel
abbrev cX3_init : ByteArray := prog_5_method_1_code
def yX3_init : MethodName := ⟨RX3, "<init>", "()V"⟩
abbrev cX3_ofDegree : ByteArray := prog_5_method_2_code
def yX3_ofDegree : MethodName := ⟨RX3, "ofDegree", "()I"⟩
def RX4 : String := "KeptCurves$Lists"
def TX4 : u_T := fun k => match k with
  | 0 => ("KeptCurves$Lists", "sizes", "[I", true)
  | _ => ("KeptCurves$Lists", "numbers", "[I", true)
def tyX4 : Nat → FieldType := fun k => match k with
  | 0 => .array .int
  | _ => .array .int
abbrev wsX40 : List Cond := u_ws RX4 TX4 2
theorem nmX4 : ∀ a, a < 2 → ∀ b, b < 2 → a ≠ b → (TX4 a).2.1 ≠ (TX4 b).2.1 := by decide +kernel
theorem tyX4_ok : ∀ k, k < 2 → parseFieldDescriptor (TX4 k).2.2.1 = some (tyX4 k) := by decide +kernel
abbrev cX4_init : ByteArray := prog_6_method_1_code
def yX4_init : MethodName := ⟨RX4, "<init>", "()V"⟩
abbrev cX4_isList : ByteArray := prog_6_method_2_code
def yX4_isList : MethodName := ⟨RX4, "isList", "(I)Z"⟩
abbrev cX4_sizeOf : ByteArray := prog_6_method_3_code
def yX4_sizeOf : MethodName := ⟨RX4, "sizeOf", "(I)I"⟩
abbrev cX4_hasPlace : ByteArray := prog_6_method_4_code
def yX4_hasPlace : MethodName := ⟨RX4, "hasPlace", "(II)Z"⟩
abbrev cX4_numberAt : ByteArray := prog_6_method_5_code
def yX4_numberAt : MethodName := ⟨RX4, "numberAt", "(II)I"⟩
abbrev cX4_change : ByteArray := prog_6_method_6_code
def yX4_change : MethodName := ⟨RX4, "change", "(III)V"⟩
abbrev cX4_renew : ByteArray := prog_6_method_7_code
def yX4_renew : MethodName := ⟨RX4, "renew", "(II)V"⟩
def RX5 : String := "KeptCurves$Loops"
def TX5 : u_T := fun k => match k with
  | 0 => ("KeptCurves$Loops", "nameOf", "[I", true)
  | 1 => ("KeptCurves$Loops", "sizeOf", "[I", true)
  | 2 => ("KeptCurves$Loops", "marks", "[I", true)
  | 3 => ("KeptCurves$Loops", "tally", "[I", true)
  | _ => ("KeptCurves$Loops", "version", "I", false)
def tyX5 : Nat → FieldType := fun k => match k with
  | 0 => .array .int
  | 1 => .array .int
  | 2 => .array .int
  | 3 => .array .int
  | _ => .int
abbrev wsX50 : List Cond := u_ws RX5 TX5 5
theorem nmX5 : ∀ a, a < 5 → ∀ b, b < 5 → a ≠ b → (TX5 a).2.1 ≠ (TX5 b).2.1 := by decide +kernel
theorem tyX5_ok : ∀ k, k < 5 → parseFieldDescriptor (TX5 k).2.2.1 = some (tyX5 k) := by decide +kernel
abbrev cX5_init : ByteArray := prog_7_method_1_code
def yX5_init : MethodName := ⟨RX5, "<init>", "()V"⟩
abbrev cX5_learn : ByteArray := prog_7_method_2_code
def yX5_learn : MethodName := ⟨RX5, "learn", "(LKeptCurves$Curve;)V"⟩
abbrev cX5_isUnmarked : ByteArray := prog_7_method_3_code
def yX5_isUnmarked : MethodName := ⟨RX5, "isUnmarked", "(I)Z"⟩
abbrev cX5_goRound : ByteArray := prog_7_method_4_code
def yX5_goRound : MethodName := ⟨RX5, "goRound", "(LKeptCurves$Curve;I)V"⟩
abbrev cX5_countThrough : ByteArray := prog_7_method_5_code
def yX5_countThrough : MethodName := ⟨RX5, "countThrough", "(LKeptCurves$Curve;I)V"⟩
abbrev cX5_tallyOne : ByteArray := prog_7_method_6_code
def yX5_tallyOne : MethodName := ⟨RX5, "tallyOne", "(I)V"⟩
abbrev cX5_total : ByteArray := prog_7_method_7_code
def yX5_total : MethodName := ⟨RX5, "total", "(I)I"⟩
abbrev cX5_ofLength : ByteArray := prog_7_method_8_code
def yX5_ofLength : MethodName := ⟨RX5, "ofLength", "(I)I"⟩
def RX6 : String := "KeptCurves$Plan"
def TX6 : u_T := fun k => match k with
  | 0 => ("KeptCurves$Plan", "whats", "[I", true)
  | 1 => ("KeptCurves$Plan", "amounts", "[I", true)
  | _ => ("KeptCurves$Plan", "size", "I", false)
def tyX6 : Nat → FieldType := fun k => match k with
  | 0 => .array .int
  | 1 => .array .int
  | _ => .int
abbrev wsX60 : List Cond := u_ws RX6 TX6 3
theorem nmX6 : ∀ a, a < 3 → ∀ b, b < 3 → a ≠ b → (TX6 a).2.1 ≠ (TX6 b).2.1 := by decide +kernel
theorem tyX6_ok : ∀ k, k < 3 → parseFieldDescriptor (TX6 k).2.2.1 = some (tyX6 k) := by decide +kernel
abbrev cX6_init : ByteArray := prog_8_method_1_code
def yX6_init : MethodName := ⟨RX6, "<init>", "()V"⟩
abbrev cX6_isFull : ByteArray := prog_8_method_2_code
def yX6_isFull : MethodName := ⟨RX6, "isFull", "()Z"⟩
abbrev cX6_takes : ByteArray := prog_8_method_3_code
def yX6_takes : MethodName := ⟨RX6, "takes", "(II)Z"⟩
abbrev cX6_add : ByteArray := prog_8_method_4_code
def yX6_add : MethodName := ⟨RX6, "add", "(II)V"⟩
abbrev cX6_copyFrom : ByteArray := prog_8_method_5_code
def yX6_copyFrom : MethodName := ⟨RX6, "copyFrom", "(LKeptCurves$Plan;)V"⟩
abbrev cX6_endOf : ByteArray := prog_8_method_6_code
def yX6_endOf : MethodName := ⟨RX6, "endOf", "(LKeptCurves$Curve;I)I"⟩
abbrev cX6_swappedIfItGoes : ByteArray := prog_8_method_7_code
def yX6_swappedIfItGoes : MethodName := ⟨RX6, "swappedIfItGoes", "(LKeptCurves$Curve;II)I"⟩
abbrev cX6_steppedAsFarAsItGoes : ByteArray := prog_8_method_8_code
def yX6_steppedAsFarAsItGoes : MethodName := ⟨RX6, "steppedAsFarAsItGoes", "(LKeptCurves$Curve;ZII)I"⟩
def RX7 : String := "KeptCurves$Poly"
def TX7 : u_T := fun k => match k with
  | 0 => ("KeptCurves$Poly", "numbers", "[I", true)
  | _ => ("KeptCurves$Poly", "size", "I", false)
def tyX7 : Nat → FieldType := fun k => match k with
  | 0 => .array .int
  | _ => .int
abbrev wsX70 : List Cond := u_ws RX7 TX7 2
theorem nmX7 : ∀ a, a < 2 → ∀ b, b < 2 → a ≠ b → (TX7 a).2.1 ≠ (TX7 b).2.1 := by decide +kernel
theorem tyX7_ok : ∀ k, k < 2 → parseFieldDescriptor (TX7 k).2.2.1 = some (tyX7 k) := by decide +kernel
abbrev cX7_init : ByteArray := prog_9_method_1_code
def yX7_init : MethodName := ⟨RX7, "<init>", "()V"⟩
abbrev cX7_isZero : ByteArray := prog_9_method_2_code
def yX7_isZero : MethodName := ⟨RX7, "isZero", "()Z"⟩
abbrev cX7_clear : ByteArray := prog_9_method_3_code
def yX7_clear : MethodName := ⟨RX7, "clear", "()V"⟩
abbrev cX7_becomeNumber : ByteArray := prog_9_method_4_code
def yX7_becomeNumber : MethodName := ⟨RX7, "becomeNumber", "(I)V"⟩
abbrev cX7_becomeUnknown : ByteArray := prog_9_method_5_code
def yX7_becomeUnknown : MethodName := ⟨RX7, "becomeUnknown", "()V"⟩
abbrev cX7_copyFrom : ByteArray := prog_9_method_6_code
def yX7_copyFrom : MethodName := ⟨RX7, "copyFrom", "(LKeptCurves$Poly;)V"⟩
abbrev cX7_trim : ByteArray := prog_9_method_7_code
def yX7_trim : MethodName := ⟨RX7, "trim", "(I)V"⟩
abbrev cX7_addTimes : ByteArray := prog_9_method_8_code
def yX7_addTimes : MethodName := ⟨RX7, "addTimes", "(LKeptCurves$Poly;I)V"⟩
abbrev cX7_addProduct : ByteArray := prog_9_method_9_code
def yX7_addProduct : MethodName := ⟨RX7, "addProduct", "(LKeptCurves$Poly;LKeptCurves$Poly;I)V"⟩
abbrev cX7_divide : ByteArray := prog_9_method_10_code
def yX7_divide : MethodName := ⟨RX7, "divide", "(LKeptCurves$Poly;LKeptCurves$Poly;)V"⟩
def RX8 : String := "KeptCurves$SpotSet"
def TX8 : u_T := fun k => match k with
  | 0 => ("KeptCurves$SpotSet", "places", "[I", true)
  | _ => ("KeptCurves$SpotSet", "size", "I", false)
def tyX8 : Nat → FieldType := fun k => match k with
  | 0 => .array .int
  | _ => .int
abbrev wsX80 : List Cond := u_ws RX8 TX8 2
theorem nmX8 : ∀ a, a < 2 → ∀ b, b < 2 → a ≠ b → (TX8 a).2.1 ≠ (TX8 b).2.1 := by decide +kernel
theorem tyX8_ok : ∀ k, k < 2 → parseFieldDescriptor (TX8 k).2.2.1 = some (tyX8 k) := by decide +kernel
abbrev cX8_init : ByteArray := prog_10_method_1_code
def yX8_init : MethodName := ⟨RX8, "<init>", "()V"⟩
abbrev cX8_isFull : ByteArray := prog_10_method_2_code
def yX8_isFull : MethodName := ⟨RX8, "isFull", "()Z"⟩
abbrev cX8_holds : ByteArray := prog_10_method_3_code
def yX8_holds : MethodName := ⟨RX8, "holds", "(I)Z"⟩
abbrev cX8_spotAt : ByteArray := prog_10_method_4_code
def yX8_spotAt : MethodName := ⟨RX8, "spotAt", "(I)I"⟩
abbrev cX8_add : ByteArray := prog_10_method_5_code
def yX8_add : MethodName := ⟨RX8, "add", "(I)V"⟩
abbrev cX8_remove : ByteArray := prog_10_method_6_code
def yX8_remove : MethodName := ⟨RX8, "remove", "(I)V"⟩
abbrev cX8_copyFrom : ByteArray := prog_10_method_7_code
def yX8_copyFrom : MethodName := ⟨RX8, "copyFrom", "(LKeptCurves$SpotSet;)V"⟩
abbrev cX8_becomeSteps : ByteArray := prog_10_method_8_code
def yX8_becomeSteps : MethodName := ⟨RX8, "becomeSteps", "(LKeptCurves$SpotSet;LKeptCurves$Curve;)V"⟩
def RX9 : String := "KeptCurves$Tables"
def TX9 : u_T := fun k => match k with
  | _ => ("KeptCurves$Tables", "numbers", "[I", true)
def tyX9 : Nat → FieldType := fun k => match k with
  | _ => .array .int
abbrev wsX90 : List Cond := u_ws RX9 TX9 1
theorem nmX9 : ∀ a, a < 1 → ∀ b, b < 1 → a ≠ b → (TX9 a).2.1 ≠ (TX9 b).2.1 := by decide +kernel
theorem tyX9_ok : ∀ k, k < 1 → parseFieldDescriptor (TX9 k).2.2.1 = some (tyX9 k) := by decide +kernel
abbrev cX9_init : ByteArray := prog_11_method_1_code
def yX9_init : MethodName := ⟨RX9, "<init>", "()V"⟩
abbrev cX9_numberAt : ByteArray := prog_11_method_2_code
def yX9_numberAt : MethodName := ⟨RX9, "numberAt", "(III)I"⟩
abbrev cX9_change : ByteArray := prog_11_method_3_code
def yX9_change : MethodName := ⟨RX9, "change", "(IIII)V"⟩
abbrev cX9_copyFrom : ByteArray := prog_11_method_4_code
def yX9_copyFrom : MethodName := ⟨RX9, "copyFrom", "(LKeptCurves$Tables;)V"⟩
abbrev cX9_notZero : ByteArray := prog_11_method_5_code
def yX9_notZero : MethodName := ⟨RX9, "notZero", "()I"⟩
abbrev cX9_numberAlong : ByteArray := prog_11_method_6_code
def yX9_numberAlong : MethodName := ⟨RX9, "numberAlong", "(IIII)I"⟩
abbrev cX9_sumAt : ByteArray := prog_11_method_7_code
def yX9_sumAt : MethodName := ⟨RX9, "sumAt", "(IIII)I"⟩
abbrev cX9_valueAt : ByteArray := prog_11_method_8_code
def yX9_valueAt : MethodName := ⟨RX9, "valueAt", "(III)I"⟩
abbrev cX9_quotientAt : ByteArray := prog_11_method_9_code
def yX9_quotientAt : MethodName := ⟨RX9, "quotientAt", "(II)I"⟩
abbrev cX9_numbersKeeping : ByteArray := prog_11_method_10_code
def yX9_numbersKeeping : MethodName := ⟨RX9, "numbersKeeping", "(IIIIII)J"⟩
def RX10 : String := "KeptCurves"
def TX10 : u_T := fun k => match k with
  | 0 => ("KeptCurves", "curve", "LKeptCurves$Curve;", true)
  | 1 => ("KeptCurves", "loops", "LKeptCurves$Loops;", true)
  | 2 => ("KeptCurves", "degrees", "LKeptCurves$Degrees;", true)
  | 3 => ("KeptCurves", "spots", "LKeptCurves$SpotSet;", true)
  | 4 => ("KeptCurves", "after", "LKeptCurves$SpotSet;", true)
  | 5 => ("KeptCurves", "rows", "LKeptCurves$Plan;", true)
  | 6 => ("KeptCurves", "tape", "LKeptCurves$Bytes;", true)
  | 7 => ("KeptCurves", "sheet", "LKeptCurves$Bytes;", true)
  | 8 => ("KeptCurves", "lists", "LKeptCurves$Lists;", true)
  | 9 => ("KeptCurves", "sums", "[I", true)
  | 10 => ("KeptCurves", "imageTables", "LKeptCurves$Tables;", true)
  | 11 => ("KeptCurves", "imageSpots", "LKeptCurves$SpotSet;", true)
  | 12 => ("KeptCurves", "imageRows", "LKeptCurves$Plan;", true)
  | _ => ("KeptCurves", "imageTaken", "Z", false)
def tyX10 : Nat → FieldType := fun k => match k with
  | 0 => .object "KeptCurves$Curve"
  | 1 => .object "KeptCurves$Loops"
  | 2 => .object "KeptCurves$Degrees"
  | 3 => .object "KeptCurves$SpotSet"
  | 4 => .object "KeptCurves$SpotSet"
  | 5 => .object "KeptCurves$Plan"
  | 6 => .object "KeptCurves$Bytes"
  | 7 => .object "KeptCurves$Bytes"
  | 8 => .object "KeptCurves$Lists"
  | 9 => .array .int
  | 10 => .object "KeptCurves$Tables"
  | 11 => .object "KeptCurves$SpotSet"
  | 12 => .object "KeptCurves$Plan"
  | _ => .boolean
abbrev wsX100 : List Cond := u_ws RX10 TX10 14
theorem nmX10 : ∀ a, a < 14 → ∀ b, b < 14 → a ≠ b → (TX10 a).2.1 ≠ (TX10 b).2.1 := by decide +kernel
theorem tyX10_ok : ∀ k, k < 14 → parseFieldDescriptor (TX10 k).2.2.1 = some (tyX10 k) := by decide +kernel
abbrev cX10_init : ByteArray := prog_1_method_1_code
def yX10_init : MethodName := ⟨RX10, "<init>", "()V"⟩
abbrev cX10_set : ByteArray := prog_1_method_2_code
def yX10_set : MethodName := ⟨RX10, "set", "(IIII)I"⟩
abbrev cX10_of : ByteArray := prog_1_method_3_code
def yX10_of : MethodName := ⟨RX10, "of", "(III)I"⟩
abbrev cX10_feed : ByteArray := prog_1_method_4_code
def yX10_feed : MethodName := ⟨RX10, "feed", "(I)I"⟩
abbrev cX10_table : ByteArray := prog_1_method_5_code
def yX10_table : MethodName := ⟨RX10, "table", "(I)I"⟩
abbrev cX10_value : ByteArray := prog_1_method_6_code
def yX10_value : MethodName := ⟨RX10, "value", "(III)I"⟩
abbrev cX10_kept : ByteArray := prog_1_method_7_code
def yX10_kept : MethodName := ⟨RX10, "kept", "(II)I"⟩
abbrev cX10_swap : ByteArray := prog_1_method_8_code
def yX10_swap : MethodName := ⟨RX10, "swap", "(III)I"⟩
abbrev cX10_row : ByteArray := prog_1_method_9_code
def yX10_row : MethodName := ⟨RX10, "row", "(III)I"⟩
abbrev cX10_pinched : ByteArray := prog_1_method_10_code
def yX10_pinched : MethodName := ⟨RX10, "pinched", "(I)J"⟩
abbrev cX10_behind : ByteArray := prog_1_method_11_code
def yX10_behind : MethodName := ⟨RX10, "behind", "(III)I"⟩
abbrev cX10_period : ByteArray := prog_1_method_12_code
def yX10_period : MethodName := ⟨RX10, "period", "(II)I"⟩
abbrev cX10_fibre : ByteArray := prog_1_method_13_code
def yX10_fibre : MethodName := ⟨RX10, "fibre", "(II)I"⟩
abbrev cX10_base : ByteArray := prog_1_method_14_code
def yX10_base : MethodName := ⟨RX10, "base", "(I)I"⟩
abbrev cX10_rank : ByteArray := prog_1_method_15_code
def yX10_rank : MethodName := ⟨RX10, "rank", "(I)I"⟩
abbrev cX10_cycles : ByteArray := prog_1_method_16_code
def yX10_cycles : MethodName := ⟨RX10, "cycles", "(II)I"⟩
abbrev cX10_degree : ByteArray := prog_1_method_17_code
def yX10_degree : MethodName := ⟨RX10, "degree", "(III)I"⟩
abbrev cX10_tell : ByteArray := prog_1_method_18_code
def yX10_tell : MethodName := ⟨RX10, "tell", "(II)I"⟩
abbrev cX10_forget : ByteArray := prog_1_method_19_code
def yX10_forget : MethodName := ⟨RX10, "forget", "(II)I"⟩
abbrev cX10_told : ByteArray := prog_1_method_20_code
def yX10_told : MethodName := ⟨RX10, "told", "(I)I"⟩
abbrev cX10_moved : ByteArray := prog_1_method_21_code
def yX10_moved : MethodName := ⟨RX10, "moved", "(I)I"⟩
abbrev cX10_move : ByteArray := prog_1_method_22_code
def yX10_move : MethodName := ⟨RX10, "move", "()I"⟩
abbrev cX10_grows : ByteArray := prog_1_method_23_code
def yX10_grows : MethodName := ⟨RX10, "grows", "(I)I"⟩
abbrev cX10_were : ByteArray := prog_1_method_24_code
def yX10_were : MethodName := ⟨RX10, "were", "(IIIIII)J"⟩
abbrev cX10_odds : ByteArray := prog_1_method_25_code
def yX10_odds : MethodName := ⟨RX10, "odds", "(IIII)J"⟩
abbrev cX10_plan : ByteArray := prog_1_method_26_code
def yX10_plan : MethodName := ⟨RX10, "plan", "(II)I"⟩
abbrev cX10_ends : ByteArray := prog_1_method_27_code
def yX10_ends : MethodName := ⟨RX10, "ends", "(II)I"⟩
abbrev cX10_write : ByteArray := prog_1_method_28_code
def yX10_write : MethodName := ⟨RX10, "write", "(I)I"⟩
abbrev cX10_paper : ByteArray := prog_1_method_29_code
def yX10_paper : MethodName := ⟨RX10, "paper", "(I)I"⟩
abbrev cX10_judge : ByteArray := prog_1_method_30_code
def yX10_judge : MethodName := ⟨RX10, "judge", "(III)I"⟩
abbrev cX10_list : ByteArray := prog_1_method_31_code
def yX10_list : MethodName := ⟨RX10, "list", "(II)I"⟩
abbrev cX10_put : ByteArray := prog_1_method_32_code
def yX10_put : MethodName := ⟨RX10, "put", "(III)I"⟩
abbrev cX10_get : ByteArray := prog_1_method_33_code
def yX10_get : MethodName := ⟨RX10, "get", "(II)J"⟩
abbrev cX10_image : ByteArray := prog_1_method_34_code
def yX10_image : MethodName := ⟨RX10, "image", "()I"⟩
abbrev cX10_undo : ByteArray := prog_1_method_35_code
def yX10_undo : MethodName := ⟨RX10, "undo", "()I"⟩
abbrev cX10_count : ByteArray := prog_1_method_36_code
def yX10_count : MethodName := ⟨RX10, "count", "(I)I"⟩
abbrev cX10_isNumber : ByteArray := prog_1_method_37_code
def yX10_isNumber : MethodName := ⟨RX10, "isNumber", "(I)Z"⟩
abbrev cX10_isCoordinate : ByteArray := prog_1_method_38_code
def yX10_isCoordinate : MethodName := ⟨RX10, "isCoordinate", "(I)Z"⟩
abbrev cX10_isSpot : ByteArray := prog_1_method_39_code
def yX10_isSpot : MethodName := ⟨RX10, "isSpot", "(II)Z"⟩
abbrev cX10_isAxis : ByteArray := prog_1_method_40_code
def yX10_isAxis : MethodName := ⟨RX10, "isAxis", "(I)Z"⟩
abbrev cX10_isTable : ByteArray := prog_1_method_41_code
def yX10_isTable : MethodName := ⟨RX10, "isTable", "(I)Z"⟩
abbrev cX10_isPower : ByteArray := prog_1_method_42_code
def yX10_isPower : MethodName := ⟨RX10, "isPower", "(III)Z"⟩
abbrev cX10_modulo : ByteArray := prog_1_method_43_code
def yX10_modulo : MethodName := ⟨RX10, "modulo", "(I)I"⟩
abbrev cX10_quotient : ByteArray := prog_1_method_44_code
def yX10_quotient : MethodName := ⟨RX10, "quotient", "(II)I"⟩
abbrev cX10_quadraticAt : ByteArray := prog_1_method_45_code
def yX10_quadraticAt : MethodName := ⟨RX10, "quadraticAt", "(IIII)I"⟩
abbrev cX10_powerAt : ByteArray := prog_1_method_46_code
def yX10_powerAt : MethodName := ⟨RX10, "powerAt", "(II)I"⟩
abbrev cX10_drawn : ByteArray := prog_1_method_47_code
def yX10_drawn : MethodName := ⟨RX10, "drawn", "(I)I"⟩
abbrev cX10_commonDivisor : ByteArray := prog_1_method_48_code
def yX10_commonDivisor : MethodName := ⟨RX10, "commonDivisor", "(II)I"⟩
def RX11 : String := "KeptCurvesModel"
def TX11 : u_T := fun k => match k with
  | 0 => ("KeptCurvesModel", "g", "[I", true)
  | 1 => ("KeptCurvesModel", "kept", "[I", true)
  | 2 => ("KeptCurvesModel", "isKept", "Z", false)
  | 3 => ("KeptCurvesModel", "keeps", "[I", true)
  | 4 => ("KeptCurvesModel", "sizes", "[I", true)
  | 5 => ("KeptCurvesModel", "to", "[I", true)
  | 6 => ("KeptCurvesModel", "isSeen", "[Z", true)
  | 7 => ("KeptCurvesModel", "often", "[I", true)
  | 8 => ("KeptCurvesModel", "xUp", "[I", true)
  | 9 => ("KeptCurvesModel", "xDown", "[I", true)
  | 10 => ("KeptCurvesModel", "yUp", "[I", true)
  | 11 => ("KeptCurvesModel", "yDown", "[I", true)
  | 12 => ("KeptCurvesModel", "rows", "[[I", true)
  | 13 => ("KeptCurvesModel", "p", "[I", true)
  | 14 => ("KeptCurvesModel", "q", "[I", true)
  | 15 => ("KeptCurvesModel", "\x72", "[I", true)
  | 16 => ("KeptCurvesModel", "first", "[I", true)
  | 17 => ("KeptCurvesModel", "second", "[I", true)
  | 18 => ("KeptCurvesModel", "third", "[I", true)
  | 19 => ("KeptCurvesModel", "u", "[I", true)
  | 20 => ("KeptCurvesModel", "v", "[I", true)
  | 21 => ("KeptCurvesModel", "has", "[Z", true)
  | 22 => ("KeptCurvesModel", "tape", "[I", true)
  | 23 => ("KeptCurvesModel", "taped", "I", false)
  | 24 => ("KeptCurvesModel", "at", "I", false)
  | 25 => ("KeptCurvesModel", "read", "[I", true)
  | 26 => ("KeptCurvesModel", "paper", "[I", true)
  | 27 => ("KeptCurvesModel", "signs", "I", false)
  | 28 => ("KeptCurvesModel", "lengths", "[I", true)
  | _ => ("KeptCurvesModel", "items", "[[I", true)
def tyX11 : Nat → FieldType := fun k => match k with
  | 0 => .array .int
  | 1 => .array .int
  | 2 => .boolean
  | 3 => .array .int
  | 4 => .array .int
  | 5 => .array .int
  | 6 => .array .boolean
  | 7 => .array .int
  | 8 => .array .int
  | 9 => .array .int
  | 10 => .array .int
  | 11 => .array .int
  | 12 => .array (.array .int)
  | 13 => .array .int
  | 14 => .array .int
  | 15 => .array .int
  | 16 => .array .int
  | 17 => .array .int
  | 18 => .array .int
  | 19 => .array .int
  | 20 => .array .int
  | 21 => .array .boolean
  | 22 => .array .int
  | 23 => .int
  | 24 => .int
  | 25 => .array .int
  | 26 => .array .int
  | 27 => .int
  | 28 => .array .int
  | _ => .array (.array .int)
abbrev wsX110 : List Cond := u_ws RX11 TX11 30
theorem nmX11 : ∀ a, a < 30 → ∀ b, b < 30 → a ≠ b → (TX11 a).2.1 ≠ (TX11 b).2.1 := by decide +kernel
theorem tyX11_ok : ∀ k, k < 30 → parseFieldDescriptor (TX11 k).2.2.1 = some (tyX11 k) := by decide +kernel
abbrev cX11_init : ByteArray := prog_13_method_1_code
def yX11_init : MethodName := ⟨RX11, "<init>", "()V"⟩
abbrev cX11_in : ByteArray := prog_13_method_2_code
def yX11_in : MethodName := ⟨RX11, "in", "(JJJ)Z"⟩
abbrev cX11_mod : ByteArray := prog_13_method_3_code
def yX11_mod : MethodName := ⟨RX11, "mod", "(I)I"⟩
abbrev cX11_inverse : ByteArray := prog_13_method_4_code
def yX11_inverse : MethodName := ⟨RX11, "inverse", "(I)I"⟩
abbrev cX11_by : ByteArray := prog_13_method_5_code
def yX11_by : MethodName := ⟨RX11, "by", "(II)I"⟩
abbrev cX11_isCoordinate : ByteArray := prog_13_method_6_code
def yX11_isCoordinate : MethodName := ⟨RX11, "isCoordinate", "(I)Z"⟩
abbrev cX11_isSpot : ByteArray := prog_13_method_7_code
def yX11_isSpot : MethodName := ⟨RX11, "isSpot", "(II)Z"⟩
abbrev cX11_placeOf : ByteArray := prog_13_method_8_code
def yX11_placeOf : MethodName := ⟨RX11, "placeOf", "(III)I"⟩
abbrev cX11_isPlace : ByteArray := prog_13_method_9_code
def yX11_isPlace : MethodName := ⟨RX11, "isPlace", "(III)Z"⟩
abbrev cX11_set : ByteArray := prog_13_method_10_code
def yX11_set : MethodName := ⟨RX11, "set", "(IIII)I"⟩
abbrev cX11_of : ByteArray := prog_13_method_11_code
def yX11_of : MethodName := ⟨RX11, "of", "(III)I"⟩
abbrev cX11_power : ByteArray := prog_13_method_12_code
def yX11_power : MethodName := ⟨RX11, "power", "(II)I"⟩
abbrev cX11_valueAt : ByteArray := prog_13_method_13_code
def yX11_valueAt : MethodName := ⟨RX11, "valueAt", "(III)I"⟩
abbrev cX11_value : ByteArray := prog_13_method_14_code
def yX11_value : MethodName := ⟨RX11, "value", "(III)I"⟩
abbrev cX11_keptAt : ByteArray := prog_13_method_15_code
def yX11_keptAt : MethodName := ⟨RX11, "keptAt", "(II)I"⟩
abbrev cX11_kept : ByteArray := prog_13_method_16_code
def yX11_kept : MethodName := ⟨RX11, "kept", "(II)I"⟩
abbrev cX11_rowAt : ByteArray := prog_13_method_17_code
def yX11_rowAt : MethodName := ⟨RX11, "rowAt", "(IIII)I"⟩
abbrev cX11_crossed : ByteArray := prog_13_method_18_code
def yX11_crossed : MethodName := ⟨RX11, "crossed", "(III)I"⟩
abbrev cX11_row : ByteArray := prog_13_method_19_code
def yX11_row : MethodName := ⟨RX11, "row", "(III)I"⟩
abbrev cX11_other : ByteArray := prog_13_method_20_code
def yX11_other : MethodName := ⟨RX11, "other", "(III)I"⟩
abbrev cX11_swap : ByteArray := prog_13_method_21_code
def yX11_swap : MethodName := ⟨RX11, "swap", "(III)I"⟩
abbrev cX11_pinched : ByteArray := prog_13_method_22_code
def yX11_pinched : MethodName := ⟨RX11, "pinched", "(I)J"⟩
abbrev cX11_swapped : ByteArray := prog_13_method_23_code
def yX11_swapped : MethodName := ⟨RX11, "swapped", "(II)I"⟩
abbrev cX11_step : ByteArray := prog_13_method_24_code
def yX11_step : MethodName := ⟨RX11, "step", "(IZ)I"⟩
abbrev cX11_behind : ByteArray := prog_13_method_25_code
def yX11_behind : MethodName := ⟨RX11, "behind", "(III)I"⟩
abbrev cX11_period : ByteArray := prog_13_method_26_code
def yX11_period : MethodName := ⟨RX11, "period", "(II)I"⟩
abbrev cX11_findsKept : ByteArray := prog_13_method_27_code
def yX11_findsKept : MethodName := ⟨RX11, "findsKept", "()V"⟩
abbrev cX11_nth : ByteArray := prog_13_method_28_code
def yX11_nth : MethodName := ⟨RX11, "nth", "(II)I"⟩
abbrev cX11_fibre : ByteArray := prog_13_method_29_code
def yX11_fibre : MethodName := ⟨RX11, "fibre", "(II)I"⟩
abbrev cX11_base : ByteArray := prog_13_method_30_code
def yX11_base : MethodName := ⟨RX11, "base", "(I)I"⟩
abbrev cX11_rank : ByteArray := prog_13_method_31_code
def yX11_rank : MethodName := ⟨RX11, "rank", "(I)I"⟩
abbrev cX11_lengthOf : ByteArray := prog_13_method_32_code
def yX11_lengthOf : MethodName := ⟨RX11, "lengthOf", "(I)I"⟩
abbrev cX11_findsCycles : ByteArray := prog_13_method_33_code
def yX11_findsCycles : MethodName := ⟨RX11, "findsCycles", "(I)V"⟩
abbrev cX11_cycles : ByteArray := prog_13_method_34_code
def yX11_cycles : MethodName := ⟨RX11, "cycles", "(II)I"⟩
abbrev cX11_becomes : ByteArray := prog_13_method_35_code
def yX11_becomes : MethodName := ⟨RX11, "becomes", "([I[I)V"⟩
abbrev cX11_constant : ByteArray := prog_13_method_36_code
def yX11_constant : MethodName := ⟨RX11, "constant", "([II)V"⟩
abbrev cX11_trims : ByteArray := prog_13_method_37_code
def yX11_trims : MethodName := ⟨RX11, "trims", "([II)V"⟩
abbrev cX11_sums : ByteArray := prog_13_method_38_code
def yX11_sums : MethodName := ⟨RX11, "sums", "([II[II[I)V"⟩
abbrev cX11_times : ByteArray := prog_13_method_39_code
def yX11_times : MethodName := ⟨RX11, "times", "([I[I[I)V"⟩
abbrev cX11_divides : ByteArray := prog_13_method_40_code
def yX11_divides : MethodName := ⟨RX11, "divides", "([I[I[I)V"⟩
abbrev cX11_lowers : ByteArray := prog_13_method_41_code
def yX11_lowers : MethodName := ⟨RX11, "lowers", "([I[I)V"⟩
abbrev cX11_rowsAt : ByteArray := prog_13_method_42_code
def yX11_rowsAt : MethodName := ⟨RX11, "rowsAt", "(I[I[I)V"⟩
abbrev cX11_crosses : ByteArray := prog_13_method_43_code
def yX11_crosses : MethodName := ⟨RX11, "crosses", "([III)V"⟩
abbrev cX11_isSwapped : ByteArray := prog_13_method_44_code
def yX11_isSwapped : MethodName := ⟨RX11, "isSwapped", "(I[I[I[I[I)Z"⟩
abbrev cX11_degree : ByteArray := prog_13_method_45_code
def yX11_degree : MethodName := ⟨RX11, "degree", "(III)I"⟩
abbrev cX11_placeIn : ByteArray := prog_13_method_46_code
def yX11_placeIn : MethodName := ⟨RX11, "placeIn", "(I)I"⟩
abbrev cX11_isTold : ByteArray := prog_13_method_47_code
def yX11_isTold : MethodName := ⟨RX11, "isTold", "(I)Z"⟩
abbrev cX11_tell : ByteArray := prog_13_method_48_code
def yX11_tell : MethodName := ⟨RX11, "tell", "(II)I"⟩
abbrev cX11_forget : ByteArray := prog_13_method_49_code
def yX11_forget : MethodName := ⟨RX11, "forget", "(II)I"⟩
abbrev cX11_told : ByteArray := prog_13_method_50_code
def yX11_told : MethodName := ⟨RX11, "told", "(I)I"⟩
abbrev cX11_moves : ByteArray := prog_13_method_51_code
def yX11_moves : MethodName := ⟨RX11, "moves", "()V"⟩
abbrev cX11_moved : ByteArray := prog_13_method_52_code
def yX11_moved : MethodName := ⟨RX11, "moved", "(I)I"⟩
abbrev cX11_move : ByteArray := prog_13_method_53_code
def yX11_move : MethodName := ⟨RX11, "move", "()I"⟩
abbrev cX11_grows : ByteArray := prog_13_method_54_code
def yX11_grows : MethodName := ⟨RX11, "grows", "(I)I"⟩
abbrev cX11_were : ByteArray := prog_13_method_55_code
def yX11_were : MethodName := ⟨RX11, "were", "(IIIIII)J"⟩
abbrev cX11_common : ByteArray := prog_13_method_56_code
def yX11_common : MethodName := ⟨RX11, "common", "(II)I"⟩
abbrev cX11_odds : ByteArray := prog_13_method_57_code
def yX11_odds : MethodName := ⟨RX11, "odds", "(IIII)J"⟩
abbrev cX11_plan : ByteArray := prog_13_method_58_code
def yX11_plan : MethodName := ⟨RX11, "plan", "(II)I"⟩
abbrev cX11_ends : ByteArray := prog_13_method_59_code
def yX11_ends : MethodName := ⟨RX11, "ends", "(II)I"⟩
abbrev cX11_feed : ByteArray := prog_13_method_60_code
def yX11_feed : MethodName := ⟨RX11, "feed", "(I)I"⟩
abbrev cX11_here : ByteArray := prog_13_method_61_code
def yX11_here : MethodName := ⟨RX11, "here", "()I"⟩
abbrev cX11_often : ByteArray := prog_13_method_62_code
def yX11_often : MethodName := ⟨RX11, "often", "(I)I"⟩
abbrev cX11_isTerm : ByteArray := prog_13_method_63_code
def yX11_isTerm : MethodName := ⟨RX11, "isTerm", "()Z"⟩
abbrev cX11_table : ByteArray := prog_13_method_64_code
def yX11_table : MethodName := ⟨RX11, "table", "(I)I"⟩
abbrev cX11_writes : ByteArray := prog_13_method_65_code
def yX11_writes : MethodName := ⟨RX11, "writes", "(II)V"⟩
abbrev cX11_write : ByteArray := prog_13_method_66_code
def yX11_write : MethodName := ⟨RX11, "write", "(I)I"⟩
abbrev cX11_paper : ByteArray := prog_13_method_67_code
def yX11_paper : MethodName := ⟨RX11, "paper", "(I)I"⟩
abbrev cX11_isList : ByteArray := prog_13_method_68_code
def yX11_isList : MethodName := ⟨RX11, "isList", "(I)Z"⟩
abbrev cX11_judge : ByteArray := prog_13_method_69_code
def yX11_judge : MethodName := ⟨RX11, "judge", "(III)I"⟩
abbrev cX11_list : ByteArray := prog_13_method_70_code
def yX11_list : MethodName := ⟨RX11, "list", "(II)I"⟩
abbrev cX11_put : ByteArray := prog_13_method_71_code
def yX11_put : MethodName := ⟨RX11, "put", "(III)I"⟩
abbrev cX11_get : ByteArray := prog_13_method_72_code
def yX11_get : MethodName := ⟨RX11, "get", "(II)J"⟩
abbrev cX11_image : ByteArray := prog_13_method_73_code
def yX11_image : MethodName := ⟨RX11, "image", "()I"⟩
abbrev cX11_undo : ByteArray := prog_13_method_74_code
def yX11_undo : MethodName := ⟨RX11, "undo", "()I"⟩
abbrev cX11_count : ByteArray := prog_13_method_75_code
def yX11_count : MethodName := ⟨RX11, "count", "(I)I"⟩
def RJ9 : String := "java/lang/Math"
abbrev cJ9_floorMod_7cf53 : ByteArray := prog_14_method_50_code
def yJ9_floorMod_7cf53 : MethodName := ⟨RJ9, "floorMod", "(II)I"⟩
abbrev cJ9_max_7cf53 : ByteArray := prog_14_method_65_code
def yJ9_max_7cf53 : MethodName := ⟨RJ9, "max", "(II)I"⟩
abbrev cJ9_min_7cf53 : ByteArray := prog_14_method_69_code
def yJ9_min_7cf53 : MethodName := ⟨RJ9, "min", "(II)I"⟩
def RJ10 : String := "java/lang/System"
def RL : String := "KeptCurvesLaw"
abbrev cL_law : ByteArray := code
def yL_law : MethodName := ⟨RL, "law", "([I)Z"⟩
abbrev vwCl : List vw_C := [(RX0, TX0, 2), (RX1, TX1, 10), (RX2, TX2, 13), (RX3, TX3, 2), (RX4, TX4, 2), (RX5, TX5, 5), (RX6, TX6, 3), (RX7, TX7, 2), (RX8, TX8, 2), (RX9, TX9, 1), (RX10, TX10, 14), (RX11, TX11, 30)]
end
section
/-! The abstract machine over the kit's rows: ints are Int (read modulo 2 ^ 32), references are numbers of cells -/
abbrev ax_V : Type := Int ⊕ (Int ⊕ Nat)
abbrev ax_i (n : Int) : ax_V := .inl n
abbrev ax_l (n : Int) : ax_V := .inr (.inl n)
abbrev ax_r (a : Nat) : ax_V := .inr (.inr a)
def ax_tr (ad : Nat → Nat) : ax_V → Value
  | .inl n => .int (Int32.ofInt n)
  | .inr (.inl n) => .long (Int64.ofInt n)
  | .inr (.inr a) => .ref (ad a)
abbrev ax_H : Type := Nat → Int → Int
abbrev ax_Sh : Type := List (Nat × Nat × List (Option Nat))
/-- the words that every method may use -/
def ax_tb : List Cond := lw_tbl.filter goodWord
/-- a method: its name, code, number of locals, answer -/
abbrev ax_K : Type := MethodName × ByteArray × Nat × Option FieldType
abbrev ax_L : Type := List (Option ax_V)
def ax_lv (ad : Nat → Nat) : Nat → ax_L → List (Nat × Value)
  | _, [] => []
  | i, none :: r => ax_lv ad (i + 1) r
  | i, some v :: r => (i, ax_tr ad v) :: ax_lv ad (i + 1) r
def ax_ent : List ax_V → ax_L
  | [] => []
  | .inr (.inl n) :: r => some (.inr (.inl n)) :: none :: ax_ent r
  | v :: r => some v :: ax_ent r
abbrev ax_pad (n : Nat) (l : ax_L) : ax_L := l ++ List.replicate (n - l.length) none
/-- in the range of an int, of a long -/
abbrev ax_R (n : Int) : Prop := -2147483648 ≤ n ∧ n < 2147483648
abbrev ax_R8 (n : Int) : Prop := -9223372036854775808 ≤ n ∧ n < 9223372036854775808
/-- which fields are references -/
def ax_fr : List (List Bool) := [
  [true, false],
  [true, false, false, false, true, true, true, true, true, true],
  [true, true, true, true, true, true, true, true, true, true, true, true, true],
  [true, true],
  [true, true],
  [true, true, true, true, false],
  [true, true, false],
  [true, false],
  [true, false],
  [true],
  [true, true, true, true, true, true, true, true, true, true, true, true, true, false],
  [true, true, false, true, true, true, true, true, true, true, true, true, true, true, true, true, true, true, true, true, true, true, true, false, false, true, true, false, true, true]]
def ax_isr (ci j : Nat) : Bool := (ax_fr.getD ci []).getD j false
abbrev ax_Cs : Type := ClassId × ClassId × ClassId × ClassId
def ax_cell (cs : ax_Cs) (ad : Nat → Nat) (I : ax_H) (i : Nat) (r : Nat × Nat × List (Option Nat)) : va_E :=
  if r.1 < 100 then .inr (r.1, (List.range r.2.1).map (fun j => if ax_isr r.1 j then va_rf ((r.2.2.getD j none).map ad) else .int (Int32.ofInt (I i (j : Int)))))
  else if r.1 = 100 then .inl (cs.1, r.2.1, .inl (fun j => Int32.ofInt (I i (j : Int))))
  else if r.1 = 101 then .inl (cs.2.1, r.2.1, .inl (fun j => Int32.ofInt (I i (j : Int))))
  else if r.1 = 102 then .inl (cs.2.2.1, r.2.1, .inr (.inr (.inr (.inr (fun j => (r.2.2.getD j none).map ad)))))
  else .inl (cs.2.2.2, r.2.1, .inr (.inr (.inr (.inr (fun j => (r.2.2.getD j none).map ad)))))
abbrev ax_tys (cs : ax_Cs) : List (ClassId × FieldType) := [(cs.1, .int), (cs.2.1, .boolean), (cs.2.2.1, .object "KeptCurves$Poly"), (cs.2.2.2, .array .int)]
def ax_w (cs : ax_Cs) (ad : Nat → Nat) (S : ax_Sh) (I : ax_H) : va_W := (List.range S.length).map (fun i => (ad i, ax_cell cs ad I i (S.getD i (0, 0, []))))
/-- the numbers of KeptCurves.INVERSE -/
def ax_invL : List Int := [0, 1, 16, 21, 8, 25, 26, 9, 4, 7, 28, 17, 13, 12, 20, 29, 2, 11, 19, 18, 14, 3, 24, 27, 22, 5, 6, 23, 10, 15, 30]
def ax_inv (n : Int) : Int := ax_invL.getD n.toNat 0
def ax_sc (ad : Nat → Nat) (A : Nat → Prop) (s : State) (sc : Option (Nat × (Int → Int))) : Prop :=
  match sc with
  | none => True
  | some (L, xs) => va_X (ad 1000001) L (fun j => Int32.ofInt (xs (j : Int))) s s.heap ∧ ad 1000001 < s.heap.size ∧ ¬ A (ad 1000001)
/-- the world: its cells, the classes, what has moved, the static row, the script -/
def ax_X (D : va_G) (cs : ax_Cs) (A : Nat → Prop) (s : State) (H : Heap) (locs : List Loc) (ad : Nat → Nat) (S : ax_Sh) (I : ax_H) (sc : Option (Nat × (Int → Int))) : Prop :=
  va_P D vwCl (ax_w cs ad S I) H ∧ va_D A (ax_w cs ad S I) ∧ va_K D vwCl (ax_tys cs) s ∧ va_S A s.heap H locs ∧ (∀ q, s.heap.size ≤ q → A q) ∧
  va_Z "KeptCurves" "INVERSE" "[I" (.ref (ad 1000000)) A s s.heap ∧ va_T .int (ad 1000000) 31 (fun j => .int (Int32.ofInt (ax_inv (j : Int)))) A s s.heap ∧ (∀ a i, ax_R (I a i)) ∧ ax_sc ad A s sc
/-- the frame of a method -/
def ax_C (k : ax_K) (p : Program) (s : State) (m : MethodId) (args : Array Value) (meth : Method) (c : Code) : Prop :=
  p.tables.exec = Jvm.exec ∧ c.code = k.2.1 ∧ c.maxLocals = k.2.2.1 ∧ s.vm.findClass k.1.cls = some m.cls ∧ (∀ w ∈ ax_tb, w.before args s = true) ∧ meth.sig.returnType = k.2.2.2 ∧ meth.locks = false ∧ (k.1.name = "<init>" → meth.name = "<init>")
def ax_isRet (k : ax_K) (pc : Nat) (v : Option ax_V) : Prop :=
  match v with
  | none => decode k.2.1 pc = .ok (.return_, 1) ∧ k.2.2.2 = none
  | some (.inl n) => decode k.2.1 pc = .ok (.ireturn, 1) ∧ ∃ ty, k.2.2.2 = some ty ∧ narrow ty (.int (Int32.ofInt n)) = .int (Int32.ofInt n)
  | some (.inr (.inl _)) => decode k.2.1 pc = .ok (.lreturn, 1) ∧ k.2.2.2 = some .long
  | some (.inr (.inr _)) => decode k.2.1 pc = .ok (.areturn, 1) ∧ ∃ n, k.2.2.2 = some (.object n)
def ax_ext (S : ax_Sh) (ad : Nat → Nat) (S' : ax_Sh) (ad' : Nat → Nat) : Prop := S.length ≤ S'.length ∧ (∀ i, i < S.length ∨ 1000000 ≤ i → ad' i = ad i) ∧ (S'.length = S.length → ad' = ad)
/-- the room: depth of the calls, cells, slots; the script -/
abbrev ax_D : Type := Nat × Nat × Nat × Option (Nat × (Int → Int))
/-- from this point of the method k it comes to a return, with Q of the answer and the world -/
def Rn (dd : ax_D) (k : ax_K) (pc : Nat) (ls : ax_L) (st : List ax_V) (S : ax_Sh) (I : ax_H) (Q : Option ax_V → ax_Sh → ax_H → Prop) : Prop :=
  ∀ (p : Program) (l : Launch) (e : Env) (R : Room) (s : State) (m : MethodId) (args : Array Value) (below : List Frame) (meth : Method) (c : Code) (QQ : State → Prop) (D : va_G) (cs : ax_Cs) (A : Nat → Prop) (MC MS : Nat),
    ax_C k p s m args meth c → dd.1 ≤ R.frames → 60 * dd.1 ≤ R.locals → MC ≤ R.cells → MS ≤ R.slots →
    ∀ (H : Heap) (locs : List Loc) (cells slots : Nat) (ad : Nat → Nat) (ls' : Array Slot), ax_X D cs A s H locs ad S I dd.2.2.2 → lv_has ls' k.2.2.1 (ax_lv ad 0 ls) → cells + dd.2.1 ≤ MC → slots + dd.2.2.1 ≤ MS →
    (∀ (pc' : Nat) (ls' : Array Slot) (v : Option ax_V) (S' : ax_Sh) (I' : ax_H) (ad' : Nat → Nat) (H' : Heap) (locs' : List Loc), Q v S' I' → ax_X D cs A s H' locs' ad' S' I' dd.2.2.2 → ax_isRet k pc' v → ax_ext S ad S' ad' →
      W p l e R s m args below meth c H' locs' MC MS QQ (F0 m pc' ls' (v.toList.map (ax_tr ad')))) →
    W p l e R s m args below meth c H locs cells slots QQ (F0 m pc ls' (st.map (ax_tr ad)))
theorem ax_ext.rf (S : ax_Sh) (ad : Nat → Nat) : ax_ext S ad S ad := ⟨Nat.le_refl _, fun _ _ => rfl, fun _ => rfl⟩
theorem ax_ext.len {S S' T : ax_Sh} {ad ad' : Nat → Nat} (h : ax_ext S ad S' ad') (e : T.length = S.length) : ax_ext T ad S' ad' := by
  unfold ax_ext at *
  rw [e]; exact h
/-- a step that leaves the world as it is -/
theorem ax_pure {dd : ax_D} {k : ax_K} {pc pc' : Nat} {ls ls2 : ax_L} {st st2 : List ax_V} {S : ax_Sh} {I : ax_H} {Q : Option ax_V → ax_Sh → ax_H → Prop}
    (K : Rn dd k pc' ls2 st2 S I Q)
    (h : ∀ (p : Program) (l : Launch) (e : Env) (R : Room) (s : State) (m : MethodId) (args : Array Value) (below : List Frame) (meth : Method) (c : Code) (QQ : State → Prop) (D : va_G) (cs : ax_Cs) (A : Nat → Prop) (H : Heap) (locs : List Loc) (cells slots : Nat) (ad : Nat → Nat) (ls' : Array Slot),
      ax_C k p s m args meth c → ax_X D cs A s H locs ad S I dd.2.2.2 → lv_has ls' k.2.2.1 (ax_lv ad 0 ls) → dd.1 ≤ R.frames → 60 * dd.1 ≤ R.locals →
      (∀ ls2' : Array Slot, lv_has ls2' k.2.2.1 (ax_lv ad 0 ls2) → W p l e R s m args below meth c H locs cells slots QQ (F0 m pc' ls2' (st2.map (ax_tr ad)))) →
      W p l e R s m args below meth c H locs cells slots QQ (F0 m pc ls' (st.map (ax_tr ad)))) :
    Rn dd k pc ls st S I Q := by
  intro p l e R s m args below meth c QQ D cs A MC MS C h1 h2 h3 h4 H locs cells slots ad ls' X hl hc hs hk
  exact h p l e R s m args below meth c QQ D cs A H locs cells slots ad ls' C X hl h1 h2 (fun ls2' hl2 => K p l e R s m args below meth c QQ D cs A MC MS C h1 h2 h3 h4 H locs cells slots ad ls2' X hl2 hc hs hk)
theorem ax_lv_get {ad : Nat → Nat} : ∀ (ls : ax_L) (b i : Nat) (v : ax_V), ls[i]? = some (some v) → (b + i, ax_tr ad v) ∈ ax_lv ad b ls
  | [], _, _, _, h => by simp at h
  | none :: r, b, i, v, h => by
    cases i with
    | zero => simp at h
    | succ i =>
      have := ax_lv_get (ad := ad) r (b + 1) i v (by simpa using h)
      simp only [ax_lv]
      rw [show b + (i + 1) = b + 1 + i by omega]; exact this
  | some w :: r, b, i, v, h => by
    cases i with
    | zero =>
      simp at h
      subst h
      simp [ax_lv]
    | succ i =>
      have := ax_lv_get (ad := ad) r (b + 1) i v (by simpa using h)
      simp only [ax_lv]
      rw [show b + (i + 1) = b + 1 + i by omega]; exact List.mem_cons_of_mem _ this
theorem ax_lv_mem {ad : Nat → Nat} : ∀ (ls : ax_L) (b : Nat) (q : Nat × Value), q ∈ ax_lv ad b ls → ∃ (i : Nat) (v : ax_V), ls[i]? = some (some v) ∧ q = (b + i, ax_tr ad v)
  | [], _, _, h => by simp [ax_lv] at h
  | none :: r, b, q, h => by
    obtain ⟨i, v, h1, h2⟩ := ax_lv_mem r (b + 1) q (by simpa [ax_lv] using h)
    exact ⟨i + 1, v, by simpa using h1, by rw [h2]; congr 1; omega⟩
  | some w :: r, b, q, h => by
    simp only [ax_lv, List.mem_cons] at h
    rcases h with rfl | h
    · exact ⟨0, w, by simp, rfl⟩
    · obtain ⟨i, v, h1, h2⟩ := ax_lv_mem r (b + 1) q h
      exact ⟨i + 1, v, by simpa using h1, by rw [h2]; congr 1; omega⟩
/-- reading a local -/
theorem ax_lat {ls' : Array Slot} {n : Nat} {ad : Nat → Nat} {ls : ax_L} (h : lv_has ls' n (ax_lv ad 0 ls)) {i : Nat} {v : ax_V} (hv : ls[i]? = some (some v)) : ls'[i]? = some (.val (ax_tr ad v)) := by
  have := h.2.2 _ (ax_lv_get ls 0 i v hv)
  simpa using this
theorem ax_lsub {ls' : Array Slot} {n : Nat} {l l2 : List (Nat × Value)} (h : lv_has ls' n l) (hs : ∀ q ∈ l2, q ∈ l) : lv_has ls' n l2 := ⟨h.1, h.2.1, fun q hq => h.2.2 q (hs q hq)⟩
def ax_long : Option (Option ax_V) → Bool
  | some (some (.inr (.inl _))) => true
  | _ => false
/-- locals behind a store of one word; no long may stand just ahead -/
def ax_ok1 (ls : ax_L) (i : Nat) : Bool := i < ls.length && !(0 < i && ax_long ls[i - 1]?)
theorem ax_tr_cat (ad : Nat → Nat) (v : ax_V) : (ax_tr ad v).category = 2 → ∃ n, v = .inr (.inl n) := by
  rcases v with n | n | a
  · intro h; simp [ax_tr, Value.category] at h
  · intro _; exact ⟨n, rfl⟩
  · intro h; simp [ax_tr, Value.category] at h
theorem ax_set1 {ad : Nat → Nat} {ls : ax_L} {i : Nat} {v : ax_V} (hok : ax_ok1 ls i = true) : ∀ q ∈ ax_lv ad 0 (ls.set i (some v)), q ∈ (i, ax_tr ad v) :: (ax_lv ad 0 ls).filter (fun q => !(q.1 == i) && !(q.1 + 1 == i && q.2.category == 2)) := by
  intro q hq
  obtain ⟨j, w, h1, rfl⟩ := ax_lv_mem _ _ _ hq
  simp only [ax_ok1, Bool.and_eq_true, decide_eq_true_eq, Bool.not_eq_true', Bool.and_eq_false_iff] at hok
  rw [List.getElem?_set] at h1
  by_cases hij : i = j
  · subst hij
    rw [if_pos rfl, if_pos hok.1] at h1
    simp at h1
    subst h1
    simp
  · rw [if_neg hij] at h1
    refine List.mem_cons_of_mem _ (List.mem_filter.mpr ⟨ax_lv_get ls 0 j w h1, ?_⟩)
    simp only [Nat.zero_add, Bool.and_eq_true, Bool.not_eq_true', beq_eq_false_iff_ne, ne_eq, Bool.and_eq_false_iff]
    refine ⟨fun h => hij h.symm, ?_⟩
    by_cases hc : (ax_tr ad w).category = 2
    · left
      intro hji
      obtain ⟨n, rfl⟩ := ax_tr_cat ad w hc
      rcases hok.2 with h | h
      · simp at h; omega
      · rw [show i - 1 = j by omega, h1] at h
        simp [ax_long] at h
    · right; exact hc
def ax_ok2 (ls : ax_L) (i : Nat) : Bool := i + 1 < ls.length && !(0 < i && ax_long ls[i - 1]?)
theorem ax_set2 {ad : Nat → Nat} {ls : ax_L} {i : Nat} {v : ax_V} (hok : ax_ok2 ls i = true) : ∀ q ∈ ax_lv ad 0 ((ls.set i (some v)).set (i + 1) none), q ∈ (i, ax_tr ad v) :: (ax_lv ad 0 ls).filter (fun q => !(q.1 == i) && (!(q.1 == i + 1) && !(q.1 + 1 == i && q.2.category == 2))) := by
  intro q hq
  obtain ⟨j, w, h1, rfl⟩ := ax_lv_mem _ _ _ hq
  simp only [ax_ok2, Bool.and_eq_true, decide_eq_true_eq, Bool.not_eq_true', Bool.and_eq_false_iff] at hok
  rw [List.getElem?_set] at h1
  by_cases hi1 : i + 1 = j
  · subst hi1
    rw [if_pos rfl] at h1
    have : i + 1 < (ls.set i (some v)).length := by simpa using hok.1
    rw [if_pos this] at h1
    simp at h1
  · rw [if_neg hi1, List.getElem?_set] at h1
    by_cases hij : i = j
    · subst hij
      rw [if_pos rfl, if_pos (by omega)] at h1
      simp at h1
      subst h1
      simp
    · rw [if_neg hij] at h1
      refine List.mem_cons_of_mem _ (List.mem_filter.mpr ⟨ax_lv_get ls 0 j w h1, ?_⟩)
      simp only [Nat.zero_add, Bool.and_eq_true, Bool.not_eq_true', beq_eq_false_iff_ne, ne_eq, Bool.and_eq_false_iff]
      refine ⟨fun h => hij h.symm, fun h => hi1 h.symm, ?_⟩
      by_cases hc : (ax_tr ad w).category = 2
      · left
        intro hji
        obtain ⟨n, rfl⟩ := ax_tr_cat ad w hc
        rcases hok.2 with h | h
        · simp at h; omega
        · rw [show i - 1 = j by omega, h1] at h
          simp [ax_long] at h
      · right; exact hc
/-- fewer locals are known -/
def ax_le : ax_L → ax_L → Bool
  | [], _ => true
  | none :: r, _ :: r2 => ax_le r r2
  | none :: r, [] => ax_le r []
  | some _ :: _, [] => false
  | some v :: r, w :: r2 => decide (w = some v) && ax_le r r2
end
section
theorem ax_to {n : Int} (h : ax_R n) : (Int32.ofInt n).toInt = n := by
  rw [Int32.toInt_ofInt]
  have : (Int32.size : Int) = 4294967296 := by decide
  unfold Int.bmod
  obtain ⟨h1, h2⟩ := h
  have e : Int32.size = 4294967296 := by decide
  simp only [e]
  split <;> omega
theorem ax_to8 {n : Int} (h : ax_R8 n) : (Int64.ofInt n).toInt = n := by
  rw [Int64.toInt_ofInt]
  unfold Int.bmod
  obtain ⟨h1, h2⟩ := h
  have e : Int64.size = 18446744073709551616 := by decide
  simp only [e]
  split <;> omega
theorem ax_lt {x y : Int} (hx : ax_R x) (hy : ax_R y) : Int32.ofInt x < Int32.ofInt y ↔ x < y := by
  rw [Int32.lt_iff_toInt_lt, ax_to hx, ax_to hy]
theorem ax_lei {x y : Int} (hx : ax_R x) (hy : ax_R y) : Int32.ofInt x ≤ Int32.ofInt y ↔ x ≤ y := by
  rw [Int32.le_iff_toInt_le, ax_to hx, ax_to hy]
theorem ax_eq {x y : Int} (hx : ax_R x) (hy : ax_R y) : Int32.ofInt x = Int32.ofInt y ↔ x = y := by
  rw [← Int32.toInt_inj, ax_to hx, ax_to hy]
theorem ax_R0 : ax_R 0 := by decide
theorem ax_nat {n : Int} (h0 : 0 ≤ n) (h1 : n < 2147483648) : (Int32.ofInt n).toNatClampNeg = n.toNat := by
  have : (Int32.ofInt n).toInt = n := ax_to ⟨by omega, h1⟩
  show (Int32.ofInt n).toInt.toNat = n.toNat
  rw [this]
theorem ax_in {n : Int} {N : Nat} (h0 : 0 ≤ n) (h1 : n < (N : Int)) (hN : N < 2147483648) : vp_in (Int32.ofInt n) N := by
  unfold vp_in
  rw [ax_nat h0 (by omega)]
  intro h
  rcases h with h | h
  · have := (ax_lt (x := n) (y := 0) ⟨by omega, by omega⟩ ax_R0).mp h
    omega
  · omega
section
variable {dd : ax_D} {k : ax_K} {pc : Nat} {ls : ax_L} {st : List ax_V} {S : ax_Sh} {I : ax_H} {Q : Option ax_V → ax_Sh → ax_H → Prop}
theorem r_iconst {n : Int} (hd : decode k.2.1 pc = .ok (.iconst n, 1)) (K : Rn dd k (pc + 1) ls (ax_i n :: st) S I Q) : Rn dd k pc ls st S I Q :=
  ax_pure K fun _ _ _ _ _ _ _ _ _ _ _ _ _ _ _ _ _ _ _ ls' C _ hl _ _ w => lv_iconst C.1 C.2.1 hd rfl (w ls' hl)
theorem r_bipush {n v : Int} (hd : decode k.2.1 pc = .ok (.bipush n, 2)) (hv : (Int8.ofInt n).toInt32 = Int32.ofInt v) (K : Rn dd k (pc + 2) ls (ax_i v :: st) S I Q) : Rn dd k pc ls st S I Q :=
  ax_pure K fun _ _ _ _ _ _ _ _ _ _ _ _ _ _ _ _ _ _ _ ls' C _ hl _ _ w => lv_bipush C.1 C.2.1 hd hv (w ls' hl)
theorem r_sipush {n v : Int} (hd : decode k.2.1 pc = .ok (.sipush n, 3)) (hv : (Int16.ofInt n).toInt32 = Int32.ofInt v) (K : Rn dd k (pc + 3) ls (ax_i v :: st) S I Q) : Rn dd k pc ls st S I Q :=
  ax_pure K fun _ _ _ _ _ _ _ _ _ _ _ _ _ _ _ _ _ _ _ ls' C _ hl _ _ w => lv_sipush C.1 C.2.1 hd hv (w ls' hl)
theorem r_lconst {n : Fin 2} {v : Int} (hd : decode k.2.1 pc = .ok (.lconst n, 1)) (hv : Int64.ofNat (n : Nat) = Int64.ofInt v) (K : Rn dd k (pc + 1) ls (ax_l v :: st) S I Q) : Rn dd k pc ls st S I Q :=
  ax_pure K fun _ _ _ _ _ _ _ _ _ _ _ _ _ _ _ _ _ _ _ ls' C _ hl _ _ w => lv_lconst C.1 C.2.1 hd hv (w ls' hl)
theorem r_iload_n {i : Fin 4} {x : Int} (hd : decode k.2.1 pc = .ok (.iload_n i, 1)) (hv : ls[(i : Nat)]? = some (some (ax_i x))) (K : Rn dd k (pc + 1) ls (ax_i x :: st) S I Q) : Rn dd k pc ls st S I Q :=
  ax_pure K fun _ _ _ _ _ _ _ _ _ _ _ _ _ _ _ _ _ _ _ ls' C _ hl _ _ w => lv_iload_n C.1 C.2.1 hd rfl (ax_lat hl hv) (w ls' hl)
theorem r_iload {i : Nat} {x : Int} (hd : decode k.2.1 pc = .ok (.iload i, 2)) (hv : ls[i]? = some (some (ax_i x))) (K : Rn dd k (pc + 2) ls (ax_i x :: st) S I Q) : Rn dd k pc ls st S I Q :=
  ax_pure K fun _ _ _ _ _ _ _ _ _ _ _ _ _ _ _ _ _ _ _ ls' C _ hl _ _ w => lv_iload C.1 C.2.1 hd (ax_lat hl hv) (w ls' hl)
theorem r_lload_n {i : Fin 4} {x : Int} (hd : decode k.2.1 pc = .ok (.lload_n i, 1)) (hv : ls[(i : Nat)]? = some (some (ax_l x))) (K : Rn dd k (pc + 1) ls (ax_l x :: st) S I Q) : Rn dd k pc ls st S I Q :=
  ax_pure K fun _ _ _ _ _ _ _ _ _ _ _ _ _ _ _ _ _ _ _ ls' C _ hl _ _ w => lv_lload_n C.1 C.2.1 hd rfl (ax_lat hl hv) (w ls' hl)
theorem r_lload {i : Nat} {x : Int} (hd : decode k.2.1 pc = .ok (.lload i, 2)) (hv : ls[i]? = some (some (ax_l x))) (K : Rn dd k (pc + 2) ls (ax_l x :: st) S I Q) : Rn dd k pc ls st S I Q :=
  ax_pure K fun _ _ _ _ _ _ _ _ _ _ _ _ _ _ _ _ _ _ _ ls' C _ hl _ _ w => lv_lload C.1 C.2.1 hd (ax_lat hl hv) (w ls' hl)
theorem r_aload_n {i : Fin 4} {x : Nat} (hd : decode k.2.1 pc = .ok (.aload_n i, 1)) (hv : ls[(i : Nat)]? = some (some (ax_r x))) (K : Rn dd k (pc + 1) ls (ax_r x :: st) S I Q) : Rn dd k pc ls st S I Q :=
  ax_pure K fun _ _ _ _ _ _ _ _ _ _ _ _ _ _ _ _ _ _ _ ls' C _ hl _ _ w => lv_aload_n C.1 C.2.1 hd rfl (ax_lat hl hv) (w ls' hl)
theorem r_aload {i : Nat} {x : Nat} (hd : decode k.2.1 pc = .ok (.aload i, 2)) (hv : ls[i]? = some (some (ax_r x))) (K : Rn dd k (pc + 2) ls (ax_r x :: st) S I Q) : Rn dd k pc ls st S I Q :=
  ax_pure K fun _ _ _ _ _ _ _ _ _ _ _ _ _ _ _ _ _ _ _ ls' C _ hl _ _ w => lv_aload C.1 C.2.1 hd (ax_lat hl hv) (w ls' hl)
theorem r_istore_n {i : Fin 4} {x : Int} (hd : decode k.2.1 pc = .ok (.istore_n i, 1)) (hn : (i : Nat) < k.2.2.1) (ho : ax_ok1 ls i = true) (K : Rn dd k (pc + 1) (ls.set i (some (ax_i x))) st S I Q) : Rn dd k pc ls (ax_i x :: st) S I Q :=
  ax_pure K fun _ _ _ _ _ _ _ _ _ _ _ _ _ _ _ _ _ _ _ ls' C _ hl _ _ w => lv_istore_n C.1 C.2.1 hd rfl hl hn rfl fun l2 h2 => w l2 (ax_lsub h2 (ax_set1 ho))
theorem r_istore {i : Nat} {x : Int} (hd : decode k.2.1 pc = .ok (.istore i, 2)) (hn : i < k.2.2.1) (ho : ax_ok1 ls i = true) (K : Rn dd k (pc + 2) (ls.set i (some (ax_i x))) st S I Q) : Rn dd k pc ls (ax_i x :: st) S I Q :=
  ax_pure K fun _ _ _ _ _ _ _ _ _ _ _ _ _ _ _ _ _ _ _ ls' C _ hl _ _ w => lv_istore C.1 C.2.1 hd hl hn rfl fun l2 h2 => w l2 (ax_lsub h2 (ax_set1 ho))
theorem r_astore_n {i : Fin 4} {x : Nat} (hd : decode k.2.1 pc = .ok (.astore_n i, 1)) (hn : (i : Nat) < k.2.2.1) (ho : ax_ok1 ls i = true) (K : Rn dd k (pc + 1) (ls.set i (some (ax_r x))) st S I Q) : Rn dd k pc ls (ax_r x :: st) S I Q :=
  ax_pure K fun _ _ _ _ _ _ _ _ _ _ _ _ _ _ _ _ _ _ _ ls' C _ hl _ _ w => lv_astore_n C.1 C.2.1 hd rfl hl hn rfl fun l2 h2 => w l2 (ax_lsub h2 (ax_set1 ho))
theorem r_astore {i : Nat} {x : Nat} (hd : decode k.2.1 pc = .ok (.astore i, 2)) (hn : i < k.2.2.1) (ho : ax_ok1 ls i = true) (K : Rn dd k (pc + 2) (ls.set i (some (ax_r x))) st S I Q) : Rn dd k pc ls (ax_r x :: st) S I Q :=
  ax_pure K fun _ _ _ _ _ _ _ _ _ _ _ _ _ _ _ _ _ _ _ ls' C _ hl _ _ w => lv_astore C.1 C.2.1 hd hl hn rfl fun l2 h2 => w l2 (ax_lsub h2 (ax_set1 ho))
theorem r_lstore_n {i : Fin 4} {x : Int} (hd : decode k.2.1 pc = .ok (.lstore_n i, 1)) (hn : (i : Nat) + 1 < k.2.2.1) (ho : ax_ok2 ls i = true) (K : Rn dd k (pc + 1) ((ls.set i (some (ax_l x))).set (i + 1) none) st S I Q) : Rn dd k pc ls (ax_l x :: st) S I Q :=
  ax_pure K fun _ _ _ _ _ _ _ _ _ _ _ _ _ _ _ _ _ _ _ ls' C _ hl _ _ w => lv_lstore_n C.1 C.2.1 hd rfl hl hn rfl fun l2 h2 => w l2 (ax_lsub h2 (ax_set2 ho))
theorem r_lstore {i : Nat} {x : Int} (hd : decode k.2.1 pc = .ok (.lstore i, 2)) (hn : i + 1 < k.2.2.1) (ho : ax_ok2 ls i = true) (K : Rn dd k (pc + 2) ((ls.set i (some (ax_l x))).set (i + 1) none) st S I Q) : Rn dd k pc ls (ax_l x :: st) S I Q :=
  ax_pure K fun _ _ _ _ _ _ _ _ _ _ _ _ _ _ _ _ _ _ _ ls' C _ hl _ _ w => lv_lstore C.1 C.2.1 hd hl hn rfl fun l2 h2 => w l2 (ax_lsub h2 (ax_set2 ho))
theorem ax_lv_at {ad : Nat → Nat} {ls : ax_L} {i : Nat} {v : ax_V} (hv : ls[i]? = some (some v)) : ∃ q : Nat, (ax_lv ad 0 ls)[q]? = some (i, ax_tr ad v) := by
  have := ax_lv_get (ad := ad) ls 0 i v hv
  rw [Nat.zero_add] at this
  exact List.mem_iff_getElem?.mp this
theorem r_iinc {i : Nat} {n x : Int} (hd : decode k.2.1 pc = .ok (.iinc i n, 3)) (hn : i < k.2.2.1) (hv : ls[i]? = some (some (ax_i x))) (ho : ax_ok1 ls i = true) (K : Rn dd k (pc + 3) (ls.set i (some (ax_i (x + n)))) st S I Q) : Rn dd k pc ls st S I Q :=
  ax_pure K fun _ _ _ _ _ _ _ _ _ _ _ _ _ _ _ _ _ _ ad ls' C _ hl _ _ w => by
    obtain ⟨q, hq⟩ := ax_lv_at (ad := ad) hv
    exact lv_iinc C.1 C.2.1 hd hl hq (by rw [← Int32.ofInt_add]) hn rfl fun l2 h2 => w l2 (ax_lsub h2 (ax_set1 ho))
theorem r_iadd {x y : Int} (hd : decode k.2.1 pc = .ok (.iadd, 1)) (K : Rn dd k (pc + 1) ls (ax_i (x + y) :: st) S I Q) : Rn dd k pc ls (ax_i y :: ax_i x :: st) S I Q :=
  ax_pure K fun _ _ _ _ _ _ _ _ _ _ _ _ _ _ _ _ _ _ _ ls' C _ hl _ _ w => lv_iadd C.1 C.2.1 hd (by rw [← Int32.ofInt_add]; exact w ls' hl)
theorem r_isub {x y : Int} (hd : decode k.2.1 pc = .ok (.isub, 1)) (K : Rn dd k (pc + 1) ls (ax_i (x - y) :: st) S I Q) : Rn dd k pc ls (ax_i y :: ax_i x :: st) S I Q :=
  ax_pure K fun _ _ _ _ _ _ _ _ _ _ _ _ _ _ _ _ _ _ _ ls' C _ hl _ _ w => lv_isub C.1 C.2.1 hd (by rw [← Int32.ofInt_sub]; exact w ls' hl)
theorem r_imul {x y : Int} (hd : decode k.2.1 pc = .ok (.imul, 1)) (K : Rn dd k (pc + 1) ls (ax_i (x * y) :: st) S I Q) : Rn dd k pc ls (ax_i y :: ax_i x :: st) S I Q :=
  ax_pure K fun _ _ _ _ _ _ _ _ _ _ _ _ _ _ _ _ _ _ _ ls' C _ hl _ _ w => lv_imul C.1 C.2.1 hd (by rw [← Int32.ofInt_mul]; exact w ls' hl)
theorem r_ineg {x : Int} (hd : decode k.2.1 pc = .ok (.ineg, 1)) (K : Rn dd k (pc + 1) ls (ax_i (-x) :: st) S I Q) : Rn dd k pc ls (ax_i x :: st) S I Q :=
  ax_pure K fun _ _ _ _ _ _ _ _ _ _ _ _ _ _ _ _ _ _ _ ls' C _ hl _ _ w => lv_ineg C.1 C.2.1 hd (by rw [← Int32.ofInt_neg]; exact w ls' hl)
theorem ax_div {x y : Int} (hx : ax_R x) (hy : ax_R y) : Int32.ofInt x / Int32.ofInt y = Int32.ofInt (x.tdiv y) := by
  rw [← Int32.toInt_inj, Int32.toInt_div, ax_to hx, ax_to hy, Int32.toInt_ofInt]
theorem r_idiv {x y : Int} (hd : decode k.2.1 pc = .ok (.idiv, 1)) (hx : ax_R x) (hy : ax_R y) (hne : y ≠ 0) (K : Rn dd k (pc + 1) ls (ax_i (x.tdiv y) :: st) S I Q) : Rn dd k pc ls (ax_i y :: ax_i x :: st) S I Q :=
  ax_pure K fun _ _ _ _ _ _ _ _ _ _ _ _ _ _ _ _ _ _ _ ls' C _ hl _ _ w => lv_idiv C.1 C.2.1 hd (fun h => hne ((ax_eq hy ax_R0).mp h)) (by rw [ax_div hx hy]; exact w ls' hl)
theorem r_irem {x y : Int} (hd : decode k.2.1 pc = .ok (.irem, 1)) (hx : ax_R x) (hy : ax_R y) (hne : y ≠ 0) (K : Rn dd k (pc + 1) ls (ax_i (x.tmod y) :: st) S I Q) : Rn dd k pc ls (ax_i y :: ax_i x :: st) S I Q :=
  ax_pure K fun _ _ _ _ _ _ _ _ _ _ _ _ _ _ _ _ _ _ _ ls' C _ hl _ _ w => lv_irem C.1 C.2.1 hd (fun h => hne ((ax_eq hy ax_R0).mp h)) (by
    rw [ax_div hx hy, ← Int32.ofInt_mul, ← Int32.ofInt_sub, show x - x.tdiv y * y = x.tmod y by have := Int.tmod_add_mul_tdiv x y; rw [Int.mul_comm] at this; omega]
    exact w ls' hl)
theorem r_idivp {x y : Int} (hd : decode k.2.1 pc = .ok (.idiv, 1)) (hx : 0 ≤ x ∧ x < 2147483648) (hy : 0 < y ∧ y < 2147483648) (K : Rn dd k (pc + 1) ls (ax_i (x / y) :: st) S I Q) : Rn dd k pc ls (ax_i y :: ax_i x :: st) S I Q :=
  r_idiv hd ⟨by omega, hx.2⟩ ⟨by omega, hy.2⟩ (by omega) (by rw [Int.tdiv_eq_ediv_of_nonneg hx.1]; exact K)
theorem r_iremp {x y : Int} (hd : decode k.2.1 pc = .ok (.irem, 1)) (hx : 0 ≤ x ∧ x < 2147483648) (hy : 0 < y ∧ y < 2147483648) (K : Rn dd k (pc + 1) ls (ax_i (x % y) :: st) S I Q) : Rn dd k pc ls (ax_i y :: ax_i x :: st) S I Q :=
  r_irem hd ⟨by omega, hx.2⟩ ⟨by omega, hy.2⟩ (by omega) (by rw [Int.tmod_eq_emod_of_nonneg hx.1]; exact K)
theorem r_dup {v : ax_V} (hd : decode k.2.1 pc = .ok (.dup, 1)) (hv : ∀ ad : Nat → Nat, (ax_tr ad v).category = 1) (K : Rn dd k (pc + 1) ls (v :: v :: st) S I Q) : Rn dd k pc ls (v :: st) S I Q :=
  ax_pure K fun _ _ _ _ _ _ _ _ _ _ _ _ _ _ _ _ _ _ ad ls' C _ hl _ _ w => lv_dup C.1 C.2.1 hd (hv ad) (w ls' hl)
theorem r_dup2 {v u : ax_V} (hd : decode k.2.1 pc = .ok (.dup2, 1)) (hv : ∀ ad : Nat → Nat, (ax_tr ad v).category = 1) (hu : ∀ ad : Nat → Nat, (ax_tr ad u).category = 1) (K : Rn dd k (pc + 1) ls (v :: u :: v :: u :: st) S I Q) : Rn dd k pc ls (v :: u :: st) S I Q :=
  ax_pure K fun _ _ _ _ _ _ _ _ _ _ _ _ _ _ _ _ _ _ ad ls' C _ hl _ _ w => lv_dup2_11 C.1 C.2.1 hd (hv ad) (hu ad) (w ls' hl)
theorem r_goto {off : Int} {tgt : Nat} (hd : decode k.2.1 pc = .ok (.goto off, 3)) (ht : (pc : Int) + off = (tgt : Int)) (K : Rn dd k tgt ls st S I Q) : Rn dd k pc ls st S I Q :=
  ax_pure K fun _ _ _ _ _ _ _ _ _ _ _ _ _ _ _ _ _ _ _ ls' C _ hl _ _ w => lv_goto C.1 C.2.1 hd ht (w ls' hl)
end
section
variable {dd : ax_D} {k : ax_K} {pc : Nat} {ls : ax_L} {st : List ax_V} {S : ax_Sh} {I : ax_H} {Q : Option ax_V → ax_Sh → ax_H → Prop}
theorem r_if_eq {x : Int} {off : Int} {tgt : Nat} (hd : decode k.2.1 pc = .ok (.ifCond .eq off, 3)) (ht : (pc : Int) + off = (tgt : Int)) (hx : ax_R x) (kt : x = 0 → Rn dd k tgt ls st S I Q) (kf : ¬ x = 0 → Rn dd k (pc + 3) ls st S I Q) : Rn dd k pc ls (ax_i x :: st) S I Q := by
  by_cases h : x = 0
  · exact ax_pure (kt h) fun _ _ _ _ _ _ _ _ _ _ _ _ _ _ _ _ _ _ _ ls' C _ hl _ _ w => lv_if_eq C.1 C.2.1 hd ht (fun _ => w ls' hl) (fun h2 => absurd h (fun h => h2 ((ax_eq hx ax_R0).mpr h)))
  · exact ax_pure (kf h) fun _ _ _ _ _ _ _ _ _ _ _ _ _ _ _ _ _ _ _ ls' C _ hl _ _ w => lv_if_eq C.1 C.2.1 hd ht (fun h2 => absurd ((ax_eq hx ax_R0).mp h2) h) (fun _ => w ls' hl)
theorem r_icmp_eq {x y : Int} {off : Int} {tgt : Nat} (hd : decode k.2.1 pc = .ok (.if_icmp .eq off, 3)) (ht : (pc : Int) + off = (tgt : Int)) (hx : ax_R x) (hy : ax_R y) (kt : x = y → Rn dd k tgt ls st S I Q) (kf : ¬ x = y → Rn dd k (pc + 3) ls st S I Q) : Rn dd k pc ls (ax_i y :: ax_i x :: st) S I Q := by
  by_cases h : x = y
  · exact ax_pure (kt h) fun _ _ _ _ _ _ _ _ _ _ _ _ _ _ _ _ _ _ _ ls' C _ hl _ _ w => lv_icmp_eq C.1 C.2.1 hd ht (fun _ => w ls' hl) (fun h2 => absurd h (fun h => h2 ((ax_eq hx hy).mpr h)))
  · exact ax_pure (kf h) fun _ _ _ _ _ _ _ _ _ _ _ _ _ _ _ _ _ _ _ ls' C _ hl _ _ w => lv_icmp_eq C.1 C.2.1 hd ht (fun h2 => absurd ((ax_eq hx hy).mp h2) h) (fun _ => w ls' hl)
theorem r_if_ne {x : Int} {off : Int} {tgt : Nat} (hd : decode k.2.1 pc = .ok (.ifCond .ne off, 3)) (ht : (pc : Int) + off = (tgt : Int)) (hx : ax_R x) (kt : x ≠ 0 → Rn dd k tgt ls st S I Q) (kf : x = 0 → Rn dd k (pc + 3) ls st S I Q) : Rn dd k pc ls (ax_i x :: st) S I Q := by
  by_cases h : x = 0
  · exact ax_pure (kf h) fun _ _ _ _ _ _ _ _ _ _ _ _ _ _ _ _ _ _ _ ls' C _ hl _ _ w => lv_if_ne C.1 C.2.1 hd ht (fun h2 => absurd ((ax_eq hx ax_R0).mpr h) h2) (fun _ => w ls' hl)
  · exact ax_pure (kt h) fun _ _ _ _ _ _ _ _ _ _ _ _ _ _ _ _ _ _ _ ls' C _ hl _ _ w => lv_if_ne C.1 C.2.1 hd ht (fun _ => w ls' hl) (fun h2 => absurd ((ax_eq hx ax_R0).mp h2) h)
theorem r_icmp_ne {x y : Int} {off : Int} {tgt : Nat} (hd : decode k.2.1 pc = .ok (.if_icmp .ne off, 3)) (ht : (pc : Int) + off = (tgt : Int)) (hx : ax_R x) (hy : ax_R y) (kt : x ≠ y → Rn dd k tgt ls st S I Q) (kf : x = y → Rn dd k (pc + 3) ls st S I Q) : Rn dd k pc ls (ax_i y :: ax_i x :: st) S I Q := by
  by_cases h : x = y
  · exact ax_pure (kf h) fun _ _ _ _ _ _ _ _ _ _ _ _ _ _ _ _ _ _ _ ls' C _ hl _ _ w => lv_icmp_ne C.1 C.2.1 hd ht (fun h2 => absurd ((ax_eq hx hy).mpr h) h2) (fun _ => w ls' hl)
  · exact ax_pure (kt h) fun _ _ _ _ _ _ _ _ _ _ _ _ _ _ _ _ _ _ _ ls' C _ hl _ _ w => lv_icmp_ne C.1 C.2.1 hd ht (fun _ => w ls' hl) (fun h2 => absurd ((ax_eq hx hy).mp h2) h)
theorem r_if_lt {x : Int} {off : Int} {tgt : Nat} (hd : decode k.2.1 pc = .ok (.ifCond .lt off, 3)) (ht : (pc : Int) + off = (tgt : Int)) (hx : ax_R x) (kt : x < 0 → Rn dd k tgt ls st S I Q) (kf : ¬ x < 0 → Rn dd k (pc + 3) ls st S I Q) : Rn dd k pc ls (ax_i x :: st) S I Q := by
  by_cases h : x < 0
  · exact ax_pure (kt h) fun _ _ _ _ _ _ _ _ _ _ _ _ _ _ _ _ _ _ _ ls' C _ hl _ _ w => lv_if_lt C.1 C.2.1 hd ht (fun _ => w ls' hl) (fun h2 => absurd h (fun h => h2 ((ax_lt hx ax_R0).mpr h)))
  · exact ax_pure (kf h) fun _ _ _ _ _ _ _ _ _ _ _ _ _ _ _ _ _ _ _ ls' C _ hl _ _ w => lv_if_lt C.1 C.2.1 hd ht (fun h2 => absurd ((ax_lt hx ax_R0).mp h2) h) (fun _ => w ls' hl)
theorem r_icmp_lt {x y : Int} {off : Int} {tgt : Nat} (hd : decode k.2.1 pc = .ok (.if_icmp .lt off, 3)) (ht : (pc : Int) + off = (tgt : Int)) (hx : ax_R x) (hy : ax_R y) (kt : x < y → Rn dd k tgt ls st S I Q) (kf : ¬ x < y → Rn dd k (pc + 3) ls st S I Q) : Rn dd k pc ls (ax_i y :: ax_i x :: st) S I Q := by
  by_cases h : x < y
  · exact ax_pure (kt h) fun _ _ _ _ _ _ _ _ _ _ _ _ _ _ _ _ _ _ _ ls' C _ hl _ _ w => lv_icmp_lt C.1 C.2.1 hd ht (fun _ => w ls' hl) (fun h2 => absurd h (fun h => h2 ((ax_lt hx hy).mpr h)))
  · exact ax_pure (kf h) fun _ _ _ _ _ _ _ _ _ _ _ _ _ _ _ _ _ _ _ ls' C _ hl _ _ w => lv_icmp_lt C.1 C.2.1 hd ht (fun h2 => absurd ((ax_lt hx hy).mp h2) h) (fun _ => w ls' hl)
theorem r_if_ge {x : Int} {off : Int} {tgt : Nat} (hd : decode k.2.1 pc = .ok (.ifCond .ge off, 3)) (ht : (pc : Int) + off = (tgt : Int)) (hx : ax_R x) (kt : 0 ≤ x → Rn dd k tgt ls st S I Q) (kf : ¬ 0 ≤ x → Rn dd k (pc + 3) ls st S I Q) : Rn dd k pc ls (ax_i x :: st) S I Q := by
  by_cases h : 0 ≤ x
  · exact ax_pure (kt h) fun _ _ _ _ _ _ _ _ _ _ _ _ _ _ _ _ _ _ _ ls' C _ hl _ _ w => lv_if_ge C.1 C.2.1 hd ht (fun _ => w ls' hl) (fun h2 => absurd h (fun h => h2 ((ax_lei ax_R0 hx).mpr h)))
  · exact ax_pure (kf h) fun _ _ _ _ _ _ _ _ _ _ _ _ _ _ _ _ _ _ _ ls' C _ hl _ _ w => lv_if_ge C.1 C.2.1 hd ht (fun h2 => absurd ((ax_lei ax_R0 hx).mp h2) h) (fun _ => w ls' hl)
theorem r_icmp_ge {x y : Int} {off : Int} {tgt : Nat} (hd : decode k.2.1 pc = .ok (.if_icmp .ge off, 3)) (ht : (pc : Int) + off = (tgt : Int)) (hx : ax_R x) (hy : ax_R y) (kt : y ≤ x → Rn dd k tgt ls st S I Q) (kf : ¬ y ≤ x → Rn dd k (pc + 3) ls st S I Q) : Rn dd k pc ls (ax_i y :: ax_i x :: st) S I Q := by
  by_cases h : y ≤ x
  · exact ax_pure (kt h) fun _ _ _ _ _ _ _ _ _ _ _ _ _ _ _ _ _ _ _ ls' C _ hl _ _ w => lv_icmp_ge C.1 C.2.1 hd ht (fun _ => w ls' hl) (fun h2 => absurd h (fun h => h2 ((ax_lei hy hx).mpr h)))
  · exact ax_pure (kf h) fun _ _ _ _ _ _ _ _ _ _ _ _ _ _ _ _ _ _ _ ls' C _ hl _ _ w => lv_icmp_ge C.1 C.2.1 hd ht (fun h2 => absurd ((ax_lei hy hx).mp h2) h) (fun _ => w ls' hl)
theorem r_if_gt {x : Int} {off : Int} {tgt : Nat} (hd : decode k.2.1 pc = .ok (.ifCond .gt off, 3)) (ht : (pc : Int) + off = (tgt : Int)) (hx : ax_R x) (kt : 0 < x → Rn dd k tgt ls st S I Q) (kf : ¬ 0 < x → Rn dd k (pc + 3) ls st S I Q) : Rn dd k pc ls (ax_i x :: st) S I Q := by
  by_cases h : 0 < x
  · exact ax_pure (kt h) fun _ _ _ _ _ _ _ _ _ _ _ _ _ _ _ _ _ _ _ ls' C _ hl _ _ w => lv_if_gt C.1 C.2.1 hd ht (fun _ => w ls' hl) (fun h2 => absurd h (fun h => h2 ((ax_lt ax_R0 hx).mpr h)))
  · exact ax_pure (kf h) fun _ _ _ _ _ _ _ _ _ _ _ _ _ _ _ _ _ _ _ ls' C _ hl _ _ w => lv_if_gt C.1 C.2.1 hd ht (fun h2 => absurd ((ax_lt ax_R0 hx).mp h2) h) (fun _ => w ls' hl)
theorem r_icmp_gt {x y : Int} {off : Int} {tgt : Nat} (hd : decode k.2.1 pc = .ok (.if_icmp .gt off, 3)) (ht : (pc : Int) + off = (tgt : Int)) (hx : ax_R x) (hy : ax_R y) (kt : y < x → Rn dd k tgt ls st S I Q) (kf : ¬ y < x → Rn dd k (pc + 3) ls st S I Q) : Rn dd k pc ls (ax_i y :: ax_i x :: st) S I Q := by
  by_cases h : y < x
  · exact ax_pure (kt h) fun _ _ _ _ _ _ _ _ _ _ _ _ _ _ _ _ _ _ _ ls' C _ hl _ _ w => lv_icmp_gt C.1 C.2.1 hd ht (fun _ => w ls' hl) (fun h2 => absurd h (fun h => h2 ((ax_lt hy hx).mpr h)))
  · exact ax_pure (kf h) fun _ _ _ _ _ _ _ _ _ _ _ _ _ _ _ _ _ _ _ ls' C _ hl _ _ w => lv_icmp_gt C.1 C.2.1 hd ht (fun h2 => absurd ((ax_lt hy hx).mp h2) h) (fun _ => w ls' hl)
theorem r_if_le {x : Int} {off : Int} {tgt : Nat} (hd : decode k.2.1 pc = .ok (.ifCond .le off, 3)) (ht : (pc : Int) + off = (tgt : Int)) (hx : ax_R x) (kt : x ≤ 0 → Rn dd k tgt ls st S I Q) (kf : ¬ x ≤ 0 → Rn dd k (pc + 3) ls st S I Q) : Rn dd k pc ls (ax_i x :: st) S I Q := by
  by_cases h : x ≤ 0
  · exact ax_pure (kt h) fun _ _ _ _ _ _ _ _ _ _ _ _ _ _ _ _ _ _ _ ls' C _ hl _ _ w => lv_if_le C.1 C.2.1 hd ht (fun _ => w ls' hl) (fun h2 => absurd h (fun h => h2 ((ax_lei hx ax_R0).mpr h)))
  · exact ax_pure (kf h) fun _ _ _ _ _ _ _ _ _ _ _ _ _ _ _ _ _ _ _ ls' C _ hl _ _ w => lv_if_le C.1 C.2.1 hd ht (fun h2 => absurd ((ax_lei hx ax_R0).mp h2) h) (fun _ => w ls' hl)
theorem r_icmp_le {x y : Int} {off : Int} {tgt : Nat} (hd : decode k.2.1 pc = .ok (.if_icmp .le off, 3)) (ht : (pc : Int) + off = (tgt : Int)) (hx : ax_R x) (hy : ax_R y) (kt : x ≤ y → Rn dd k tgt ls st S I Q) (kf : ¬ x ≤ y → Rn dd k (pc + 3) ls st S I Q) : Rn dd k pc ls (ax_i y :: ax_i x :: st) S I Q := by
  by_cases h : x ≤ y
  · exact ax_pure (kt h) fun _ _ _ _ _ _ _ _ _ _ _ _ _ _ _ _ _ _ _ ls' C _ hl _ _ w => lv_icmp_le C.1 C.2.1 hd ht (fun _ => w ls' hl) (fun h2 => absurd h (fun h => h2 ((ax_lei hx hy).mpr h)))
  · exact ax_pure (kf h) fun _ _ _ _ _ _ _ _ _ _ _ _ _ _ _ _ _ _ _ ls' C _ hl _ _ w => lv_icmp_le C.1 C.2.1 hd ht (fun h2 => absurd ((ax_lei hx hy).mp h2) h) (fun _ => w ls' hl)
end
end
section
section
variable {dd : ax_D} {k : ax_K} {pc : Nat} {ls : ax_L} {st : List ax_V} {S : ax_Sh} {I : ax_H} {Q : Option ax_V → ax_Sh → ax_H → Prop}
/-! numbers of more kinds -/
theorem r_i2l {x : Int} (hd : decode k.2.1 pc = .ok (.i2l, 1)) (hx : ax_R x) (K : Rn dd k (pc + 1) ls (ax_l x :: st) S I Q) : Rn dd k pc ls (ax_i x :: st) S I Q :=
  ax_pure K fun _ _ _ _ _ _ _ _ _ _ _ _ _ _ _ _ _ _ _ ls' C _ hl _ _ w => lv_i2l C.1 C.2.1 hd (by
    rw [← Int64.toInt_inj, Int32.toInt_toInt64, ax_to hx, ax_to8 ⟨by omega, by omega⟩]) (w ls' hl)
def ax_cmp (x y : Int) : Int := if x > y then 1 else if x = y then 0 else -1
theorem r_lcmp {x y : Int} (hd : decode k.2.1 pc = .ok (.lcmp, 1)) (hx : ax_R8 x) (hy : ax_R8 y) (K : Rn dd k (pc + 1) ls (ax_i (ax_cmp x y) :: st) S I Q) : Rn dd k pc ls (ax_l y :: ax_l x :: st) S I Q :=
  ax_pure K fun _ _ _ _ _ _ _ _ _ _ _ _ _ _ _ _ _ _ _ ls' C _ hl _ _ w => W.lcmp C.1 C.2.1 hd (by
    have e : lg_cmp (Int64.ofInt x) (Int64.ofInt y) = Int32.ofInt (ax_cmp x y) := by
      have h1 : Int64.ofInt x > Int64.ofInt y ↔ x > y := by
        show Int64.ofInt y < Int64.ofInt x ↔ y < x
        rw [Int64.lt_iff_toInt_lt, ax_to8 hx, ax_to8 hy]
      have h2 : Int64.ofInt x = Int64.ofInt y ↔ x = y := by rw [← Int64.toInt_inj, ax_to8 hx, ax_to8 hy]
      unfold lg_cmp ax_cmp
      by_cases a : x > y
      · rw [if_pos (h1.mpr a), if_pos a]; rfl
      · rw [if_neg (fun q => a (h1.mp q)), if_neg a]
        by_cases b : x = y
        · rw [if_pos (h2.mpr b), if_pos b]; rfl
        · rw [if_neg (fun q => b (h2.mp q)), if_neg b]; rfl
    rw [e]; exact w ls' hl)
def ax_lor (x y : Int) : Int := (Int64.ofInt x ||| Int64.ofInt y).toInt
theorem r_lor {x y : Int} (hd : decode k.2.1 pc = .ok (.lor, 1)) (K : Rn dd k (pc + 1) ls (ax_l (ax_lor x y) :: st) S I Q) : Rn dd k pc ls (ax_l y :: ax_l x :: st) S I Q :=
  ax_pure K fun _ _ _ _ _ _ _ _ _ _ _ _ _ _ _ _ _ _ ad ls' C _ hl _ _ w => lv_lor C.1 C.2.1 hd (by
    have e : Int64.ofInt (ax_lor x y) = Int64.ofInt x ||| Int64.ofInt y := by unfold ax_lor; rw [Int64.ofInt_toInt]
    have w := w ls' hl
    simp only [List.map_cons, ax_tr] at w
    rw [e] at w; exact w)
theorem ax_m63 : ∀ n : Fin 63, Int64.ofInt 1 <<< ((Int32.ofInt ((n : Nat) : Int)).toInt64 &&& 63) = Int64.ofInt (2 ^ (n : Nat)) := by decide +kernel
/-- 1L << y -/
theorem r_lshl {y : Int} (hd : decode k.2.1 pc = .ok (.lshl, 1)) (hy : 0 ≤ y ∧ y < 63) (K : Rn dd k (pc + 1) ls (ax_l (2 ^ y.toNat) :: st) S I Q) : Rn dd k pc ls (ax_i y :: ax_l 1 :: st) S I Q :=
  ax_pure K fun _ _ _ _ _ _ _ _ _ _ _ _ _ _ _ _ _ _ _ ls' C _ hl _ _ w => lv_lshl C.1 C.2.1 hd (by
    obtain ⟨n, rfl⟩ : ∃ n : Nat, y = n := ⟨y.toNat, by omega⟩
    exact ax_m63 ⟨n, by omega⟩) (w ls' hl)
theorem ax_bv (x : Int) : (Int32.ofInt x).toBitVec.toNat = (x % 4294967296).toNat := by
  rw [Int32.toBitVec_ofInt, BitVec.toNat_ofInt]
  rfl
theorem ax_bvi {a b : Int32} (h : a.toBitVec.toNat = b.toBitVec.toNat) : a = b := Int32.toBitVec_inj.mp (BitVec.eq_of_toNat_eq h)
theorem r_iushr {x : Int} (hd : decode k.2.1 pc = .ok (.iushr, 1)) (K : Rn dd k (pc + 1) ls (ax_i (x % 4294967296 / 65536) :: st) S I Q) : Rn dd k pc ls (ax_i 16 :: ax_i x :: st) S I Q :=
  ax_pure K fun _ _ _ _ _ _ _ _ _ _ _ _ _ _ _ _ _ _ _ ls' C _ hl _ _ w => lv_iushr C.1 C.2.1 hd (by
    apply ax_bvi
    rw [pk_ushr (Int32.ofInt x) (Int32.ofInt 16) 16 (by decide), ax_bv, ax_bv]
    omega) (w ls' hl)
theorem r_iand63 {x : Int} (hd : decode k.2.1 pc = .ok (.iand, 1)) (K : Rn dd k (pc + 1) ls (ax_i (x % 64) :: st) S I Q) : Rn dd k pc ls (ax_i 63 :: ax_i x :: st) S I Q :=
  ax_pure K fun _ _ _ _ _ _ _ _ _ _ _ _ _ _ _ _ _ _ ad ls' C _ hl _ _ w => lv_iand C.1 C.2.1 hd (by
    have e : Int32.ofInt x &&& Int32.ofInt 63 = Int32.ofInt (x % 64) := by
      rw [pk_and (Int32.ofInt x) 6 (by decide)]
      apply ax_bvi
      rw [ax_bv, ax_bv]
      show ((BitVec.ofNat 32 _).toNat) = _
      rw [BitVec.toNat_ofNat]
      omega
    rw [e]; exact w ls' hl)
def ax_xor (x y : Int) : Int := (Int32.ofInt x ^^^ Int32.ofInt y).toInt
theorem ax_xor_R (x y : Int) : ax_R (ax_xor x y) := ⟨Int32.le_toInt _, Int32.toInt_lt _⟩
theorem ax_xor_nn {x y : Int} (hx : ax_R x) (hy : ax_R y) : ax_xor x y < 0 ↔ ¬ (x < 0 ↔ y < 0) := by
  have key : ∀ z : BitVec 32, (z.toInt < 0) ↔ z.msb = true := fun z => by rw [BitVec.msb_eq_toInt]; simp
  have e1 : x = (Int32.ofInt x).toBitVec.toInt := (ax_to hx).symm
  have e2 : y = (Int32.ofInt y).toBitVec.toInt := (ax_to hy).symm
  have e3 : ax_xor x y < 0 ↔ ((Int32.ofInt x).toBitVec ^^^ (Int32.ofInt y).toBitVec).toInt < 0 := Iff.rfl
  have e4 : (x < 0) ↔ (Int32.ofInt x).toBitVec.toInt < 0 := by rw [← e1]
  have e5 : (y < 0) ↔ (Int32.ofInt y).toBitVec.toInt < 0 := by rw [← e2]
  rw [e3, e4, e5, key, key, key, BitVec.msb_xor]
  cases (Int32.ofInt x).toBitVec.msb <;> cases (Int32.ofInt y).toBitVec.msb <;> simp
theorem r_ixor {x y : Int} (hd : decode k.2.1 pc = .ok (.ixor, 1)) (K : Rn dd k (pc + 1) ls (ax_i (ax_xor x y) :: st) S I Q) : Rn dd k pc ls (ax_i y :: ax_i x :: st) S I Q :=
  ax_pure K fun _ _ _ _ _ _ _ _ _ _ _ _ _ _ _ _ _ _ ad ls' C _ hl _ _ w => lv_ixor C.1 C.2.1 hd (by
    have e : Int32.ofInt (ax_xor x y) = Int32.ofInt x ^^^ Int32.ofInt y := by unfold ax_xor; rw [Int32.ofInt_toInt]
    have w := w ls' hl
    simp only [List.map_cons, ax_tr] at w
    rw [e] at w; exact w)
theorem r_ldc {i : Nat} {v : Int} (hd : decode k.2.1 pc = .ok (.ldc i, 2)) (hw : Cond.constant k.1.cls i (Int32.ofInt v) ∈ ax_tb) (K : Rn dd k (pc + 2) ls (ax_i v :: st) S I Q) : Rn dd k pc ls st S I Q :=
  ax_pure K fun _ _ _ _ _ _ _ _ _ _ _ _ _ _ _ _ _ _ _ ls' C _ hl _ _ w => lv_ldc C.1 C.2.1 C.2.2.2.1 (C.2.2.2.2.1 _ hw) hd (w ls' hl)
theorem r_ldcw {i : Nat} {v : Int} (hd : decode k.2.1 pc = .ok (.ldc_w i, 3)) (hw : Cond.constant k.1.cls i (Int32.ofInt v) ∈ ax_tb) (K : Rn dd k (pc + 3) ls (ax_i v :: st) S I Q) : Rn dd k pc ls st S I Q :=
  ax_pure K fun _ _ _ _ _ _ _ _ _ _ _ _ _ _ _ _ _ _ _ ls' C _ hl _ _ w => lv_ldcw C.1 C.2.1 C.2.2.2.1 (C.2.2.2.2.1 _ hw) hd (w ls' hl)
theorem r_ldc2 {i : Nat} {v : Int} (hd : decode k.2.1 pc = .ok (.ldc2_w i, 3)) (hw : Cond.constantLong k.1.cls i (Int64.ofInt v) ∈ ax_tb) (K : Rn dd k (pc + 3) ls (ax_l v :: st) S I Q) : Rn dd k pc ls st S I Q :=
  ax_pure K fun _ _ _ _ _ _ _ _ _ _ _ _ _ _ _ _ _ _ _ ls' C _ hl _ _ w => lv_ldc2 C.1 C.2.1 C.2.2.2.1 (C.2.2.2.2.1 _ hw) hd (w ls' hl)
theorem r_tswIn {dflt lo hi : Int} {offs : Array Int} {len : Nat} {x off : Int} {tgt : Nat} (hd : decode k.2.1 pc = .ok (.tableswitch dflt lo hi offs, len)) (hx : ax_R x) (h1 : lo ≤ x) (h2 : x ≤ hi) (ho : offs[(x - lo).toNat]? = some off) (ht : (pc : Int) + off = (tgt : Int)) (K : Rn dd k tgt ls st S I Q) : Rn dd k pc ls (ax_i x :: st) S I Q :=
  ax_pure K fun _ _ _ _ _ _ _ _ _ _ _ _ _ _ _ _ _ _ _ ls' C _ hl _ _ w => lv_tableIn C.1 C.2.1 hd (by rw [ax_to hx]; omega) (by rw [ax_to hx]; omega) (by rw [ax_to hx]; exact ho) ht (w ls' hl)
theorem r_tswOut {dflt lo hi : Int} {offs : Array Int} {len : Nat} {x : Int} {tgt : Nat} (hd : decode k.2.1 pc = .ok (.tableswitch dflt lo hi offs, len)) (hx : ax_R x) (h1 : x < lo ∨ hi < x) (ht : (pc : Int) + dflt = (tgt : Int)) (K : Rn dd k tgt ls st S I Q) : Rn dd k pc ls (ax_i x :: st) S I Q :=
  ax_pure K fun _ _ _ _ _ _ _ _ _ _ _ _ _ _ _ _ _ _ _ ls' C _ hl _ _ w => lv_tableOut C.1 C.2.1 hd (by rw [ax_to hx]; omega) ht (w ls' hl)
/-! reading the world -/
theorem ax_w_get {cs : ax_Cs} {ad : Nat → Nat} {S : ax_Sh} {I : ax_H} {i : Nat} {r : Nat × Nat × List (Option Nat)} (h : S[i]? = some r) : (ax_w cs ad S I)[i]? = some (ad i, ax_cell cs ad I i r) := by
  have hl : i < S.length := (List.getElem?_eq_some_iff.mp h).1
  unfold ax_w
  rw [List.getElem?_map, List.getElem?_range hl]
  simp [h]
/-- what the tables say of the class ci -/
def ax_cl (ci : Nat) (C : String) (T : u_T) (N : Nat) (ty : Nat → FieldType) : Prop :=
  ci < 100 ∧ vwCl[ci]? = some (C, T, N) ∧ (∀ w ∈ u_ws C T N, w ∈ ax_tb) ∧ (∀ j, j < N → parseFieldDescriptor (T j).2.2.1 = some (ty j)) ∧ (∀ a, a < N → ∀ b, b < N → a ≠ b → (T a).2.1 ≠ (T b).2.1) ∧ ∀ j, j < N → defaultValue (ty j) = if ax_isr ci j then .null else .int 0
theorem r_getI {ci : Nat} {C : String} {T : u_T} {N : Nat} {ty : Nat → FieldType} {a : Nat} {rs : List (Option Nat)} {idx : Nat} (hc : ax_cl ci C T N ty) (j : Nat) (jI : Int) (hj : j < N) (hS : S[a]? = some (ci, N, rs)) (hi : ax_isr ci j = false) (hjI : (j : Int) = jI) (hw : Cond.fieldLink k.1.cls idx (T j).1 (T j).2.1 (T j).2.2.1 ∈ ax_tb) (hd : decode k.2.1 pc = .ok (.getfield idx, 3)) (K : Rn dd k (pc + 3) ls (ax_i (I a jI) :: st) S I Q) : Rn dd k pc ls (ax_r a :: st) S I Q :=
  ax_pure K fun _ _ _ _ _ _ _ _ _ _ _ D cs A H locs _ _ ad ls' C X hl _ _ w => by
    have he := ax_w_get (cs := cs) (ad := ad) (I := I) hS
    rw [show ax_cell cs ad I a (ci, N, rs) = _ from if_pos hc.1] at he
    refine va_get (D := D) C.1 C.2.1 C.2.2.2.2.1 hc.2.2.1 C.2.2.2.1 X.2.2.1 X.1 a he hc.2.1 j hj (C.2.2.2.2.1 _ hw) (fun _ h => h) ?_ hd (w ls' hl)
    rw [List.getElem?_map, List.getElem?_range hj]
    simp [hi, ← hjI, ax_tr]
theorem r_getR {ci : Nat} {C : String} {T : u_T} {N : Nat} {ty : Nat → FieldType} {a b : Nat} {rs : List (Option Nat)} {idx : Nat} (hc : ax_cl ci C T N ty) (j : Nat) (hj : j < N) (hS : S[a]? = some (ci, N, rs)) (hi : ax_isr ci j = true) (hb : rs[j]? = some (some b)) (hw : Cond.fieldLink k.1.cls idx (T j).1 (T j).2.1 (T j).2.2.1 ∈ ax_tb) (hd : decode k.2.1 pc = .ok (.getfield idx, 3)) (K : Rn dd k (pc + 3) ls (ax_r b :: st) S I Q) : Rn dd k pc ls (ax_r a :: st) S I Q :=
  ax_pure K fun _ _ _ _ _ _ _ _ _ _ _ D cs A H locs _ _ ad ls' C X hl _ _ w => by
    have he := ax_w_get (cs := cs) (ad := ad) (I := I) hS
    rw [show ax_cell cs ad I a (ci, N, rs) = _ from if_pos hc.1] at he
    refine va_get (D := D) C.1 C.2.1 C.2.2.2.2.1 hc.2.2.1 C.2.2.2.1 X.2.2.1 X.1 a he hc.2.1 j hj (C.2.2.2.2.1 _ hw) (fun _ h => h) ?_ hd (w ls' hl)
    rw [List.getElem?_map, List.getElem?_range hj]
    simp [hi, hb, ax_tr, va_rf]
theorem r_iald {a n : Nat} {rs : List (Option Nat)} {i : Int} (hS : S[a]? = some (100, n, rs)) (hn : n < 2147483648) (hd : decode k.2.1 pc = .ok (.iaload, 1)) (h : 0 ≤ i ∧ i < (n : Int)) (K : Rn dd k (pc + 1) ls (ax_i (I a i) :: st) S I Q) : Rn dd k pc ls (ax_i i :: ax_r a :: st) S I Q :=
  ax_pure K fun _ _ _ _ _ _ _ _ _ _ _ D cs A H locs _ _ ad ls' C X hl _ _ w => by
    have he := ax_w_get (cs := cs) (ad := ad) (I := I) hS
    refine va_iald (D := D) C.1 C.2.1 X.2.2.1 X.1 a 0 he rfl (ax_in h.1 h.2 hn) hd ?_
    rw [ax_nat h.1 (by omega), Int.toNat_of_nonneg h.1]
    exact w ls' hl
theorem r_zald {a n : Nat} {rs : List (Option Nat)} {i : Int} (hS : S[a]? = some (101, n, rs)) (hn : n < 2147483648) (hd : decode k.2.1 pc = .ok (.baload, 1)) (h : 0 ≤ i ∧ i < (n : Int)) (K : Rn dd k (pc + 1) ls (ax_i (I a i) :: st) S I Q) : Rn dd k pc ls (ax_i i :: ax_r a :: st) S I Q :=
  ax_pure K fun _ _ _ _ _ _ _ _ _ _ _ D cs A H locs _ _ ad ls' C X hl _ _ w => by
    have he := ax_w_get (cs := cs) (ad := ad) (I := I) hS
    refine va_zald (D := D) C.1 C.2.1 X.2.2.1 X.1 a 1 he rfl (ax_in h.1 h.2 hn) hd ?_
    rw [ax_nat h.1 (by omega), Int.toNat_of_nonneg h.1]
    exact w ls' hl
theorem r_alen {a n : Nat} {rs : List (Option Nat)} (hS : S[a]? = some (100, n, rs)) (hd : decode k.2.1 pc = .ok (.arraylength, 1)) (nI : Int) (hnI : (n : Int) = nI) (K : Rn dd k (pc + 1) ls (ax_i nI :: st) S I Q) : Rn dd k pc ls (ax_r a :: st) S I Q :=
  ax_pure K fun _ _ _ _ _ _ _ _ _ _ _ D cs A H locs _ _ ad ls' C X hl _ _ w => by
    have he := ax_w_get (cs := cs) (ad := ad) (I := I) hS
    refine va_alen (D := D) C.1 C.2.1 X.2.2.1 X.1 a 0 he rfl (v := Int32.ofInt nI) ?_ hd (w ls' hl)
    subst hnI; rfl
theorem r_aaldP {a n b : Nat} {rs : List (Option Nat)} {i : Int} (hS : S[a]? = some (102, n, rs)) (hn : n < 2147483648) (hd : decode k.2.1 pc = .ok (.aaload, 1)) (h : 0 ≤ i ∧ i < (n : Int)) (hb : rs[i.toNat]? = some (some b)) (K : Rn dd k (pc + 1) ls (ax_r b :: st) S I Q) : Rn dd k pc ls (ax_i i :: ax_r a :: st) S I Q :=
  ax_pure K fun _ _ _ _ _ _ _ _ _ _ _ D cs A H locs _ _ ad ls' C X hl _ _ w => by
    have he := ax_w_get (cs := cs) (ad := ad) (I := I) hS
    refine va_aldq (D := D) C.1 C.2.1 X.2.2.1 X.1 a 2 he rfl (ax_in h.1 h.2 hn) hd ?_
    rw [ax_nat h.1 (by omega)]
    have := w ls' hl
    simpa [hb, ax_tr, va_rf] using this
theorem r_aaldA {a n b : Nat} {rs : List (Option Nat)} {i : Int} (hS : S[a]? = some (103, n, rs)) (hn : n < 2147483648) (hd : decode k.2.1 pc = .ok (.aaload, 1)) (h : 0 ≤ i ∧ i < (n : Int)) (hb : rs[i.toNat]? = some (some b)) (K : Rn dd k (pc + 1) ls (ax_r b :: st) S I Q) : Rn dd k pc ls (ax_i i :: ax_r a :: st) S I Q :=
  ax_pure K fun _ _ _ _ _ _ _ _ _ _ _ D cs A H locs _ _ ad ls' C X hl _ _ w => by
    have he := X.1 a _ (ax_w_get (cs := cs) (ad := ad) (I := I) hS)
    have he : H[ad a]? = some (arrV cs.2.2.2 n (fun j => va_rf ((rs.getD j none).map ad))) := he
    have hK := (X.2.2.1.2 3 (cs.2.2.2, .array .int) rfl).1
    refine W.aald (ty := .array .int) (v := .ref (ad b)) C.1 C.2.1 he (hK n _) rfl (by simp [arrV]) ?_ ?_ (g := F0 _ pc ls' _) rfl rfl hd (w ls' hl)
    · have := ax_in h.1 h.2 hn
      simpa [vp_in, arrV] using this
    · rw [ax_nat h.1 (by omega)]
      have : i.toNat < n := by omega
      simp [arrV, this, hb, va_rf]
theorem r_getInv {idx : Nat} (hd : decode k.2.1 pc = .ok (.getstatic idx, 3)) (hw : Cond.fieldLink k.1.cls idx "KeptCurves" "INVERSE" "[I" ∈ ax_tb) (K : Rn dd k (pc + 3) ls (ax_r 1000000 :: st) S I Q) : Rn dd k pc ls st S I Q :=
  ax_pure K fun _ _ _ _ _ _ _ _ _ _ _ D cs A H locs _ _ ad ls' C X hl _ _ w => va_gets C.1 C.2.1 X.2.2.2.2.2.1 X.2.2.2.1 C.2.2.2.1 (C.2.2.2.2.1 _ hw) (fun _ h => h) hd (w ls' hl)
theorem r_ialdInv {i : Int} (hd : decode k.2.1 pc = .ok (.iaload, 1)) (h : 0 ≤ i ∧ i < 31) (K : Rn dd k (pc + 1) ls (ax_i (ax_inv i) :: st) S I Q) : Rn dd k pc ls (ax_i i :: ax_r 1000000 :: st) S I Q :=
  ax_pure K fun _ _ _ _ _ _ _ _ _ _ _ D cs A H locs _ _ ad ls' C X hl _ _ w => va_ti C.1 C.2.1 X.2.2.2.2.2.2.1 X.2.2.2.1 (ax_in h.1 (by omega) (by decide)) (v := .int (Int32.ofInt (ax_inv i))) (by rw [ax_nat h.1 (by omega), Int.toNat_of_nonneg h.1]) hd (w ls' hl)
theorem r_heapR (K : (∀ a i, ax_R (I a i)) → Rn dd k pc ls st S I Q) : Rn dd k pc ls st S I Q := by
  intro p l e R s m args below meth c QQ D cs A MC MS C h1 h2 h3 h4 H locs cells slots ad ls' X hl hc hs hk
  exact K X.2.2.2.2.2.2.2.1 p l e R s m args below meth c QQ D cs A MC MS C h1 h2 h3 h4 H locs cells slots ad ls' X hl hc hs hk
theorem ax_le_mem {ad : Nat → Nat} : ∀ (l2 l1 : ax_L) (b : Nat), ax_le l2 l1 = true → ∀ q ∈ ax_lv ad b l2, q ∈ ax_lv ad b l1
  | [], _, _, _, q, hq => by simp [ax_lv] at hq
  | none :: r, w :: r2, b, h, q, hq => by
    have := ax_le_mem r r2 (b + 1) (by simpa [ax_le] using h) q (by simpa [ax_lv] using hq)
    cases w with
    | none => simpa [ax_lv] using this
    | some w => simp only [ax_lv]; exact List.mem_cons_of_mem _ this
  | none :: r, [], b, h, q, hq => by
    have := ax_le_mem r [] (b + 1) (by simpa [ax_le] using h) q (by simpa [ax_lv] using hq)
    simp [ax_lv] at this
  | some v :: r, [], b, h, q, hq => by simp [ax_le] at h
  | some v :: r, w :: r2, b, h, q, hq => by
    simp only [ax_le, Bool.and_eq_true, decide_eq_true_eq] at h
    obtain ⟨rfl, h⟩ := h
    simp only [ax_lv, List.mem_cons] at hq ⊢
    rcases hq with rfl | hq
    · exact Or.inl rfl
    · exact Or.inr (ax_le_mem r r2 (b + 1) h q hq)
theorem r_drop {ls2 : ax_L} (K : Rn dd k pc ls2 st S I Q) (h : ax_le ls2 ls = true) : Rn dd k pc ls st S I Q :=
  ax_pure K fun _ _ _ _ _ _ _ _ _ _ _ _ _ _ _ _ _ _ _ ls' C _ hl _ _ w => w ls' (ax_lsub hl (ax_le_mem ls2 ls 0 h))
theorem r_name {x : Int} (K : ∀ y, y = x → Rn dd k pc ls (ax_i y :: st) S I Q) : Rn dd k pc ls (ax_i x :: st) S I Q := K x rfl
end
end
section
/-! writing the world -/
def ax_st (I : ax_H) (a : Nat) (i v : Int) : ax_H := fun b j => if b = a ∧ j = i then v else I b j
theorem ax_st_R {I : ax_H} {a : Nat} {i v : Int} (h : ∀ b j, ax_R (I b j)) (hv : ax_R v) : ∀ b j, ax_R (ax_st I a i v b j) := by
  intro b j
  unfold ax_st
  split
  · exact hv
  · exact h b j
theorem ax_w_set {cs : ax_Cs} {ad : Nat → Nat} {S S' : ax_Sh} {I I' : ax_H} {a : Nat} {e : va_E} (hl : S'.length = S.length) (ha : a < S.length) (h1 : ax_cell cs ad I' a (S'.getD a (0, 0, [])) = e) (h2 : ∀ i, i ≠ a → i < S.length → ax_cell cs ad I' i (S'.getD i (0, 0, [])) = ax_cell cs ad I i (S.getD i (0, 0, []))) :
    (ax_w cs ad S I).set a (ad a, e) = ax_w cs ad S' I' := by
  apply List.ext_getElem?
  intro i
  unfold ax_w
  rw [List.getElem?_set, hl]
  by_cases hi : i < S.length
  · rw [List.getElem?_map, List.getElem?_map, List.getElem?_range hi]
    simp only [Option.map_some, List.length_map, List.length_range]
    by_cases hia : a = i
    · subst hia
      rw [if_pos rfl, if_pos ha, h1]
    · rw [if_neg hia, h2 i (fun q => hia q.symm) hi]
  · rw [if_neg (by omega : ¬ a = i)]
    rw [List.getElem?_eq_none (by simpa using hi), List.getElem?_eq_none (by simpa using hi)]
theorem ax_getD_set {S : ax_Sh} {a i : Nat} {r : Nat × Nat × List (Option Nat)} (h : i ≠ a) : (S.set a r).getD i (0, 0, []) = S.getD i (0, 0, []) := by
  rw [List.getD_eq_getElem?_getD, List.getD_eq_getElem?_getD, List.getElem?_set, if_neg (fun q => h q.symm)]
theorem ax_getD {S : ax_Sh} {a : Nat} {r : Nat × Nat × List (Option Nat)} (h : S[a]? = some r) : S.getD a (0, 0, []) = r := by simp [h]
theorem ax_cell_ne {cs : ax_Cs} {ad : Nat → Nat} {I I' : ax_H} {i : Nat} {r : Nat × Nat × List (Option Nat)} (h : I' i = I i) : ax_cell cs ad I' i r = ax_cell cs ad I i r := by
  unfold ax_cell
  rw [h]
theorem ax_st_ne {I : ax_H} {a : Nat} {i v : Int} {b : Nat} (h : b ≠ a) : ax_st I a i v b = I b := by
  funext j
  simp [ax_st, h]
/-- a step that writes one cell: the next of it -/
theorem ax_wr {dd : ax_D} {k : ax_K} {pc pc' : Nat} {ls ls2 : ax_L} {st st2 : List ax_V} {S S' : ax_Sh} {I I' : ax_H} {Q : Option ax_V → ax_Sh → ax_H → Prop} {a : Nat} (hSl : S'.length = S.length) (hI : (∀ b j, ax_R (I b j)) → ∀ b j, ax_R (I' b j))
    (K : Rn dd k pc' ls2 st2 S' I' Q)
    (h : ∀ (p : Program) (l : Launch) (e : Env) (R : Room) (s : State) (m : MethodId) (args : Array Value) (below : List Frame) (meth : Method) (c : Code) (QQ : State → Prop) (D : va_G) (cs : ax_Cs) (A : Nat → Prop) (H : Heap) (locs : List Loc) (cells slots : Nat) (ad : Nat → Nat) (ls' : Array Slot),
      ax_C k p s m args meth c → ax_X D cs A s H locs ad S I dd.2.2.2 → lv_has ls' k.2.2.1 (ax_lv ad 0 ls) → dd.1 ≤ R.frames → 60 * dd.1 ≤ R.locals →
      (∀ (H1 : Heap) (locs1 : List Loc) (ws : va_W), ws = ax_w cs ad S' I' → va_P D vwCl ws H1 → va_D A ws → va_S A s.heap H1 locs1 → ∀ ls2' : Array Slot, lv_has ls2' k.2.2.1 (ax_lv ad 0 ls2) → W p l e R s m args below meth c H1 locs1 cells slots QQ (F0 m pc' ls2' (st2.map (ax_tr ad)))) →
      W p l e R s m args below meth c H locs cells slots QQ (F0 m pc ls' (st.map (ax_tr ad)))) :
    Rn dd k pc ls st S I Q := by
  intro p l e R s m args below meth c QQ D cs A MC MS C h1 h2 h3 h4 H locs cells slots ad ls' X hl hc hs hk
  refine h p l e R s m args below meth c QQ D cs A H locs cells slots ad ls' C X hl h1 h2 (fun H1 locs1 ws hws hP hD hS ls2' hl2 => ?_)
  subst hws
  refine K p l e R s m args below meth c QQ D cs A MC MS C h1 h2 h3 h4 H1 locs1 cells slots ad ls2' ⟨hP, hD, X.2.2.1, hS, X.2.2.2.2.1, X.2.2.2.2.2.1, X.2.2.2.2.2.2.1, hI X.2.2.2.2.2.2.2.1, X.2.2.2.2.2.2.2.2⟩ hl2 hc hs ?_
  intro pc' ls' v S2 I2 ad2 H2 locs2 hq hx hr he
  exact hk pc' ls' v S2 I2 ad2 H2 locs2 hq hx hr (he.len hSl.symm)
section
variable {dd : ax_D} {k : ax_K} {pc : Nat} {ls : ax_L} {st : List ax_V} {S : ax_Sh} {I : ax_H} {Q : Option ax_V → ax_Sh → ax_H → Prop}
theorem r_putI {ci : Nat} {C : String} {T : u_T} {N : Nat} {ty : Nat → FieldType} {a : Nat} {rs : List (Option Nat)} {idx : Nat} {v : Int} (hc : ax_cl ci C T N ty) (j : Nat) (jI : Int) (hj : j < N) (hS : S[a]? = some (ci, N, rs)) (hi : ax_isr ci j = false) (hjI : (j : Int) = jI) (hf : (T j).2.2.2 = false) (hv : ax_R v) (hn : narrow (ty j) (.int (Int32.ofInt v)) = .int (Int32.ofInt v)) (hft : fits (ty j) (.int (Int32.ofInt v)) = true) (hw : Cond.fieldLink k.1.cls idx (T j).1 (T j).2.1 (T j).2.2.1 ∈ ax_tb) (hd : decode k.2.1 pc = .ok (.putfield idx, 3)) (K : Rn dd k (pc + 3) ls st S (ax_st I a jI v) Q) : Rn dd k pc ls (ax_i v :: ax_r a :: st) S I Q :=
  ax_wr (a := a) rfl (fun h => ax_st_R h hv) K fun _ _ _ _ _ _ _ _ _ _ _ D cs A H locs _ _ ad ls' C X hl _ _ w => by
    have he := ax_w_get (cs := cs) (ad := ad) (I := I) hS
    rw [show ax_cell cs ad I a (ci, N, rs) = _ from if_pos hc.1] at he
    refine va_put (D := D) C.1 C.2.1 C.2.2.2.2.1 hc.2.2.1 ty hc.2.2.2.1 hc.2.2.2.2.1 C.2.2.2.1 X.2.2.1 X.1 X.2.1 X.2.2.2.1 a he hc.2.1 j hj (C.2.2.2.2.1 _ hw) (fun _ h => h) hf (hc.2.2.2.1 j hj) hn hft (by simpa using hj) hd (fun H1 locs1 hP hD hS2 => w H1 locs1 _ ?_ hP hD hS2 ls' hl)
    refine ax_w_set rfl (List.getElem?_eq_some_iff.mp hS).1 ?_ ?_
    · rw [ax_getD hS, show ax_cell cs ad (ax_st I a jI v) a (ci, N, rs) = _ from if_pos hc.1]
      congr 2
      apply List.ext_getElem?
      intro i
      rw [List.getElem?_set]
      by_cases hij : j = i
      · subst hij
        simp [hj, hi, ax_st, hjI, ax_tr]
      · rw [if_neg hij]
        by_cases hiN : i < N
        · have : ¬ (i : Int) = jI := by omega
          simp [hiN, ax_st, this]
        · simp [hiN]
    · intro i hia _
      exact ax_cell_ne (ax_st_ne hia)
/-- a final field of references, in a constructor -/
theorem r_putF {ci : Nat} {C : String} {T : u_T} {N : Nat} {ty : Nat → FieldType} {a b : Nat} {rs : List (Option Nat)} {idx : Nat} (hc : ax_cl ci C T N ty) (j : Nat) (hj : j < N) (hS : S[a]? = some (ci, N, rs)) (hrs : j < rs.length) (hi : ax_isr ci j = true) (hf : (T j).2.2.2 = true) (hin : k.1.name = "<init>") (hown : (T j).1 = k.1.cls) (hn : ∀ q : Nat, narrow (ty j) (.ref q) = .ref q) (hft : ∀ q : Nat, fits (ty j) (.ref q) = true) (hw : Cond.fieldLink k.1.cls idx (T j).1 (T j).2.1 (T j).2.2.1 ∈ ax_tb) (hd : decode k.2.1 pc = .ok (.putfield idx, 3)) (K : Rn dd k (pc + 3) ls st (S.set a (ci, N, rs.set j (some b))) I Q) : Rn dd k pc ls (ax_r b :: ax_r a :: st) S I Q :=
  ax_wr (a := a) (by simp) (fun h => h) K fun _ _ _ _ _ _ _ _ _ _ _ D cs A H locs _ _ ad ls' C X hl _ _ w => by
    have he := ax_w_get (cs := cs) (ad := ad) (I := I) hS
    rw [show ax_cell cs ad I a (ci, N, rs) = _ from if_pos hc.1] at he
    have hal := (List.getElem?_eq_some_iff.mp hS).1
    refine va_putF (D := D) C.1 C.2.1 C.2.2.2.2.1 hc.2.2.1 ty hc.2.2.2.1 hc.2.2.2.2.1 C.2.2.2.1 X.2.2.1 X.1 X.2.1 X.2.2.2.1 a he hc.2.1 j hj (C.2.2.2.2.1 _ hw) (fun _ h => h) hf (C.2.2.2.2.2.2.2 hin) hown (hc.2.2.2.1 j hj) (hn (ad b)) (hft (ad b)) (by simpa using hj) hd (fun H1 locs1 hP hD hS2 => w H1 locs1 _ ?_ hP hD hS2 ls' hl)
    refine ax_w_set (by simp) hal ?_ ?_
    · rw [ax_getD (r := (ci, N, rs.set j (some b))) (by simp [hal]), show ax_cell cs ad I a (ci, N, rs.set j (some b)) = _ from if_pos hc.1]
      congr 2
      apply List.ext_getElem?
      intro i
      rw [List.getElem?_set]
      by_cases hij : j = i
      · subst hij
        simp [hj, hi, hrs, va_rf, ax_tr]
      · rw [if_neg hij]
        by_cases hiN : i < N
        · simp [hiN, List.getElem?_set, hij]
        · simp [hiN]
    · intro i hia _
      rw [ax_getD_set hia]
theorem r_iast {a n : Nat} {rs : List (Option Nat)} {i v : Int} (hS : S[a]? = some (100, n, rs)) (hn : n < 2147483648) (hd : decode k.2.1 pc = .ok (.iastore, 1)) (h : 0 ≤ i ∧ i < (n : Int)) (hv : ax_R v) (K : Rn dd k (pc + 1) ls st S (ax_st I a i v) Q) : Rn dd k pc ls (ax_i v :: ax_i i :: ax_r a :: st) S I Q :=
  ax_wr (a := a) rfl (fun h => ax_st_R h hv) K fun _ _ _ _ _ _ _ _ _ _ _ D cs A H locs _ _ ad ls' C X hl _ _ w => by
    have he := ax_w_get (cs := cs) (ad := ad) (I := I) hS
    refine va_iast (D := D) C.1 C.2.1 X.2.2.1 X.1 X.2.1 X.2.2.2.1 a 0 he rfl (ax_in h.1 h.2 hn) hd (fun H1 locs1 hP hD hS2 => w H1 locs1 _ ?_ hP hD hS2 ls' hl)
    refine ax_w_set rfl (List.getElem?_eq_some_iff.mp hS).1 ?_ ?_
    · rw [ax_getD hS, ax_nat h.1 (by omega)]
      show (Sum.inl (cs.1, n, Sum.inl _) : va_E) = Sum.inl (cs.1, n, Sum.inl _)
      congr 4
      funext j
      unfold upd ax_st
      by_cases hj : j = i.toNat
      · rw [if_pos hj, if_pos ⟨rfl, by omega⟩]
      · rw [if_neg hj, if_neg (fun q => hj (by have := q.2; omega))]
    · intro i hia _
      exact ax_cell_ne (ax_st_ne hia)
theorem r_zast {a n : Nat} {rs : List (Option Nat)} {i v : Int} (hS : S[a]? = some (101, n, rs)) (hn : n < 2147483648) (hd : decode k.2.1 pc = .ok (.bastore, 1)) (h : 0 ≤ i ∧ i < (n : Int)) (hv : v = 0 ∨ v = 1) (K : Rn dd k (pc + 1) ls st S (ax_st I a i v) Q) : Rn dd k pc ls (ax_i v :: ax_i i :: ax_r a :: st) S I Q :=
  ax_wr (a := a) rfl (fun h => ax_st_R h (by omega)) K fun _ _ _ _ _ _ _ _ _ _ _ D cs A H locs _ _ ad ls' C X hl _ _ w => by
    have he := ax_w_get (cs := cs) (ad := ad) (I := I) hS
    refine va_zast (D := D) C.1 C.2.1 X.2.2.1 X.1 X.2.1 X.2.2.2.1 a 1 he rfl (ax_in h.1 h.2 hn) hd (fun H1 locs1 hP hD hS2 => w H1 locs1 _ ?_ hP hD hS2 ls' hl)
    refine ax_w_set rfl (List.getElem?_eq_some_iff.mp hS).1 ?_ ?_
    · rw [ax_getD hS, ax_nat h.1 (by omega), show vp_nar .boolean (Int32.ofInt v) = Int32.ofInt v by rcases hv with rfl | rfl <;> decide]
      show (Sum.inl (cs.2.1, n, Sum.inl _) : va_E) = Sum.inl (cs.2.1, n, Sum.inl _)
      congr 4
      funext j
      unfold upd ax_st
      by_cases hj : j = i.toNat
      · rw [if_pos hj, if_pos ⟨rfl, by omega⟩]
      · rw [if_neg hj, if_neg (fun q => hj (by have := q.2; omega))]
    · intro i hia _
      exact ax_cell_ne (ax_st_ne hia)
/-- a Poly into an array of them -/
theorem r_aastP {a n b : Nat} {rs rb : List (Option Nat)} {i : Int} (hS : S[a]? = some (102, n, rs)) (hb : S[b]? = some (7, 2, rb)) (hrs : rs.length = n) (hn : n < 2147483648) (hd : decode k.2.1 pc = .ok (.aastore, 1)) (h : 0 ≤ i ∧ i < (n : Int)) (K : Rn dd k (pc + 1) ls st (S.set a (102, n, rs.set i.toNat (some b))) I Q) : Rn dd k pc ls (ax_r b :: ax_i i :: ax_r a :: st) S I Q :=
  ax_wr (a := a) (by simp) (fun h => h) K fun _ _ _ _ _ _ _ _ _ _ _ D cs A H locs _ _ ad ls' C X hl _ _ w => by
    have he := ax_w_get (cs := cs) (ad := ad) (I := I) hS
    have hq := ax_w_get (cs := cs) (ad := ad) (I := I) hb
    rw [show ax_cell cs ad I b (7, 2, rb) = _ from if_pos (show (7 : Nat) < 100 by decide)] at hq
    have hal := (List.getElem?_eq_some_iff.mp hS).1
    refine va_astq (D := D) (r := (RX7, TX7, 2)) C.1 C.2.1 X.2.2.1 X.1 X.2.1 X.2.2.2.1 a 2 b 7 he rfl hq rfl (ax_in h.1 h.2 hn) hd (fun H1 locs1 hP hD hS2 => w H1 locs1 _ ?_ hP hD hS2 ls' hl)
    refine ax_w_set (by simp) hal ?_ ?_
    · rw [ax_getD (r := (102, n, rs.set i.toNat (some b))) (by simp [hal]), ax_nat h.1 (by omega)]
      show (Sum.inl (cs.2.2.1, n, Sum.inr (Sum.inr (Sum.inr (Sum.inr _)))) : va_E) = Sum.inl (cs.2.2.1, n, Sum.inr (Sum.inr (Sum.inr (Sum.inr _))))
      congr 7
      funext j
      unfold va_up
      by_cases hj : j = i.toNat
      · rw [if_pos hj, List.getD_eq_getElem?_getD, List.getElem?_set, if_pos hj.symm, if_pos (by omega)]
        rfl
      · rw [if_neg hj]
        show Option.map ad ((rs.set i.toNat (some b)).getD j none) = Option.map ad (rs.getD j none)
        rw [List.getD_eq_getElem?_getD, List.getD_eq_getElem?_getD, List.getElem?_set, if_neg (fun q => hj q.symm)]
    · intro i hia _
      rw [ax_getD_set hia]
/-- System.arraycopy of ints -/
def ax_cp (I : ax_H) (a : Nat) (sp : Int) (b : Nat) (dp n : Int) : ax_H := fun q j => if q = b ∧ dp ≤ j ∧ j < dp + n then I a (sp + (j - dp)) else I q j
theorem r_copy {a b na nb : Nat} {ra rb : List (Option Nat)} {idx : Nat} {sp dp n : Int} (hd1 : 1 ≤ dd.1) (ha : S[a]? = some (100, na, ra)) (hb : S[b]? = some (100, nb, rb)) (h1 : 0 ≤ sp) (h2 : 0 ≤ dp) (h3 : 0 ≤ n) (h4 : sp + n ≤ (na : Int)) (h5 : dp + n ≤ (nb : Int)) (hna : na < 2147483648) (hnb : nb < 2147483648) (hrest : ∀ ad : Nat → Nat, ((st.map (ax_tr ad)).map fun v => v.category).sum ≤ 8)
    (hw : Cond.methodLink k.1.cls idx arraycopyName ∈ ax_tb) (hw2 : Cond.native arraycopyName ∈ ax_tb) (hw3 : Cond.static arraycopyName ∈ ax_tb) (hw4 : Cond.initialized "java/lang/System" ∈ ax_tb) (hd : decode k.2.1 pc = .ok (.invokestatic idx, 3)) (K : Rn dd k (pc + 3) ls st S (ax_cp I a sp b dp n) Q) : Rn dd k pc ls (ax_i n :: ax_i dp :: ax_r b :: ax_i sp :: ax_r a :: st) S I Q :=
  ax_wr (a := b) rfl (fun h q j => by unfold ax_cp; split <;> exact h _ _) K fun _ _ _ _ _ _ _ _ _ _ _ D cs A H locs _ _ ad ls' C X hl hf hlo w => by
    have hea := ax_w_get (cs := cs) (ad := ad) (I := I) ha
    have heb := ax_w_get (cs := cs) (ad := ad) (I := I) hb
    have e1 : (Int32.ofInt sp).toNatClampNeg = sp.toNat := ax_nat h1 (by omega)
    have e2 : (Int32.ofInt dp).toNatClampNeg = dp.toNat := ax_nat h2 (by omega)
    have e3 : (Int32.ofInt n).toNatClampNeg = n.toNat := ax_nat h3 (by omega)
    have neg : ∀ x : Int, 0 ≤ x → x < 2147483648 → ¬ Int32.ofInt x < 0 := fun x hx hx2 h => by
      have := (ax_lt (x := x) (y := 0) ⟨by omega, hx2⟩ ax_R0).mp h
      omega
    have hr := hrest ad
    have hw5 : nativeFrameWords "java/lang/System" "arraycopy" 5 + 11 ≤ 40 := by decide
    have h6 : sp.toNat + n.toNat ≤ na := by omega
    have h7 : dp.toNat + n.toNat ≤ nb := by omega
    have h8 : sp < 2147483648 := by omega
    have h9 : dp < 2147483648 := by omega
    have h10 : n < 2147483648 := by omega
    refine va_copyi (D := D) C.1 C.2.1 (C.2.2.1.trans hl.1.symm) C.2.2.2.1 (C.2.2.2.2.1 _ hw) (C.2.2.2.2.1 _ hw2) (C.2.2.2.2.1 _ hw3) (C.2.2.2.2.1 _ hw4) X.2.2.1 X.1 X.2.1 X.2.2.2.1 a b 0 0 hea heb rfl rfl rfl (neg sp h1 h8) (neg dp h2 h9) (neg n h3 h10) (by rw [e1, e3]; exact h6) (by rw [e2, e3]; exact h7) (fun _ _ => rfl) (by omega) (by omega) hd (fun H1 locs1 hP hD hS2 => w H1 locs1 _ ?_ hP hD hS2 ls' hl)
    refine ax_w_set rfl (List.getElem?_eq_some_iff.mp hb).1 ?_ ?_
    · rw [ax_getD hb, e1, e2, e3]
      show (Sum.inl (cs.1, nb, Sum.inl _) : va_E) = Sum.inl (cs.1, nb, Sum.inl _)
      congr 4
      funext j
      unfold va_cpy ax_cp
      by_cases hj : dp ≤ (j : Int) ∧ (j : Int) < dp + n
      · rw [if_pos (⟨rfl, hj⟩ : b = b ∧ dp ≤ (j : Int) ∧ (j : Int) < dp + n), if_pos (by omega : dp.toNat ≤ j ∧ j < dp.toNat + n.toNat)]
        congr 2
        omega
      · rw [if_neg (fun q : b = b ∧ dp ≤ (j : Int) ∧ (j : Int) < dp + n => hj q.2), if_neg (by omega : ¬ (dp.toNat ≤ j ∧ j < dp.toNat + n.toNat))]
    · intro i hia _
      apply ax_cell_ne
      funext j
      simp [ax_cp, hia]
/-! returns -/
theorem ax_ret {v : Option ax_V} (hr : ax_isRet k pc v) (hst : st = v.toList) (hq : Q v S I) : Rn dd k pc ls st S I Q := by
  intro p l e R s m args below meth c QQ D cs A MC MS C h1 h2 h3 h4 H locs cells slots ad ls' X hl hc hs hk
  subst hst
  exact W.widen (by omega) (by omega) (hk pc ls' v S I ad H locs hq X hr (ax_ext.rf S ad))
theorem r_vret (hd : decode k.2.1 pc = .ok (.return_, 1)) (hr : k.2.2.2 = none) (K : Q none S I) : Rn dd k pc ls [] S I Q := ax_ret (v := none) ⟨hd, hr⟩ rfl K
theorem r_iret {x : Int} (hd : decode k.2.1 pc = .ok (.ireturn, 1)) (hr : k.2.2.2 = some .int) (K : Q (some (ax_i x)) S I) : Rn dd k pc ls [ax_i x] S I Q := ax_ret (v := some (ax_i x)) ⟨hd, _, hr, rfl⟩ rfl K
theorem r_zret {x : Int} (hd : decode k.2.1 pc = .ok (.ireturn, 1)) (hr : k.2.2.2 = some .boolean) (hx : x = 0 ∨ x = 1) (K : Q (some (ax_i x)) S I) : Rn dd k pc ls [ax_i x] S I Q := ax_ret (v := some (ax_i x)) ⟨hd, _, hr, by rcases hx with rfl | rfl <;> decide⟩ rfl K
theorem r_lret {x : Int} (hd : decode k.2.1 pc = .ok (.lreturn, 1)) (hr : k.2.2.2 = some .long) (K : Q (some (ax_l x)) S I) : Rn dd k pc ls [ax_l x] S I Q := ax_ret (v := some (ax_l x)) ⟨hd, hr⟩ rfl K
theorem r_aret {x : Nat} {C : String} (hd : decode k.2.1 pc = .ok (.areturn, 1)) (hr : k.2.2.2 = some (.object C)) (K : Q (some (ax_r x)) S I) : Rn dd k pc ls [ax_r x] S I Q := ax_ret (v := some (ax_r x)) ⟨hd, C, hr⟩ rfl K
end
end
section
/-! calls -/
def ax_ws (j : ax_K) : List Cond := Cond.code j.1 j.2.1 j.2.2.1 j.2.2.2 :: ax_tb
theorem ax_gd {w : Cond} (h : w ∈ ax_tb) : (w.onTables && w.keeps) = true ∨ ∃ ty, w = .arrayClass ty := good_of_word (List.mem_filter.mp h).2
/-- what is asked of a method that is called, with n parameters -/
def ax_J (j : ax_K) (n : Nat) : Prop := Cond.code j.1 j.2.1 j.2.2.1 j.2.2.2 ∈ ax_tb ∧ Cond.initialized j.1.cls ∈ ax_tb ∧ (j.1.cls ≠ "java/lang/invoke/MethodHandle" ∧ j.1.cls ≠ "java/lang/invoke/VarHandle" ∧ (parseMethodDescriptor j.1.desc).map (fun d => d.parameters.length) = some n) ∧ plainFor j.1 = true ∧ j.2.2.1 ≤ 40
theorem ax_ws_in {j : ax_K} {n : Nat} (h : ax_J j n) {w : Cond} (hw : w ∈ ax_ws j) : w ∈ ax_tb := by
  rcases List.mem_cons.mp hw with rfl | h2
  · exact h.1
  · exact h2
def ax_B (D : va_G) (cs : ax_Cs) (ad : Nat → Nat) (S : ax_Sh) (I : ax_H) (sz : Nat) (A1 : Nat → Prop) (U : State) : Prop :=
  U.heap.size = sz ∧ va_P D vwCl (ax_w cs ad S I) U.heap ∧ va_D A1 (ax_w cs ad S I) ∧ va_K D vwCl (ax_tys cs) U ∧
  va_Z "KeptCurves" "INVERSE" "[I" (.ref (ad 1000000)) A1 U U.heap ∧ va_T .int (ad 1000000) 31 (fun j => .int (Int32.ofInt (ax_inv (j : Int)))) A1 U U.heap ∧ ∀ a i, ax_R (I a i)
def ax_Qc (D : va_G) (cs : ax_Cs) (ad : Nat → Nat) (S : ax_Sh) (Q : Option ax_V → ax_Sh → ax_H → Prop) (A1 : Nat → Prop) : Array Value → State → Outcome → State → Prop := fun _ st oc t =>
  (∃ (v : Option ax_V) (S' : ax_Sh) (I' : ax_H) (ad' : Nat → Nat), oc = .returned (v.map (ax_tr ad')) ∧ Q v S' I' ∧ va_P D vwCl (ax_w cs ad' S' I') t.heap ∧ va_D A1 (ax_w cs ad' S' I') ∧ (∀ a i, ax_R (I' a i)) ∧ ax_ext S ad S' ad') ∧ va_F A1 st t
theorem ax_ext.trans {S S1 S2 : ax_Sh} {ad ad1 ad2 : Nat → Nat} (h1 : ax_ext S ad S1 ad1) (h2 : ax_ext S1 ad1 S2 ad2) : ax_ext S ad S2 ad2 := by
  obtain ⟨a1, b1, c1⟩ := h1
  obtain ⟨a2, b2, c2⟩ := h2
  refine ⟨Nat.le_trans a1 a2, fun i hi => ?_, fun h => ?_⟩
  · rw [b2 i (by omega), b1 i hi]
  · rw [c2 (by omega), c1 (by omega)]
theorem ax_lv_app {ad : Nat → Nat} : ∀ (l : ax_L) (b m : Nat), ax_lv ad b (l ++ List.replicate m none) = ax_lv ad b l
  | [], b, 0 => rfl
  | [], b, m + 1 => by
    have := ax_lv_app (ad := ad) [] (b + 1) m
    simpa [List.replicate_succ, ax_lv] using this
  | none :: r, b, m => by
    have := ax_lv_app (ad := ad) r (b + 1) m
    simpa [ax_lv] using this
  | some v :: r, b, m => by
    have := ax_lv_app (ad := ad) r (b + 1) m
    simpa [ax_lv] using this
theorem ax_lv_ent {ad : Nat → Nat} : ∀ (as : List ax_V) (b : Nat), ax_lv ad b (ax_ent as) = lv_args b (as.map (ax_tr ad))
  | [], b => rfl
  | .inl n :: r, b => by
    have := ax_lv_ent (ad := ad) r (b + 1)
    simp [ax_ent, ax_lv, lv_args, ax_tr, Value.category, this]
  | .inr (.inl n) :: r, b => by
    have := ax_lv_ent (ad := ad) r (b + 2)
    simp [ax_ent, ax_lv, lv_args, ax_tr, Value.category, this]
  | .inr (.inr a) :: r, b => by
    have := ax_lv_ent (ad := ad) r (b + 1)
    simp [ax_ent, ax_lv, lv_args, ax_tr, Value.category, this]
theorem ax_sl {ad : Nat → Nat} : ∀ as : List ax_V, (lg_sl (as.map (ax_tr ad))).length = (ax_ent as).length
  | [] => rfl
  | .inl n :: r => by
    have := ax_sl (ad := ad) r
    simp only [lg_sl, List.map_cons, List.flatMap_cons, ax_tr, Value.category, ax_ent, List.length_append, List.length_cons] at this ⊢
    rw [this]; simp; omega
  | .inr (.inl n) :: r => by
    have := ax_sl (ad := ad) r
    simp only [lg_sl, List.map_cons, List.flatMap_cons, ax_tr, Value.category, ax_ent, List.length_append, List.length_cons] at this ⊢
    rw [this]; simp; omega
  | .inr (.inr a) :: r => by
    have := ax_sl (ad := ad) r
    simp only [lg_sl, List.map_cons, List.flatMap_cons, ax_tr, Value.category, ax_ent, List.length_append, List.length_cons] at this ⊢
    rw [this]; simp; omega
/-- a method's contract out of its walk -/
theorem ax_met {d mc ms n : Nat} {j : ax_K} {as : List ax_V} {S : ax_Sh} {I : ax_H} {Q : Option ax_V → ax_Sh → ax_H → Prop} (hJ : ax_J j n) (hen : (ax_ent as).length ≤ j.2.2.1) (K : Rn (d, mc, ms, none) j 0 (ax_pad j.2.2.1 (ax_ent as)) [] S I Q)
    (l : Launch) (D : va_G) (cs : ax_Cs) (ad : Nat → Nat) (sz : Nat) : Met l j.1 (ax_ws j) { frames := d, cells := mc, slots := ms, locals := 60 * d } (va_Pc (as.map (ax_tr ad)) (ax_B D cs ad S I sz (va_A (ax_w cs ad S I) sz))) (ax_Qc D cs ad S Q (va_A (ax_w cs ad S I) sz)) mc ms (va_A (ax_w cs ad S I) sz) := by
  refine va_MetF (cc := j.2.1) (maxL := j.2.2.1) (ret := j.2.2.2) hJ.2.2.2.1 rfl ?_
  intro p e s m args below meth c s₁ B hml hv
  obtain ⟨rfl, hsz, hP, hD, hK, hZ, hT, hR⟩ := hv
  have hlocks := B.notSynchronized
  have C : ax_C j p s m ((as.map (ax_tr ad)).toArray) meth c := ⟨B.exec, B.bytes, hml, findClass_of_methodNamed B.named, fun w hw => atoms_spec (ws := ax_ws j) B.pre w (List.mem_cons_of_mem _ hw), B.returns, hlocks, fun h => (name_of_methodNamed B.named B.method).1.trans h⟩
  subst hsz
  have hl := lv_entry (as.map (ax_tr ad)) (n := j.2.2.1) (by rw [ax_sl]; exact hen)
  rw [lg_entry_eq]
  generalize (lg_sl (as.map (ax_tr ad)) ++ List.replicate (j.2.2.1 - (lg_sl (as.map (ax_tr ad))).length) Slot.unset).toArray = ls at hl ⊢
  rw [← ax_lv_ent, ← ax_lv_app (ax_ent as) 0 (j.2.2.1 - (ax_ent as).length)] at hl
  refine K p l e _ s m _ below meth c _ D cs (va_A (ax_w cs ad S I) s.heap.size) mc ms C (Nat.le_refl _) (Nat.le_refl _) (Nat.le_refl _) (Nat.le_refl _) s.heap [] 0 0 ad ls ⟨hP, hD, hK, va_S.rf, fun q h => Or.inr h, hZ, hT, hR, trivial⟩ hl (by simp) (by simp) ?_
  intro pc' ls' v S' I' ad' H' locs' hq hx hr he
  have post : ∀ t : State, t.heap = H' → ax_Qc D cs ad S Q (va_A (ax_w cs ad S I) s.heap.size) (as.map (ax_tr ad)).toArray s (.returned (v.map (ax_tr ad'))) t := fun t ht =>
    ⟨⟨v, S', I', ad', rfl, hq, by rw [ht]; exact hx.1, hx.2.1, hx.2.2.2.2.2.2.2.1, he⟩, hx.2.2.2.1.F ht⟩
  rcases v with _ | (n | (n | a))
  · exact W.vret C.1 C.2.1 (C.2.2.2.2.2.1.trans hr.2) (fun t ht _ => post t ht) hx.2.2.2.1.2.2 hr.1
  · obtain ⟨hr1, ty, hr2, hr3⟩ := hr
    exact W.zret C.1 C.2.1 (C.2.2.2.2.2.1.trans hr2) hr3 (fun t ht _ => post t ht) hx.2.2.2.1.2.2 hr1
  · exact W.lret C.1 C.2.1 (C.2.2.2.2.2.1.trans hr.2) (fun t ht _ => post t ht) hx.2.2.2.1.2.2 hr.1
  · obtain ⟨hr1, nm, hr2⟩ := hr
    exact W.aret C.1 C.2.1 (C.2.2.2.2.2.1.trans hr2) (Or.inl ⟨nm, rfl⟩) (Or.inr ⟨_, rfl⟩) (fun t ht _ => post t ht) hx.2.2.2.1.2.2 hr1
theorem ax_blind {D : va_G} {cs : ax_Cs} {ad : Nat → Nat} {S : ax_Sh} {I : ax_H} {sz : Nat} {A1 : Nat → Prop} {vs : List Value} : FrameBlind (va_Pc vs (ax_B D cs ad S I sz A1)) := by
  intro a U g mk q
  obtain ⟨q0, q1, qP, qD, qK, qZ, qT, qR⟩ := q
  exact ⟨q0, q1, qP, qD, va_K.moved (u := U) (U := U.calling g mk a) (Vm.Alike.refl U.vm) qK, va_Z.moved (u := U) (U := U.calling g mk a) (Vm.Alike.refl U.vm) qZ, va_T.moved (u := U) (U := U.calling g mk a) (Vm.Alike.refl U.vm) qT, qR⟩
section
variable {p : Program} {l : Launch} {e : Env} {R : Room} {s : State} {m : MethodId} {args : Array Value} {below : List Frame} {meth : Method} {c : Code} {H : Heap} {locs : List Loc} {cells slots : Nat} {QQ : State → Prop}
variable {pc : Nat} {ls : Array Slot} {rest st0 : List Value} {a : Array Value} {A0 A1 : Nat → Prop} {mc ms : Nat} {free : Addr → Prop} {D : va_G} {cs : ax_Cs} {ad : Nat → Nat} {S : ax_Sh} {Q1 : Option ax_V → ax_Sh → ax_H → Prop}
theorem ax_callG (hr : va_Run p l e R s m args below meth c H locs cells slots mc ms (F0 m pc ls st0) rest (ax_Qc D cs ad S Q1 A1 a) free) (hS : va_S A0 s.heap H locs) (hA : ∀ q, q < H.size → A1 q → A0 q) (hf : ∀ q, free q → A0 q)
    (kk : ∀ (v : Option ax_V) (S' : ax_Sh) (I' : ax_H) (ad' : Nat → Nat) (H1 : Heap) (locs1 : List Loc), Q1 v S' I' → va_P D vwCl (ax_w cs ad' S' I') H1 → va_D A1 (ax_w cs ad' S' I') → (∀ a i, ax_R (I' a i)) → ax_ext S ad S' ad' → va_S A0 s.heap H1 locs1 →
      W p l e R s m args below meth c H1 locs1 (cells + mc) (slots + ms) QQ (F0 m (pc + 3) ls ((v.map (ax_tr ad')).toList ++ rest))) : W p l e R s m args below meth c H locs cells slots QQ (F0 m pc ls st0) := by
  intro T hT X
  obtain ⟨v, st₀, t, T', L, h0, X', hL, e1, e2, ⟨⟨u, S', I', ad', hv, hq, hP, hD, hR, he⟩, hz, hk⟩, st⟩ := hr T hT X
  cases hv
  rw [h0] at hz hk
  obtain ⟨t2, a1, b1⟩ := kk u S' I' ad' T'.heap (locs ++ L) hq (by rw [e1]; exact hP) hD hR he
    ⟨Nat.le_trans hS.1 (by rw [e1]; exact hz), fun q h1 h2 => by rw [e1, hk q (Nat.lt_of_lt_of_le h1 hS.1) (fun z => h2 (hA q (Nat.lt_of_lt_of_le h1 hS.1) z))]; exact hS.2.1 q h1 h2, fun q hq => by
      rcases List.mem_append.mp hq with h | h
      · exact hS.2.2 q h
      · exact hf _ (hL q h)⟩ T' rfl X'
  exact ⟨t2, st t2 a1, b1⟩
end
theorem ax_free {A : Nat → Prop} {D : va_G} {cs : ax_Cs} {s : State} {H : Heap} {locs : List Loc} {ad : Nat → Nat} {S : ax_Sh} {I : ax_H} {sc : Option (Nat × (Int → Int))} (X : ax_X D cs A s H locs ad S I sc) : ∀ q, va_A (ax_w cs ad S I) H.size q → A q := by
  intro q h
  rcases h with ⟨k, e, h⟩ | h
  · exact X.2.1.2 k _ h
  · exact X.2.2.2.2.1 q (Nat.le_trans X.2.2.2.1.1 h)
theorem ax_preS {A : Nat → Prop} {D : va_G} {cs : ax_Cs} {s : State} {H : Heap} {locs : List Loc} {ad : Nat → Nat} {S : ax_Sh} {I : ax_H} {sc : Option (Nat × (Int → Int))} (X : ax_X D cs A s H locs ad S I sc) (U : State) (hU : U.heap = H) (hW : s.WarmedH U.vm) : ax_B D cs ad S I H.size (va_A (ax_w cs ad S I) H.size) U := by
  have hF := ax_free X
  have hA : s.vm.Alike U.vm := hW.alike
  refine ⟨by rw [hU], by rw [hU]; exact X.1, X.2.1.self, va_K.moved hA X.2.2.1, ?_, ?_, X.2.2.2.2.2.2.2.1⟩
  · rw [hU]
    exact va_Z.moved hA ((X.2.2.2.2.2.1.kept (fun a h1 h2 => X.2.2.2.1.2.1 a h1 h2)).narrow hF)
  · rw [hU]
    exact va_T.moved hA ((X.2.2.2.2.2.2.1.kept (fun a h1 h2 => X.2.2.2.1.2.1 a h1 h2)).narrow hF)
/-- the references of these values are numbers of cells that are there -/
def ax_vl (n : Nat) : List ax_V → Bool
  | [] => true
  | .inr (.inr a) :: r => decide (a < n ∨ 1000000 ≤ a) && ax_vl n r
  | _ :: r => ax_vl n r
def ax_vo (n : Nat) : ax_L → Bool
  | [] => true
  | some (.inr (.inr a)) :: r => decide (a < n ∨ 1000000 ≤ a) && ax_vo n r
  | _ :: r => ax_vo n r
theorem ax_vl_map {S S' : ax_Sh} {ad ad' : Nat → Nat} (he : ax_ext S ad S' ad') : ∀ st : List ax_V, ax_vl S.length st = true → st.map (ax_tr ad') = st.map (ax_tr ad)
  | [], _ => rfl
  | .inl n :: r, h => by
    have := ax_vl_map he r (by simpa [ax_vl] using h)
    simp [this, ax_tr]
  | .inr (.inl n) :: r, h => by
    have := ax_vl_map he r (by simpa [ax_vl] using h)
    simp [this, ax_tr]
  | .inr (.inr a) :: r, h => by
    simp only [ax_vl, Bool.and_eq_true, decide_eq_true_eq] at h
    have := ax_vl_map he r h.2
    simp [this, ax_tr, he.2.1 a h.1]
theorem ax_vo_map {S S' : ax_Sh} {ad ad' : Nat → Nat} (he : ax_ext S ad S' ad') : ∀ (ls : ax_L) (b : Nat), ax_vo S.length ls = true → ax_lv ad' b ls = ax_lv ad b ls
  | [], _, _ => rfl
  | none :: r, b, h => by
    have := ax_vo_map he r (b + 1) (by simpa [ax_vo] using h)
    simp [ax_lv, this]
  | some (.inl n) :: r, b, h => by
    have := ax_vo_map he r (b + 1) (by simpa [ax_vo] using h)
    simp [ax_lv, this, ax_tr]
  | some (.inr (.inl n)) :: r, b, h => by
    have := ax_vo_map he r (b + 1) (by simpa [ax_vo] using h)
    simp [ax_lv, this, ax_tr]
  | some (.inr (.inr a)) :: r, b, h => by
    simp only [ax_vo, Bool.and_eq_true, decide_eq_true_eq] at h
    have := ax_vo_map he r (b + 1) h.2
    simp [ax_lv, this, ax_tr, he.2.1 a h.1]
/-- which way a method is called -/
def ax_how (k j : ax_K) (idx : Nat) (as : List ax_V) (n : Nat) (S : ax_Sh) (dec : ByteArray → Nat → Prop) (pc : Nat) : Prop :=
  ax_J j n ∧ dec k.2.1 pc ∧
  ((∃ (b : Nat) (as' : List ax_V) (ci : Nat) (q : vw_C) (rs : List (Option Nat)), as = ax_r b :: as' ∧ as'.length = n ∧ S[b]? = some (ci, q.2.2, rs) ∧ ci < 100 ∧ vwCl[ci]? = some q ∧ q.1 = j.1.cls ∧ Cond.methodLink k.1.cls idx j.1 ∈ ax_tb ∧ Cond.instanceMethod j.1 ∈ ax_tb ∧ Cond.selects j.1.cls j.1 j.1 ∈ ax_tb ∧ decode k.2.1 pc = .ok (.invokevirtual idx, 3)) ∨
   (as.length = n ∧ Cond.methodLink k.1.cls idx j.1 ∈ ax_tb ∧ Cond.static j.1 ∈ ax_tb ∧ decode k.2.1 pc = .ok (.invokestatic idx, 3)) ∨
   (as.length = n ∧ (∃ host, Cond.methodLinkNest k.1.cls idx j.1 host ∈ ax_tb) ∧ Cond.static j.1 ∈ ax_tb ∧ decode k.2.1 pc = .ok (.invokestatic idx, 3)) ∨
   (∃ (b : Nat) (as' : List ax_V), as = ax_r b :: as' ∧ as'.length = n ∧ Cond.methodLink k.1.cls idx j.1 ∈ ax_tb ∧ Cond.instanceMethod j.1 ∈ ax_tb ∧ j.1.name = "<init>" ∧ j.2.2.2 = none ∧ decode k.2.1 pc = .ok (.invokespecial idx, 3)) ∨
   (∃ (b : Nat) (as' : List ax_V), as = ax_r b :: as' ∧ as'.length = n ∧ (∃ host, Cond.methodLinkNest k.1.cls idx j.1 host ∈ ax_tb) ∧ Cond.instanceMethod j.1 ∈ ax_tb ∧ j.1.name = "<init>" ∧ j.2.2.2 = none ∧ decode k.2.1 pc = .ok (.invokespecial idx, 3)))
theorem ax_run {dd : ax_D} {k j : ax_K} {pc idx n d mc ms : Nat} {as st : List ax_V} {S : ax_Sh} {I : ax_H} {Q1 : Option ax_V → ax_Sh → ax_H → Prop} (how : ax_how k j idx as n S (fun _ _ => True) pc) (hd1 : d + 1 ≤ dd.1) (hmc : mc ≤ dd.2.1) (hms : ms ≤ dd.2.2.1) (hen : (ax_ent as).length ≤ j.2.2.1) (hrest : ∀ ad : Nat → Nat, ((st.map (ax_tr ad)).map fun v => v.category).sum ≤ 8) (K : Rn (d, mc, ms, none) j 0 (ax_pad j.2.2.1 (ax_ent as)) [] S I Q1)
    {p : Program} {l : Launch} {e : Env} {R : Room} {s : State} {m : MethodId} {args : Array Value} {below : List Frame} {meth : Method} {c : Code} {H : Heap} {locs : List Loc} {cells slots : Nat} {D : va_G} {cs : ax_Cs} {A : Nat → Prop} {ad : Nat → Nat} {ls' : Array Slot} {MC MS : Nat} {ls : List (Nat × Value)}
    (C : ax_C k p s m args meth c) (h1 : dd.1 ≤ R.frames) (h2 : 60 * dd.1 ≤ R.locals) (h3 : MC ≤ R.cells) (h4 : MS ≤ R.slots) (X : ax_X D cs A s H locs ad S I dd.2.2.2) (hl : lv_has ls' k.2.2.1 ls) (hc : cells + dd.2.1 ≤ MC) (hs : slots + dd.2.2.1 ≤ MS) :
    ∃ a, va_Run p l e R s m args below meth c H locs cells slots mc ms (F0 m pc ls' ((as.reverse ++ st).map (ax_tr ad))) (st.map (ax_tr ad)) (ax_Qc D cs ad S Q1 (va_A (ax_w cs ad S I) H.size) a) (va_A (ax_w cs ad S I) H.size) := by
  obtain ⟨hJ, -, how⟩ := how
  have hM := ax_met hJ hen K l D cs ad H.size
  have hG : GoodIn ax_tb (ax_ws j) := fun w hw => ⟨ax_ws_in hJ hw, ax_gd (ax_ws_in hJ hw)⟩
  have hF : CallFix p m c k.2.1 k.2.2.1 s args ax_tb k.1.cls := ⟨C.1, C.2.1, C.2.2.1, C.2.2.2.1, C.2.2.2.2.1⟩
  have hR : d + 1 ≤ R.frames ∧ 8 + (j.2.2.1 + 11) + 60 * d ≤ R.locals := ⟨by omega, by have := hJ.2.2.2.2; omega⟩
  have hcs : cells + mc ≤ R.cells ∧ slots + ms ≤ R.slots := ⟨by omega, by omega⟩
  have hB := callB_of (own := k.1.cls) (index := idx) (R := R) (mc := mc) (ms := ms) (rm := { frames := d, cells := mc, slots := ms, locals := 60 * d }) (args := args) (s := s) n C.2.2.2.2.1 hG rfl rfl rfl (C.2.2.2.2.1 _ hJ.2.1)
  rcases how with ⟨b, as', ci, q, rs, rfl, hn, hb, hci, hq, hqc, hli, hin, hse, hdg⟩ | ⟨hn, hli, hst, hdg⟩ | ⟨hn, ⟨host, hli⟩, hst, hdg⟩ | ⟨b, as', rfl, hn, hli, hin, hnm, hrt, hdg⟩ | ⟨b, as', rfl, hn, ⟨host, hli⟩, hin, hnm, hrt, hdg⟩
  · have he := ax_w_get (cs := cs) (ad := ad) (I := I) hb
    rw [show ax_cell cs ad I b (ci, q.2.2, rs) = _ from if_pos hci] at he
    refine ⟨_, va_runV (C := q.1) (As := as'.map (ax_tr ad)) hF hM ⟨hB (C.2.2.2.2.1 _ hli) hJ.2.2.1 hR, C.2.2.2.2.1 _ hin, by rw [hqc]; exact C.2.2.2.2.1 _ hse⟩ ⟨ax_blind, va_recv X.2.2.1 X.1 hq he, fun U hU hW => ⟨rfl, ax_preS X U hU hW⟩⟩ rfl (by simpa using hn) hl.1 (by simp [ax_tr]) (lv_room (hrest ad)) hdg hcs⟩
  · refine ⟨_, va_runS (As := as.map (ax_tr ad)) hF hM ⟨hB (C.2.2.2.2.1 _ hli) hJ.2.2.1 hR, C.2.2.2.2.1 _ hst⟩ ⟨ax_blind, fun U hU hW => ⟨rfl, ax_preS X U hU hW⟩⟩ rfl (by simpa using hn) hl.1 (by simp) (lv_room (hrest ad)) hdg hcs⟩
  · refine ⟨_, va_runSN (As := as.map (ax_tr ad)) hF hM ⟨va_cnB n C.2.2.2.2.1 hG rfl rfl rfl (C.2.2.2.2.1 _ hli) (C.2.2.2.2.1 _ hJ.2.1) hJ.2.2.1 hR, C.2.2.2.2.1 _ hst, trivial⟩ ⟨ax_blind, fun U hU hW => ⟨rfl, ax_preS X U hU hW⟩⟩ rfl (by simpa using hn) hl.1 (by simp) (lv_room (hrest ad)) hdg hcs⟩
  · have hws : ax_ws j = Cond.code j.1 j.2.1 j.2.2.1 none :: ax_tb := by unfold ax_ws; rw [hrt]
    refine ⟨_, va_runI (b := ad b) (As := as'.map (ax_tr ad)) hF hM (cwI (maxL := j.2.2.1) n C.2.2.2.2.1 hG hws rfl rfl (C.2.2.2.2.1 _ hJ.2.1) (C.2.2.2.2.1 _ hli) (C.2.2.2.2.1 _ hin) hnm hJ.2.2.1 hR) ⟨ax_blind, fun U hU hW => ⟨rfl, ax_preS X U hU hW⟩⟩ rfl (by simpa using hn) hl.1 (by simp [ax_tr]) (lv_room (hrest ad)) hdg hcs⟩
  · have hws : ax_ws j = Cond.code j.1 j.2.1 j.2.2.1 none :: ax_tb := by unfold ax_ws; rw [hrt]
    refine ⟨_, va_runIN (b := ad b) (As := as'.map (ax_tr ad)) hF hM ⟨va_cnB (maxL := j.2.2.1) n C.2.2.2.2.1 hG hws rfl rfl (C.2.2.2.2.1 _ hli) (C.2.2.2.2.1 _ hJ.2.1) hJ.2.2.1 hR, hnm, C.2.2.2.2.1 _ hin⟩ ⟨ax_blind, fun U hU hW => ⟨rfl, ax_preS X U hU hW⟩⟩ rfl (by simpa using hn) hl.1 (by simp [ax_tr]) (lv_room (hrest ad)) hdg hcs⟩
/-- a call that may make cells -/
theorem r_callA {dd : ax_D} {k j : ax_K} {pc idx n d mc ms : Nat} {ls : ax_L} {as st st0 : List ax_V} {S : ax_Sh} {I : ax_H} {Q Q1 : Option ax_V → ax_Sh → ax_H → Prop} (how : ax_how k j idx as n S (fun _ _ => True) pc) (hst : st0 = as.reverse ++ st) (hd1 : d + 1 ≤ dd.1) (hmc : mc ≤ dd.2.1) (hms : ms ≤ dd.2.2.1) (hen : (ax_ent as).length ≤ j.2.2.1) (hrest : ∀ ad : Nat → Nat, ((st.map (ax_tr ad)).map fun v => v.category).sum ≤ 8)
    (hv1 : ax_vl S.length st = true) (hv2 : ax_vo S.length ls = true) (K : Rn (d, mc, ms, none) j 0 (ax_pad j.2.2.1 (ax_ent as)) [] S I Q1)
    (K2 : ∀ v S' I', Q1 v S' I' → Rn (dd.1, dd.2.1 - mc, dd.2.2.1 - ms, dd.2.2.2) k (pc + 3) ls (v.toList ++ st) S' I' Q) : Rn dd k pc ls st0 S I Q := by
  intro p l e R s m args below meth c QQ D cs A MC MS C h1 h2 h3 h4 H locs cells slots ad ls' X hl hc hs hk
  subst hst
  obtain ⟨a, hr⟩ := ax_run (below := below) how hd1 hmc hms hen hrest K (p := p) (l := l) (e := e) C h1 h2 h3 h4 X hl hc hs
  refine ax_callG hr X.2.2.2.1 (fun q _ h => ax_free X q h) (fun q h => ax_free X q h) (fun v S' I' ad' H1 locs1 hq hP hD hR he hS => ?_)
  have X' : ax_X D cs A s H1 locs1 ad' S' I' dd.2.2.2 := by
    have e6 : ad' 1000000 = ad 1000000 := he.2.1 _ (Or.inr (Nat.le_refl _))
    have e7 : ad' 1000001 = ad 1000001 := he.2.1 _ (Or.inr (by omega))
    refine ⟨hP, hD.weaken (fun _ q _ h => ax_free X q.1 h), X.2.2.1, hS, X.2.2.2.2.1, by rw [e6]; exact X.2.2.2.2.2.1, by rw [e6]; exact X.2.2.2.2.2.2.1, hR, ?_⟩
    have := X.2.2.2.2.2.2.2.2
    unfold ax_sc at this ⊢
    rw [e7]
    exact this
  have := K2 v S' I' hq p l e R s m args below meth c QQ D cs A MC MS C h1 h2 h3 h4 H1 locs1 (cells + mc) (slots + ms) ad' ls' X' (by rw [ax_vo_map he ls 0 hv2]; exact hl) (by show cells + mc + (dd.2.1 - mc) ≤ MC; omega) (by show slots + ms + (dd.2.2.1 - ms) ≤ MS; omega) (fun pc' ls' v S2 I2 ad2 H2 locs2 hq2 hx2 hr2 he2 => hk pc' ls' v S2 I2 ad2 H2 locs2 hq2 hx2 hr2 (he.trans he2))
  rw [← ax_vl_map he st hv1]
  rw [List.map_append] at this
  cases v <;> exact this
/-- a call that makes none -/
theorem r_call {dd : ax_D} {k j : ax_K} {pc idx n d : Nat} {ls : ax_L} {as st st0 : List ax_V} {S : ax_Sh} {I : ax_H} {Q Q1 : Option ax_V → ax_Sh → ax_H → Prop} (how : ax_how k j idx as n S (fun _ _ => True) pc) (hst : st0 = as.reverse ++ st) (hd1 : d + 1 ≤ dd.1) (hen : (ax_ent as).length ≤ j.2.2.1) (hrest : ∀ ad : Nat → Nat, ((st.map (ax_tr ad)).map fun v => v.category).sum ≤ 8)
    (K : Rn (d, 0, 0, none) j 0 (ax_pad j.2.2.1 (ax_ent as)) [] S I Q1)
    (K2 : ∀ v S' I', Q1 v S' I' → S' = S ∧ Rn dd k (pc + 3) ls (v.toList ++ st) S I' Q) : Rn dd k pc ls st0 S I Q := by
  intro p l e R s m args below meth c QQ D cs A MC MS C h1 h2 h3 h4 H locs cells slots ad ls' X hl hc hs hk
  subst hst
  obtain ⟨a, hr⟩ := ax_run (below := below) how hd1 (Nat.zero_le _) (Nat.zero_le _) hen hrest K (p := p) (l := l) (e := e) C h1 h2 h3 h4 X hl hc hs
  refine ax_callG hr X.2.2.2.1 (fun q _ h => ax_free X q h) (fun q h => ax_free X q h) (fun v S' I' ad' H1 locs1 hq hP hD hR he hS => ?_)
  obtain ⟨rfl, K3⟩ := K2 v S' I' hq
  obtain rfl : ad' = ad := he.2.2 rfl
  have := K3 p l e R s m args below meth c QQ D cs A MC MS C h1 h2 h3 h4 H1 locs1 cells slots ad' ls' ⟨hP, hD.weaken (fun _ q _ h => ax_free X q.1 h), X.2.2.1, hS, X.2.2.2.2.1, X.2.2.2.2.2.1, X.2.2.2.2.2.2.1, hR, X.2.2.2.2.2.2.2.2⟩ hl hc hs hk
  rw [List.map_append] at this
  cases v <;> exact this
end
section
/-! making cells -/
def ax_zr (I : ax_H) (a : Nat) : ax_H := fun b j => if b = a then 0 else I b j
theorem ax_cell_congr {cs : ax_Cs} {ad ad' : Nat → Nat} {I I' : ax_H} {i : Nat} {r : Nat × Nat × List (Option Nat)} (h : I' i = I i) (hr : ∀ b, some b ∈ r.2.2 → ad' b = ad b) : ax_cell cs ad' I' i r = ax_cell cs ad I i r := by
  have key : ∀ j, (r.2.2.getD j none).map ad' = (r.2.2.getD j none).map ad := by
    intro j
    cases hj : r.2.2[j]? with
    | none => simp [hj]
    | some o =>
      cases o with
      | none => simp [hj]
      | some b =>
        have := hr b (List.mem_of_getElem? hj)
        simp [hj, this]
  unfold ax_cell
  rw [h]
  simp only [key]
/-- all references of the shape are numbers of cells that are there -/
def ax_cl1 (n : Nat) (r : Nat × Nat × List (Option Nat)) : Bool := r.2.2.all (fun o => match o with | none => true | some b => decide (b < n))
def ax_closed (S : ax_Sh) : Bool := S.all (ax_cl1 S.length)
theorem ax_closed_at {S : ax_Sh} (h : ax_closed S = true) {i b : Nat} (hi : i < S.length) (hb : some b ∈ (S.getD i (0, 0, [])).2.2) : b < S.length := by
  have h1 := List.all_eq_true.mp h (S.getD i (0, 0, [])) (by rw [List.getD_eq_getElem?_getD, List.getElem?_eq_getElem hi]; exact List.getElem_mem hi)
  have h2 := List.all_eq_true.mp h1 (some b) hb
  simpa using h2
theorem ax_up_ext {S : ax_Sh} {ad : Nat → Nat} {q : Nat} {r : Nat × Nat × List (Option Nat)} (hS : S.length < 1000000) : ax_ext S ad (S ++ [r]) (va_up ad S.length q) := by
  refine ⟨by simp, fun i hi => ?_, fun h => by simp at h⟩
  unfold va_up
  rw [if_neg (by omega)]
theorem ax_w_push {cs : ax_Cs} {ad : Nat → Nat} {S : ax_Sh} {I : ax_H} {q : Nat} {r : Nat × Nat × List (Option Nat)} {e : va_E} (hcl : ax_closed S = true) (he : ax_cell cs (va_up ad S.length q) (ax_zr I S.length) S.length r = e) : ax_w cs ad S I ++ [(q, e)] = ax_w cs (va_up ad S.length q) (S ++ [r]) (ax_zr I S.length) := by
  unfold ax_w
  rw [List.length_append, List.length_singleton, List.range_succ, List.map_append]
  congr 1
  · apply List.map_congr_left
    intro i hi
    have hi : i < S.length := List.mem_range.mp hi
    have h1 : va_up ad S.length q i = ad i := by unfold va_up; rw [if_neg (by omega)]
    have h2 : (S ++ [r]).getD i (0, 0, []) = S.getD i (0, 0, []) := by
      rw [List.getD_eq_getElem?_getD, List.getD_eq_getElem?_getD, List.getElem?_append_left hi]
    rw [h1, h2]
    congr 1
    refine (ax_cell_congr ?_ ?_).symm
    · funext j
      simp [ax_zr, show ¬ i = S.length by omega]
    · intro b hb
      have := ax_closed_at hcl hi hb
      unfold va_up
      rw [if_neg (by omega)]
  · have h2 : (S ++ [r]).getD S.length (0, 0, []) = r := by
      rw [List.getD_eq_getElem?_getD, List.getElem?_append_right (Nat.le_refl _)]
      simp
    simp only [List.map_cons, List.map_nil]
    rw [h2, he]
    simp [va_up]
theorem ax_zr_R {I : ax_H} {a : Nat} (h : ∀ b j, ax_R (I b j)) : ∀ b j, ax_R (ax_zr I a b j) := by
  intro b j
  unfold ax_zr
  split
  · decide
  · exact h b j
/-- a step that makes one cell of n slots -/
theorem ax_mk {dd : ax_D} {k : ax_K} {pc pc' : Nat} {ls : ax_L} {st st2 : List ax_V} {S : ax_Sh} {I : ax_H} {Q : Option ax_V → ax_Sh → ax_H → Prop} {r : Nat × Nat × List (Option Nat)} {ca sa : Nat} (hS : S.length < 1000000) (hcl : ax_closed S = true) (hca : dd.2.1 = ca + 1) (hsa : dd.2.2.1 = sa + r.2.1) (hv1 : ax_vl S.length st2 = true) (hv2 : ax_vo S.length ls = true)
    (K : Rn (dd.1, ca, sa, dd.2.2.2) k pc' ls (ax_r S.length :: st2) (S ++ [r]) (ax_zr I S.length) Q)
    (h : ∀ (p : Program) (l : Launch) (e : Env) (R : Room) (s : State) (m : MethodId) (args : Array Value) (below : List Frame) (meth : Method) (c : Code) (QQ : State → Prop) (D : va_G) (cs : ax_Cs) (A : Nat → Prop) (H : Heap) (locs : List Loc) (cells slots : Nat) (ad : Nat → Nat) (ls' : Array Slot),
      ax_C k p s m args meth c → ax_X D cs A s H locs ad S I dd.2.2.2 → lv_has ls' k.2.2.1 (ax_lv ad 0 ls) → cells + 1 ≤ R.cells → slots + r.2.1 ≤ R.slots →
      (∀ (H1 : Heap) (q : Nat) (ws : va_W), ws = ax_w cs (va_up ad S.length q) (S ++ [r]) (ax_zr I S.length) → va_P D vwCl ws H1 → va_D A ws → va_S A s.heap H1 locs → W p l e R s m args below meth c H1 locs (cells + 1) (slots + r.2.1) QQ (F0 m pc' ls' (.ref q :: st2.map (ax_tr ad)))) →
      W p l e R s m args below meth c H locs cells slots QQ (F0 m pc ls' (st.map (ax_tr ad)))) :
    Rn dd k pc ls st S I Q := by
  intro p l e R s m args below meth c QQ D cs A MC MS C h1 h2 h3 h4 H locs cells slots ad ls' X hl hc hs hk
  refine h p l e R s m args below meth c QQ D cs A H locs cells slots ad ls' C X hl (by omega) (by omega) (fun H1 q ws hws hP hD hS2 => ?_)
  subst hws
  have he : ax_ext S ad (S ++ [r]) (va_up ad S.length q) := ax_up_ext hS
  have e6 : va_up ad S.length q 1000000 = ad 1000000 := he.2.1 _ (Or.inr (Nat.le_refl _))
  have e7 : va_up ad S.length q 1000001 = ad 1000001 := he.2.1 _ (Or.inr (by omega))
  have X' : ax_X D cs A s H1 locs (va_up ad S.length q) (S ++ [r]) (ax_zr I S.length) dd.2.2.2 := by
    refine ⟨hP, hD, X.2.2.1, hS2, X.2.2.2.2.1, by rw [e6]; exact X.2.2.2.2.2.1, by rw [e6]; exact X.2.2.2.2.2.2.1, ax_zr_R X.2.2.2.2.2.2.2.1, ?_⟩
    have := X.2.2.2.2.2.2.2.2
    unfold ax_sc at this ⊢
    rw [e7]
    exact this
  have := K p l e R s m args below meth c QQ D cs A MC MS C h1 h2 h3 h4 H1 locs (cells + 1) (slots + r.2.1) (va_up ad S.length q) ls' X' (by rw [ax_vo_map he ls 0 hv2]; exact hl) (by show cells + 1 + ca ≤ MC; omega) (by show slots + r.2.1 + sa ≤ MS; omega) (fun pc' ls' v S2 I2 ad2 H2 locs2 hq2 hx2 hr2 he2 => hk pc' ls' v S2 I2 ad2 H2 locs2 hq2 hx2 hr2 (he.trans he2))
  rw [List.map_cons, ax_vl_map he st2 hv1] at this
  have e8 : ax_tr (va_up ad S.length q) (ax_r S.length) = .ref q := by simp [ax_tr, va_up]
  rw [e8] at this
  exact this
section
variable {dd : ax_D} {k : ax_K} {pc : Nat} {ls : ax_L} {st : List ax_V} {S : ax_Sh} {I : ax_H} {Q : Option ax_V → ax_Sh → ax_H → Prop}
theorem r_new {ci : Nat} {C : String} {T : u_T} {N : Nat} {ty : Nat → FieldType} {idx ca sa : Nat} (hc : ax_cl ci C T N ty) (hS : S.length < 1000000) (hcl : ax_closed S = true) (hca : dd.2.1 = ca + 1) (hsa : dd.2.2.1 = sa + N) (hv1 : ax_vl S.length st = true) (hv2 : ax_vo S.length ls = true)
    (hw1 : Cond.classLink k.1.cls idx C ∈ ax_tb) (hw2 : Cond.instantiable C N ∈ ax_tb) (hw3 : Cond.initialized C ∈ ax_tb) (hd : decode k.2.1 pc = .ok (.new idx, 3)) (K : Rn (dd.1, ca, sa, dd.2.2.2) k (pc + 3) ls (ax_r S.length :: st) (S ++ [(ci, N, List.replicate N none)]) (ax_zr I S.length) Q) : Rn dd k pc ls st S I Q :=
  ax_mk (r := (ci, N, List.replicate N none)) hS hcl hca hsa hv1 hv2 K fun _ _ _ _ _ _ _ _ _ _ _ D cs A H locs _ _ ad ls' C2 X hl h1 h2 w => by
    refine va_new (D := D) (ci := ci) (fs := (List.range N).map (fun j => if ax_isr ci j then .null else .int 0)) C2.1 C2.2.1 C2.2.2.2.2.1 hc.2.2.1 ty hc.2.2.2.1 C2.2.2.2.1 (C2.2.2.2.2.1 _ hw1) (C2.2.2.2.2.1 _ hw2) (C2.2.2.2.2.1 _ hw3) X.2.2.1 X.1 X.2.1 X.2.2.2.1 X.2.2.2.2.1 hc.2.1 ?_ h1 h2 hd (fun q H1 hP hD hS2 => w H1 q _ ?_ hP hD hS2)
    · intro j hj
      rw [hc.2.2.2.2.2 j hj]
      simp [vp_V, hj]
    · refine ax_w_push hcl ?_
      rw [show ax_cell cs (va_up ad S.length q) (ax_zr I S.length) S.length (ci, N, List.replicate N none) = _ from if_pos hc.1]
      congr 2
      apply List.map_congr_left
      intro j hj
      have hj : j < N := List.mem_range.mp hj
      simp [ax_zr, hj, va_rf]
theorem ax_cid {U : State} {t : FieldType} {a b : ClassId} (h1 : U.vm.findClass ("[" ++ t.toString) = some a) (h2 : U.vm.findClass ("[" ++ t.toString) = some b) : a = b := Option.some.inj (h1.symm.trans h2)
theorem r_newI {n : Int} {N ca sa : Nat} (hN : n = (N : Int)) (hlt : N ≤ 100000) (hS : S.length < 1000000) (hcl : ax_closed S = true) (hca : dd.2.1 = ca + 1) (hsa : dd.2.2.1 = sa + N) (hv1 : ax_vl S.length st = true) (hv2 : ax_vo S.length ls = true) (hw : Cond.arrayClass .int ∈ ax_tb)
    (hd : decode k.2.1 pc = .ok (.newarray .int, 2)) (K : Rn (dd.1, ca, sa, dd.2.2.2) k (pc + 2) ls (ax_r S.length :: st) (S ++ [(100, N, [])]) (ax_zr I S.length) Q) : Rn dd k pc ls (ax_i n :: st) S I Q :=
  ax_mk (r := (100, N, [])) hS hcl hca hsa hv1 hv2 K fun _ _ _ _ _ _ _ _ _ _ _ D cs A H locs _ _ ad ls' C2 X hl h1 h2 w => by
    subst hN
    refine va_newa (D := D) (atype := .int) (ty := .int) (N' := N) (a0 := (N, .inl (fun _ => 0))) C2.1 C2.2.1 (C2.2.2.2.2.1 _ hw) rfl X.2.2.1 X.1 X.2.1 X.2.2.2.1 X.2.2.2.2.1 (fun cA => by rfl) (fun h => by have := (ax_lt (x := (N : Int)) (y := 0) ⟨by omega, by omega⟩ ax_R0).mp h; omega) (by rw [ax_nat (by omega) (by omega)]; omega) (by show N * 4 ≤ _; omega) h1 h2 hd (fun q cA H1 hK hP hD hS2 => w H1 q _ ?_ hP hD hS2)
    refine ax_w_push hcl ?_
    have e : cA = cs.1 := ax_cid (U := _) (t := .int) (hK.2 4 (cA, .int) rfl).2 (X.2.2.1.2 0 (cs.1, .int) rfl).2
    subst e
    show (Sum.inl (cs.1, N, Sum.inl _) : va_E) = Sum.inl (cs.1, N, Sum.inl _)
    congr 4
    funext j
    simp [ax_zr]
theorem r_newZ {n : Int} {N ca sa : Nat} (hN : n = (N : Int)) (hlt : N ≤ 100000) (hS : S.length < 1000000) (hcl : ax_closed S = true) (hca : dd.2.1 = ca + 1) (hsa : dd.2.2.1 = sa + N) (hv1 : ax_vl S.length st = true) (hv2 : ax_vo S.length ls = true) (hw : Cond.arrayClass .boolean ∈ ax_tb)
    (hd : decode k.2.1 pc = .ok (.newarray .boolean, 2)) (K : Rn (dd.1, ca, sa, dd.2.2.2) k (pc + 2) ls (ax_r S.length :: st) (S ++ [(101, N, [])]) (ax_zr I S.length) Q) : Rn dd k pc ls (ax_i n :: st) S I Q :=
  ax_mk (r := (101, N, [])) hS hcl hca hsa hv1 hv2 K fun _ _ _ _ _ _ _ _ _ _ _ D cs A H locs _ _ ad ls' C2 X hl h1 h2 w => by
    subst hN
    refine va_newa (D := D) (atype := .boolean) (ty := .boolean) (N' := N) (a0 := (N, .inl (fun _ => 0))) C2.1 C2.2.1 (C2.2.2.2.2.1 _ hw) rfl X.2.2.1 X.1 X.2.1 X.2.2.2.1 X.2.2.2.2.1 (fun cA => by rfl) (fun h => by have := (ax_lt (x := (N : Int)) (y := 0) ⟨by omega, by omega⟩ ax_R0).mp h; omega) (by rw [ax_nat (by omega) (by omega)]; omega) (by show N * 1 ≤ _; omega) h1 h2 hd (fun q cA H1 hK hP hD hS2 => w H1 q _ ?_ hP hD hS2)
    refine ax_w_push hcl ?_
    have e : cA = cs.2.1 := ax_cid (U := _) (t := .boolean) (hK.2 4 (cA, .boolean) rfl).2 (X.2.2.1.2 1 (cs.2.1, .boolean) rfl).2
    subst e
    show (Sum.inl (cs.2.1, N, Sum.inl _) : va_E) = Sum.inl (cs.2.1, N, Sum.inl _)
    congr 4
    funext j
    simp [ax_zr]
theorem r_newP {n : Int} {N ca sa idx : Nat} (hN : n = (N : Int)) (hlt : N ≤ 100000) (hS : S.length < 1000000) (hcl : ax_closed S = true) (hca : dd.2.1 = ca + 1) (hsa : dd.2.2.1 = sa + N) (hv1 : ax_vl S.length st = true) (hv2 : ax_vo S.length ls = true) (hw : Cond.classLink k.1.cls idx "KeptCurves$Poly" ∈ ax_tb) (hw2 : Cond.arrayOver (.object "KeptCurves$Poly") ∈ ax_tb)
    (hd : decode k.2.1 pc = .ok (.anewarray idx, 3)) (K : Rn (dd.1, ca, sa, dd.2.2.2) k (pc + 3) ls (ax_r S.length :: st) (S ++ [(102, N, List.replicate N none)]) (ax_zr I S.length) Q) : Rn dd k pc ls (ax_i n :: st) S I Q :=
  ax_mk (r := (102, N, List.replicate N none)) hS hcl hca hsa hv1 hv2 K fun _ _ _ _ _ _ _ _ _ _ _ D cs A H locs _ _ ad ls' C2 X hl h1 h2 w => by
    subst hN
    refine va_newq (D := D) (C := "KeptCurves$Poly") (N' := N) C2.1 C2.2.1 C2.2.2.2.1 (C2.2.2.2.2.1 _ hw) (va_AO.of (C2.2.2.2.2.1 _ hw2)) X.2.2.1 X.1 X.2.1 X.2.2.2.1 X.2.2.2.2.1 (fun h => by have := (ax_lt (x := (N : Int)) (y := 0) ⟨by omega, by omega⟩ ax_R0).mp h; omega) (by rw [ax_nat (by omega) (by omega)]; omega) (by omega) h1 h2 hd (fun q cA H1 hK hP hD hS2 => w H1 q _ ?_ hP hD hS2)
    refine ax_w_push hcl ?_
    have e : cA = cs.2.2.1 := by
      obtain ⟨_, _, _, _, _, h5⟩ := (hK.2 4 (cA, .object "KeptCurves$Poly") rfl).2
      obtain ⟨_, _, _, _, _, h6⟩ := (X.2.2.1.2 2 (cs.2.2.1, .object "KeptCurves$Poly") rfl).2
      exact Option.some.inj (h5.symm.trans h6)
    subst e
    show (Sum.inl (cs.2.2.1, N, Sum.inr (Sum.inr (Sum.inr (Sum.inr _)))) : va_E) = Sum.inl (cs.2.2.1, N, Sum.inr (Sum.inr (Sum.inr (Sum.inr _))))
    congr 7
    funext j
    by_cases hj : j < N
    · simp [hj]
    · simp [hj]
/-- Object.<init> -/
theorem r_objInit {a : Nat} {idx : Nat} (hd1 : 1 ≤ dd.1) (hrest : ∀ ad : Nat → Nat, ((st.map (ax_tr ad)).map fun v => v.category).sum ≤ 8) (hw1 : Cond.methodLink k.1.cls idx Lib.objectInit ∈ ax_tb) (hw2 : Cond.instanceMethod Lib.objectInit ∈ ax_tb) (hw3 : Cond.code Lib.objectInit ⟨#[0xb1]⟩ 1 none ∈ ax_tb) (hd : decode k.2.1 pc = .ok (.invokespecial idx, 3)) (K : Rn dd k (pc + 3) ls st S I Q) : Rn dd k pc ls (ax_r a :: st) S I Q :=
  ax_pure K fun _ _ _ _ _ _ _ _ _ _ _ D cs A H locs _ _ ad ls' C X hl h1 h2 w => by
    have := lv_room (m := ⟨0, 0⟩) (pc := 0) (ls := ls') (rest := []) (hrest ad)
    refine W.objInit C.1 C.2.1 C.2.2.2.1 (C.2.2.2.2.1 _ hw1) (C.2.2.2.2.1 _ hw2) (C.2.2.2.2.1 _ hw3) (a := ad a) (rest := st.map (ax_tr ad)) rfl (by rw [C.2.2.1]; exact hl.1) rfl hd (by omega) ?_ (w ls' hl)
    have h9 := hrest ad
    show 2 * 0 + _ + 12 ≤ _
    omega
/-- the script -/
theorem r_sld {i : Int} {L : Nat} {xs : Int → Int} (hsc : dd.2.2.2 = some (L, xs)) (hL : L < 2147483648) (hd : decode k.2.1 pc = .ok (.iaload, 1)) (h : 0 ≤ i ∧ i < (L : Int)) (K : Rn dd k (pc + 1) ls (ax_i (xs i) :: st) S I Q) : Rn dd k pc ls (ax_i i :: ax_r 1000001 :: st) S I Q :=
  ax_pure K fun _ _ _ _ _ _ _ _ _ _ _ D cs A H locs _ _ ad ls' C X hl _ _ w => by
    have hx := X.2.2.2.2.2.2.2.2
    rw [hsc] at hx
    refine va_sld C.1 C.2.1 hx.1 hx.2.1 hx.2.2 X.2.2.2.1 (ax_in h.1 h.2 hL) hd ?_
    rw [ax_nat h.1 (by omega), Int.toNat_of_nonneg h.1]
    exact w ls' hl
theorem r_slen {L : Nat} {xs : Int → Int} (hsc : dd.2.2.2 = some (L, xs)) (hd : decode k.2.1 pc = .ok (.arraylength, 1)) (K : Rn dd k (pc + 1) ls (ax_i (L : Int) :: st) S I Q) : Rn dd k pc ls (ax_r 1000001 :: st) S I Q :=
  ax_pure K fun _ _ _ _ _ _ _ _ _ _ _ D cs A H locs _ _ ad ls' C X hl _ _ w => by
    have hx := X.2.2.2.2.2.2.2.2
    rw [hsc] at hx
    exact va_slen C.1 C.2.1 hx.1 hx.2.1 hx.2.2 X.2.2.2.1 hd (w ls' hl)
theorem r_getInvN {idx : Nat} {host : String} (hd : decode k.2.1 pc = .ok (.getstatic idx, 3)) (hw : Cond.fieldLinkNest k.1.cls idx "KeptCurves" "INVERSE" "[I" host ∈ ax_tb) (K : Rn dd k (pc + 3) ls (ax_r 1000000 :: st) S I Q) : Rn dd k pc ls st S I Q :=
  ax_pure K fun _ _ _ _ _ _ _ _ _ _ _ D cs A H locs _ _ ad ls' C X hl _ _ w => va_getsN C.1 C.2.1 X.2.2.2.2.2.1 X.2.2.2.1 C.2.2.2.1 (C.2.2.2.2.1 _ hw) (fun _ h => h) hd (w ls' hl)
end
end
section
theorem ax_in1_1 {w : Cond} {i : Nat} (h : tables_1_1[i]? = some w) (g : goodWord w = true) : w ∈ ax_tb := List.mem_filter.mpr ⟨List.mem_append_right _ (List.mem_append_left _ (List.mem_of_getElem? h)), g⟩
theorem ax_in1_2 {w : Cond} {i : Nat} (h : tables_1_2[i]? = some w) (g : goodWord w = true) : w ∈ ax_tb := List.mem_filter.mpr ⟨List.mem_append_right _ (List.mem_append_right _ (List.mem_append_left _ (List.mem_of_getElem? h))), g⟩
theorem ax_in1_3 {w : Cond} {i : Nat} (h : tables_1_3[i]? = some w) (g : goodWord w = true) : w ∈ ax_tb := List.mem_filter.mpr ⟨List.mem_append_right _ (List.mem_append_right _ (List.mem_append_right _ (List.mem_append_left _ (List.mem_of_getElem? h)))), g⟩
theorem ax_in1_4 {w : Cond} {i : Nat} (h : tables_1_4[i]? = some w) (g : goodWord w = true) : w ∈ ax_tb := List.mem_filter.mpr ⟨List.mem_append_right _ (List.mem_append_right _ (List.mem_append_right _ (List.mem_append_right _ (List.mem_append_left _ (List.mem_of_getElem? h))))), g⟩
theorem ax_in1_5 {w : Cond} {i : Nat} (h : tables_1_5[i]? = some w) (g : goodWord w = true) : w ∈ ax_tb := List.mem_filter.mpr ⟨List.mem_append_right _ (List.mem_append_right _ (List.mem_append_right _ (List.mem_append_right _ (List.mem_append_right _ (List.mem_append_left _ (List.mem_of_getElem? h)))))), g⟩
theorem ax_in1_6 {w : Cond} {i : Nat} (h : tables_1_6[i]? = some w) (g : goodWord w = true) : w ∈ ax_tb := List.mem_filter.mpr ⟨List.mem_append_right _ (List.mem_append_right _ (List.mem_append_right _ (List.mem_append_right _ (List.mem_append_right _ (List.mem_append_right _ (List.mem_of_getElem? h)))))), g⟩
theorem ax_in0 {w : Cond} {i : Nat} (h : (k2_sels lw_privs)[i]? = some w) (g : goodWord w = true) : w ∈ ax_tb := List.mem_filter.mpr ⟨List.mem_append_left _ (List.mem_of_getElem? h), g⟩
/-! the shape behind the two constructors -/
def S0 : ax_Sh := [(10, 14, [some 1, some 10, some 15, some 63, some 65, some 67, some 70, some 72, some 74, some 77, some 78, some 80, some 82, none]), (1, 10, [some 2, none, none, none, some 4, some 5, some 6, some 7, some 8, some 9]), (9, 1, [some 3]), (100, 18, []), (100, 192, []), (100, 1024, []), (100, 32, []), (100, 1024, []), (101, 1024, []), (100, 1024, []), (5, 5, [some 11, some 12, some 13, some 14, none]), (100, 1024, []), (100, 1024, []), (100, 1024, []), (100, 1025, []), (2, 13, [some 16, some 21, some 26, some 33, some 40, some 47, some 49, some 51, some 53, some 55, some 57, some 59, some 61]), (3, 2, [some 17, some 19]), (7, 2, [some 18, none]), (100, 1300, []), (7, 2, [some 20, none]), (100, 1300, []), (3, 2, [some 22, some 24]), (7, 2, [some 23, none]), (100, 1300, []), (7, 2, [some 25, none]), (100, 1300, []), (102, 3, [some 27, some 29, some 31]), (7, 2, [some 28, none]), (100, 1300, []), (7, 2, [some 30, none]), (100, 1300, []), (7, 2, [some 32, none]), (100, 1300, []), (102, 3, [some 34, some 36, some 38]), (7, 2, [some 35, none]), (100, 1300, []), (7, 2, [some 37, none]), (100, 1300, []), (7, 2, [some 39, none]), (100, 1300, []), (102, 3, [some 41, some 43, some 45]), (7, 2, [some 42, none]), (100, 1300, []), (7, 2, [some 44, none]), (100, 1300, []), (7, 2, [some 46, none]), (100, 1300, []), (7, 2, [some 48, none]), (100, 1300, []), (7, 2, [some 50, none]), (100, 1300, []), (7, 2, [some 52, none]), (100, 1300, []), (7, 2, [some 54, none]), (100, 1300, []), (7, 2, [some 56, none]), (100, 1300, []), (7, 2, [some 58, none]), (100, 1300, []), (7, 2, [some 60, none]), (100, 1300, []), (7, 2, [some 62, none]), (100, 1300, []), (8, 2, [some 64, none]), (100, 12, []), (8, 2, [some 66, none]), (100, 12, []), (6, 3, [some 68, some 69, none]), (100, 8, []), (100, 8, []), (0, 2, [some 71, none]), (100, 60, []), (0, 2, [some 73, none]), (100, 60, []), (4, 2, [some 75, some 76]), (100, 4, []), (100, 48, []), (100, 9, []), (9, 1, [some 79]), (100, 18, []), (8, 2, [some 81, none]), (100, 12, []), (6, 3, [some 83, some 84, none]), (100, 8, []), (100, 8, []), (11, 30, [some 86, some 87, none, some 88, some 89, some 90, some 91, some 92, some 93, some 94, some 95, some 96, some 97, some 104, some 105, some 106, some 107, some 108, some 109, some 110, some 111, some 112, some 113, none, none, some 114, some 115, none, some 116, some 117]), (100, 48, []), (100, 48, []), (100, 1024, []), (100, 32, []), (100, 1024, []), (101, 1024, []), (100, 1025, []), (100, 2500, []), (100, 2500, []), (100, 2500, []), (100, 2500, []), (103, 6, [some 98, some 99, some 100, some 101, some 102, some 103]), (100, 2500, []), (100, 2500, []), (100, 2500, []), (100, 2500, []), (100, 2500, []), (100, 2500, []), (100, 2500, []), (100, 2500, []), (100, 2500, []), (100, 2500, []), (100, 2500, []), (100, 2500, []), (100, 2500, []), (100, 2500, []), (101, 1024, []), (100, 60, []), (100, 9, []), (100, 120, []), (100, 4, []), (103, 4, [some 118, some 119, some 120, some 121]), (100, 12, []), (100, 12, []), (100, 12, []), (100, 12, [])]
theorem s0_len : S0.length = 122 := rfl
theorem s0_0 : S0[0]? = some (10, 14, [some 1, some 10, some 15, some 63, some 65, some 67, some 70, some 72, some 74, some 77, some 78, some 80, some 82, none]) := rfl
theorem s0_1 : S0[1]? = some (1, 10, [some 2, none, none, none, some 4, some 5, some 6, some 7, some 8, some 9]) := rfl
theorem s0_2 : S0[2]? = some (9, 1, [some 3]) := rfl
theorem s0_3 : S0[3]? = some (100, 18, []) := rfl
theorem s0_4 : S0[4]? = some (100, 192, []) := rfl
theorem s0_5 : S0[5]? = some (100, 1024, []) := rfl
theorem s0_6 : S0[6]? = some (100, 32, []) := rfl
theorem s0_7 : S0[7]? = some (100, 1024, []) := rfl
theorem s0_8 : S0[8]? = some (101, 1024, []) := rfl
theorem s0_9 : S0[9]? = some (100, 1024, []) := rfl
theorem s0_10 : S0[10]? = some (5, 5, [some 11, some 12, some 13, some 14, none]) := rfl
theorem s0_11 : S0[11]? = some (100, 1024, []) := rfl
theorem s0_12 : S0[12]? = some (100, 1024, []) := rfl
theorem s0_13 : S0[13]? = some (100, 1024, []) := rfl
theorem s0_14 : S0[14]? = some (100, 1025, []) := rfl
theorem s0_15 : S0[15]? = some (2, 13, [some 16, some 21, some 26, some 33, some 40, some 47, some 49, some 51, some 53, some 55, some 57, some 59, some 61]) := rfl
theorem s0_16 : S0[16]? = some (3, 2, [some 17, some 19]) := rfl
theorem s0_17 : S0[17]? = some (7, 2, [some 18, none]) := rfl
theorem s0_18 : S0[18]? = some (100, 1300, []) := rfl
theorem s0_19 : S0[19]? = some (7, 2, [some 20, none]) := rfl
theorem s0_20 : S0[20]? = some (100, 1300, []) := rfl
theorem s0_21 : S0[21]? = some (3, 2, [some 22, some 24]) := rfl
theorem s0_22 : S0[22]? = some (7, 2, [some 23, none]) := rfl
theorem s0_23 : S0[23]? = some (100, 1300, []) := rfl
theorem s0_24 : S0[24]? = some (7, 2, [some 25, none]) := rfl
theorem s0_25 : S0[25]? = some (100, 1300, []) := rfl
theorem s0_26 : S0[26]? = some (102, 3, [some 27, some 29, some 31]) := rfl
theorem s0_27 : S0[27]? = some (7, 2, [some 28, none]) := rfl
theorem s0_28 : S0[28]? = some (100, 1300, []) := rfl
theorem s0_29 : S0[29]? = some (7, 2, [some 30, none]) := rfl
theorem s0_30 : S0[30]? = some (100, 1300, []) := rfl
theorem s0_31 : S0[31]? = some (7, 2, [some 32, none]) := rfl
theorem s0_32 : S0[32]? = some (100, 1300, []) := rfl
theorem s0_33 : S0[33]? = some (102, 3, [some 34, some 36, some 38]) := rfl
theorem s0_34 : S0[34]? = some (7, 2, [some 35, none]) := rfl
theorem s0_35 : S0[35]? = some (100, 1300, []) := rfl
theorem s0_36 : S0[36]? = some (7, 2, [some 37, none]) := rfl
theorem s0_37 : S0[37]? = some (100, 1300, []) := rfl
theorem s0_38 : S0[38]? = some (7, 2, [some 39, none]) := rfl
theorem s0_39 : S0[39]? = some (100, 1300, []) := rfl
theorem s0_40 : S0[40]? = some (102, 3, [some 41, some 43, some 45]) := rfl
theorem s0_41 : S0[41]? = some (7, 2, [some 42, none]) := rfl
theorem s0_42 : S0[42]? = some (100, 1300, []) := rfl
theorem s0_43 : S0[43]? = some (7, 2, [some 44, none]) := rfl
theorem s0_44 : S0[44]? = some (100, 1300, []) := rfl
theorem s0_45 : S0[45]? = some (7, 2, [some 46, none]) := rfl
theorem s0_46 : S0[46]? = some (100, 1300, []) := rfl
theorem s0_47 : S0[47]? = some (7, 2, [some 48, none]) := rfl
theorem s0_48 : S0[48]? = some (100, 1300, []) := rfl
theorem s0_49 : S0[49]? = some (7, 2, [some 50, none]) := rfl
theorem s0_50 : S0[50]? = some (100, 1300, []) := rfl
theorem s0_51 : S0[51]? = some (7, 2, [some 52, none]) := rfl
theorem s0_52 : S0[52]? = some (100, 1300, []) := rfl
theorem s0_53 : S0[53]? = some (7, 2, [some 54, none]) := rfl
theorem s0_54 : S0[54]? = some (100, 1300, []) := rfl
theorem s0_55 : S0[55]? = some (7, 2, [some 56, none]) := rfl
theorem s0_56 : S0[56]? = some (100, 1300, []) := rfl
theorem s0_57 : S0[57]? = some (7, 2, [some 58, none]) := rfl
theorem s0_58 : S0[58]? = some (100, 1300, []) := rfl
theorem s0_59 : S0[59]? = some (7, 2, [some 60, none]) := rfl
theorem s0_60 : S0[60]? = some (100, 1300, []) := rfl
theorem s0_61 : S0[61]? = some (7, 2, [some 62, none]) := rfl
theorem s0_62 : S0[62]? = some (100, 1300, []) := rfl
theorem s0_63 : S0[63]? = some (8, 2, [some 64, none]) := rfl
theorem s0_64 : S0[64]? = some (100, 12, []) := rfl
theorem s0_65 : S0[65]? = some (8, 2, [some 66, none]) := rfl
theorem s0_66 : S0[66]? = some (100, 12, []) := rfl
theorem s0_67 : S0[67]? = some (6, 3, [some 68, some 69, none]) := rfl
theorem s0_68 : S0[68]? = some (100, 8, []) := rfl
theorem s0_69 : S0[69]? = some (100, 8, []) := rfl
theorem s0_70 : S0[70]? = some (0, 2, [some 71, none]) := rfl
theorem s0_71 : S0[71]? = some (100, 60, []) := rfl
theorem s0_72 : S0[72]? = some (0, 2, [some 73, none]) := rfl
theorem s0_73 : S0[73]? = some (100, 60, []) := rfl
theorem s0_74 : S0[74]? = some (4, 2, [some 75, some 76]) := rfl
theorem s0_75 : S0[75]? = some (100, 4, []) := rfl
theorem s0_76 : S0[76]? = some (100, 48, []) := rfl
theorem s0_77 : S0[77]? = some (100, 9, []) := rfl
theorem s0_78 : S0[78]? = some (9, 1, [some 79]) := rfl
theorem s0_79 : S0[79]? = some (100, 18, []) := rfl
theorem s0_80 : S0[80]? = some (8, 2, [some 81, none]) := rfl
theorem s0_81 : S0[81]? = some (100, 12, []) := rfl
theorem s0_82 : S0[82]? = some (6, 3, [some 83, some 84, none]) := rfl
theorem s0_83 : S0[83]? = some (100, 8, []) := rfl
theorem s0_84 : S0[84]? = some (100, 8, []) := rfl
theorem s0_85 : S0[85]? = some (11, 30, [some 86, some 87, none, some 88, some 89, some 90, some 91, some 92, some 93, some 94, some 95, some 96, some 97, some 104, some 105, some 106, some 107, some 108, some 109, some 110, some 111, some 112, some 113, none, none, some 114, some 115, none, some 116, some 117]) := rfl
theorem s0_86 : S0[86]? = some (100, 48, []) := rfl
theorem s0_87 : S0[87]? = some (100, 48, []) := rfl
theorem s0_88 : S0[88]? = some (100, 1024, []) := rfl
theorem s0_89 : S0[89]? = some (100, 32, []) := rfl
theorem s0_90 : S0[90]? = some (100, 1024, []) := rfl
theorem s0_91 : S0[91]? = some (101, 1024, []) := rfl
theorem s0_92 : S0[92]? = some (100, 1025, []) := rfl
theorem s0_93 : S0[93]? = some (100, 2500, []) := rfl
theorem s0_94 : S0[94]? = some (100, 2500, []) := rfl
theorem s0_95 : S0[95]? = some (100, 2500, []) := rfl
theorem s0_96 : S0[96]? = some (100, 2500, []) := rfl
theorem s0_97 : S0[97]? = some (103, 6, [some 98, some 99, some 100, some 101, some 102, some 103]) := rfl
theorem s0_98 : S0[98]? = some (100, 2500, []) := rfl
theorem s0_99 : S0[99]? = some (100, 2500, []) := rfl
theorem s0_100 : S0[100]? = some (100, 2500, []) := rfl
theorem s0_101 : S0[101]? = some (100, 2500, []) := rfl
theorem s0_102 : S0[102]? = some (100, 2500, []) := rfl
theorem s0_103 : S0[103]? = some (100, 2500, []) := rfl
theorem s0_104 : S0[104]? = some (100, 2500, []) := rfl
theorem s0_105 : S0[105]? = some (100, 2500, []) := rfl
theorem s0_106 : S0[106]? = some (100, 2500, []) := rfl
theorem s0_107 : S0[107]? = some (100, 2500, []) := rfl
theorem s0_108 : S0[108]? = some (100, 2500, []) := rfl
theorem s0_109 : S0[109]? = some (100, 2500, []) := rfl
theorem s0_110 : S0[110]? = some (100, 2500, []) := rfl
theorem s0_111 : S0[111]? = some (100, 2500, []) := rfl
theorem s0_112 : S0[112]? = some (101, 1024, []) := rfl
theorem s0_113 : S0[113]? = some (100, 60, []) := rfl
theorem s0_114 : S0[114]? = some (100, 9, []) := rfl
theorem s0_115 : S0[115]? = some (100, 120, []) := rfl
theorem s0_116 : S0[116]? = some (100, 4, []) := rfl
theorem s0_117 : S0[117]? = some (103, 4, [some 118, some 119, some 120, some 121]) := rfl
theorem s0_118 : S0[118]? = some (100, 12, []) := rfl
theorem s0_119 : S0[119]? = some (100, 12, []) := rfl
theorem s0_120 : S0[120]? = some (100, 12, []) := rfl
theorem s0_121 : S0[121]? = some (100, 12, []) := rfl
theorem wiX0 : ∀ w ∈ u_ws RX0 TX0 2, w ∈ ax_tb := by
  intro w hw
  obtain ⟨j, hj, rfl⟩ := List.mem_map.mp hw
  have hj : j < 2 := List.mem_range.mp hj
  match j, hj with
  | 0, _ => exact (ax_in1_1 (i := 215) rfl rfl)
  | 1, _ => exact (ax_in1_1 (i := 217) rfl rfl)
  | j + 2, h => exact absurd h (by omega)
theorem clX0 : ax_cl 0 RX0 TX0 2 tyX0 := ⟨by decide, rfl, wiX0, tyX0_ok, nmX0, by decide⟩
theorem wiX1 : ∀ w ∈ u_ws RX1 TX1 10, w ∈ ax_tb := by
  intro w hw
  obtain ⟨j, hj, rfl⟩ := List.mem_map.mp hw
  have hj : j < 10 := List.mem_range.mp hj
  match j, hj with
  | 0, _ => exact (ax_in1_1 (i := 52) rfl rfl)
  | 1, _ => exact (ax_in1_1 (i := 54) rfl rfl)
  | 2, _ => exact (ax_in1_1 (i := 56) rfl rfl)
  | 3, _ => exact (ax_in1_1 (i := 58) rfl rfl)
  | 4, _ => exact (ax_in1_1 (i := 60) rfl rfl)
  | 5, _ => exact (ax_in1_1 (i := 62) rfl rfl)
  | 6, _ => exact (ax_in1_1 (i := 64) rfl rfl)
  | 7, _ => exact (ax_in1_1 (i := 66) rfl rfl)
  | 8, _ => exact (ax_in1_1 (i := 68) rfl rfl)
  | 9, _ => exact (ax_in1_1 (i := 70) rfl rfl)
  | j + 10, h => exact absurd h (by omega)
theorem clX1 : ax_cl 1 RX1 TX1 10 tyX1 := ⟨by decide, rfl, wiX1, tyX1_ok, nmX1, by decide⟩
theorem wiX2 : ∀ w ∈ u_ws RX2 TX2 13, w ∈ ax_tb := by
  intro w hw
  obtain ⟨j, hj, rfl⟩ := List.mem_map.mp hw
  have hj : j < 13 := List.mem_range.mp hj
  match j, hj with
  | 0, _ => exact (ax_in1_1 (i := 147) rfl rfl)
  | 1, _ => exact (ax_in1_1 (i := 149) rfl rfl)
  | 2, _ => exact (ax_in1_1 (i := 151) rfl rfl)
  | 3, _ => exact (ax_in1_1 (i := 153) rfl rfl)
  | 4, _ => exact (ax_in1_1 (i := 155) rfl rfl)
  | 5, _ => exact (ax_in1_1 (i := 157) rfl rfl)
  | 6, _ => exact (ax_in1_1 (i := 159) rfl rfl)
  | 7, _ => exact (ax_in1_1 (i := 161) rfl rfl)
  | 8, _ => exact (ax_in1_1 (i := 163) rfl rfl)
  | 9, _ => exact (ax_in1_1 (i := 165) rfl rfl)
  | 10, _ => exact (ax_in1_1 (i := 167) rfl rfl)
  | 11, _ => exact (ax_in1_1 (i := 169) rfl rfl)
  | 12, _ => exact (ax_in1_1 (i := 171) rfl rfl)
  | j + 13, h => exact absurd h (by omega)
theorem clX2 : ax_cl 2 RX2 TX2 13 tyX2 := ⟨by decide, rfl, wiX2, tyX2_ok, nmX2, by decide⟩
theorem wiX3 : ∀ w ∈ u_ws RX3 TX3 2, w ∈ ax_tb := by
  intro w hw
  obtain ⟨j, hj, rfl⟩ := List.mem_map.mp hw
  have hj : j < 2 := List.mem_range.mp hj
  match j, hj with
  | 0, _ => exact (ax_in1_1 (i := 126) rfl rfl)
  | 1, _ => exact (ax_in1_1 (i := 128) rfl rfl)
  | j + 2, h => exact absurd h (by omega)
theorem clX3 : ax_cl 3 RX3 TX3 2 tyX3 := ⟨by decide, rfl, wiX3, tyX3_ok, nmX3, by decide⟩
theorem wiX4 : ∀ w ∈ u_ws RX4 TX4 2, w ∈ ax_tb := by
  intro w hw
  obtain ⟨j, hj, rfl⟩ := List.mem_map.mp hw
  have hj : j < 2 := List.mem_range.mp hj
  match j, hj with
  | 0, _ => exact (ax_in1_1 (i := 228) rfl rfl)
  | 1, _ => exact (ax_in1_1 (i := 230) rfl rfl)
  | j + 2, h => exact absurd h (by omega)
theorem clX4 : ax_cl 4 RX4 TX4 2 tyX4 := ⟨by decide, rfl, wiX4, tyX4_ok, nmX4, by decide⟩
theorem wiX5 : ∀ w ∈ u_ws RX5 TX5 5, w ∈ ax_tb := by
  intro w hw
  obtain ⟨j, hj, rfl⟩ := List.mem_map.mp hw
  have hj : j < 5 := List.mem_range.mp hj
  match j, hj with
  | 0, _ => exact (ax_in1_1 (i := 85) rfl rfl)
  | 1, _ => exact (ax_in1_1 (i := 87) rfl rfl)
  | 2, _ => exact (ax_in1_1 (i := 89) rfl rfl)
  | 3, _ => exact (ax_in1_1 (i := 91) rfl rfl)
  | 4, _ => exact (ax_in1_1 (i := 93) rfl rfl)
  | j + 5, h => exact absurd h (by omega)
theorem clX5 : ax_cl 5 RX5 TX5 5 tyX5 := ⟨by decide, rfl, wiX5, tyX5_ok, nmX5, by decide⟩
theorem wiX6 : ∀ w ∈ u_ws RX6 TX6 3, w ∈ ax_tb := by
  intro w hw
  obtain ⟨j, hj, rfl⟩ := List.mem_map.mp hw
  have hj : j < 3 := List.mem_range.mp hj
  match j, hj with
  | 0, _ => exact (ax_in1_1 (i := 199) rfl rfl)
  | 1, _ => exact (ax_in1_1 (i := 201) rfl rfl)
  | 2, _ => exact (ax_in1_1 (i := 203) rfl rfl)
  | j + 3, h => exact absurd h (by omega)
theorem clX6 : ax_cl 6 RX6 TX6 3 tyX6 := ⟨by decide, rfl, wiX6, tyX6_ok, nmX6, by decide⟩
theorem wiX7 : ∀ w ∈ u_ws RX7 TX7 2, w ∈ ax_tb := by
  intro w hw
  obtain ⟨j, hj, rfl⟩ := List.mem_map.mp hw
  have hj : j < 2 := List.mem_range.mp hj
  match j, hj with
  | 0, _ => exact (ax_in1_1 (i := 117) rfl rfl)
  | 1, _ => exact (ax_in1_1 (i := 119) rfl rfl)
  | j + 2, h => exact absurd h (by omega)
theorem clX7 : ax_cl 7 RX7 TX7 2 tyX7 := ⟨by decide, rfl, wiX7, tyX7_ok, nmX7, by decide⟩
theorem wiX8 : ∀ w ∈ u_ws RX8 TX8 2, w ∈ ax_tb := by
  intro w hw
  obtain ⟨j, hj, rfl⟩ := List.mem_map.mp hw
  have hj : j < 2 := List.mem_range.mp hj
  match j, hj with
  | 0, _ => exact (ax_in1_1 (i := 184) rfl rfl)
  | 1, _ => exact (ax_in1_1 (i := 186) rfl rfl)
  | j + 2, h => exact absurd h (by omega)
theorem clX8 : ax_cl 8 RX8 TX8 2 tyX8 := ⟨by decide, rfl, wiX8, tyX8_ok, nmX8, by decide⟩
theorem wiX9 : ∀ w ∈ u_ws RX9 TX9 1, w ∈ ax_tb := by
  intro w hw
  obtain ⟨j, hj, rfl⟩ := List.mem_map.mp hw
  have hj : j < 1 := List.mem_range.mp hj
  match j, hj with
  | 0, _ => exact (ax_in1_1 (i := 36) rfl rfl)
  | j + 1, h => exact absurd h (by omega)
theorem clX9 : ax_cl 9 RX9 TX9 1 tyX9 := ⟨by decide, rfl, wiX9, tyX9_ok, nmX9, by decide⟩
theorem wiX10 : ∀ w ∈ u_ws RX10 TX10 14, w ∈ ax_tb := by
  intro w hw
  obtain ⟨j, hj, rfl⟩ := List.mem_map.mp hw
  have hj : j < 14 := List.mem_range.mp hj
  match j, hj with
  | 0, _ => exact (ax_in1_2 (i := 9) rfl rfl)
  | 1, _ => exact (ax_in1_2 (i := 11) rfl rfl)
  | 2, _ => exact (ax_in1_2 (i := 13) rfl rfl)
  | 3, _ => exact (ax_in1_2 (i := 15) rfl rfl)
  | 4, _ => exact (ax_in1_2 (i := 17) rfl rfl)
  | 5, _ => exact (ax_in1_2 (i := 19) rfl rfl)
  | 6, _ => exact (ax_in1_2 (i := 21) rfl rfl)
  | 7, _ => exact (ax_in1_2 (i := 23) rfl rfl)
  | 8, _ => exact (ax_in1_2 (i := 25) rfl rfl)
  | 9, _ => exact (ax_in1_2 (i := 27) rfl rfl)
  | 10, _ => exact (ax_in1_2 (i := 29) rfl rfl)
  | 11, _ => exact (ax_in1_2 (i := 31) rfl rfl)
  | 12, _ => exact (ax_in1_2 (i := 33) rfl rfl)
  | 13, _ => exact (ax_in1_2 (i := 35) rfl rfl)
  | j + 14, h => exact absurd h (by omega)
theorem clX10 : ax_cl 10 RX10 TX10 14 tyX10 := ⟨by decide, rfl, wiX10, tyX10_ok, nmX10, by decide⟩
theorem wiX11 : ∀ w ∈ u_ws RX11 TX11 30, w ∈ ax_tb := by
  intro w hw
  obtain ⟨j, hj, rfl⟩ := List.mem_map.mp hw
  have hj : j < 30 := List.mem_range.mp hj
  match j, hj with
  | 0, _ => exact (ax_in1_4 (i := 137) rfl rfl)
  | 1, _ => exact (ax_in1_4 (i := 139) rfl rfl)
  | 2, _ => exact (ax_in1_4 (i := 141) rfl rfl)
  | 3, _ => exact (ax_in1_4 (i := 143) rfl rfl)
  | 4, _ => exact (ax_in1_4 (i := 145) rfl rfl)
  | 5, _ => exact (ax_in1_4 (i := 147) rfl rfl)
  | 6, _ => exact (ax_in1_4 (i := 149) rfl rfl)
  | 7, _ => exact (ax_in1_4 (i := 151) rfl rfl)
  | 8, _ => exact (ax_in1_4 (i := 153) rfl rfl)
  | 9, _ => exact (ax_in1_4 (i := 155) rfl rfl)
  | 10, _ => exact (ax_in1_4 (i := 157) rfl rfl)
  | 11, _ => exact (ax_in1_4 (i := 159) rfl rfl)
  | 12, _ => exact (ax_in1_4 (i := 161) rfl rfl)
  | 13, _ => exact (ax_in1_4 (i := 163) rfl rfl)
  | 14, _ => exact (ax_in1_4 (i := 165) rfl rfl)
  | 15, _ => exact (ax_in1_4 (i := 167) rfl rfl)
  | 16, _ => exact (ax_in1_4 (i := 169) rfl rfl)
  | 17, _ => exact (ax_in1_4 (i := 171) rfl rfl)
  | 18, _ => exact (ax_in1_4 (i := 173) rfl rfl)
  | 19, _ => exact (ax_in1_4 (i := 175) rfl rfl)
  | 20, _ => exact (ax_in1_4 (i := 177) rfl rfl)
  | 21, _ => exact (ax_in1_4 (i := 179) rfl rfl)
  | 22, _ => exact (ax_in1_4 (i := 181) rfl rfl)
  | 23, _ => exact (ax_in1_4 (i := 183) rfl rfl)
  | 24, _ => exact (ax_in1_4 (i := 185) rfl rfl)
  | 25, _ => exact (ax_in1_4 (i := 187) rfl rfl)
  | 26, _ => exact (ax_in1_4 (i := 189) rfl rfl)
  | 27, _ => exact (ax_in1_4 (i := 191) rfl rfl)
  | 28, _ => exact (ax_in1_4 (i := 193) rfl rfl)
  | 29, _ => exact (ax_in1_4 (i := 195) rfl rfl)
  | j + 30, h => exact absurd h (by omega)
theorem clX11 : ax_cl 11 RX11 TX11 30 tyX11 := ⟨by decide, rfl, wiX11, tyX11_ok, nmX11, by decide⟩
def kX10_init : ax_K := (yX10_init, cX10_init, 1, none)
def kX10_set : ax_K := (yX10_set, cX10_set, 6, some .int)
def kX10_of : ax_K := (yX10_of, cX10_of, 4, some .int)
def kX10_feed : ax_K := (yX10_feed, cX10_feed, 2, some .int)
def kX10_table : ax_K := (yX10_table, cX10_table, 3, some .int)
def kX10_value : ax_K := (yX10_value, cX10_value, 4, some .int)
def kX10_kept : ax_K := (yX10_kept, cX10_kept, 3, some .int)
def kX10_swap : ax_K := (yX10_swap, cX10_swap, 4, some .int)
def kX10_row : ax_K := (yX10_row, cX10_row, 4, some .int)
def kX10_pinched : ax_K := (yX10_pinched, cX10_pinched, 2, some .long)
def kX10_behind : ax_K := (yX10_behind, cX10_behind, 5, some .int)
def kX10_period : ax_K := (yX10_period, cX10_period, 3, some .int)
def kX10_fibre : ax_K := (yX10_fibre, cX10_fibre, 3, some .int)
def kX10_base : ax_K := (yX10_base, cX10_base, 2, some .int)
def kX10_rank : ax_K := (yX10_rank, cX10_rank, 2, some .int)
def kX10_cycles : ax_K := (yX10_cycles, cX10_cycles, 4, some .int)
def kX10_degree : ax_K := (yX10_degree, cX10_degree, 4, some .int)
def kX10_tell : ax_K := (yX10_tell, cX10_tell, 3, some .int)
def kX10_forget : ax_K := (yX10_forget, cX10_forget, 3, some .int)
def kX10_told : ax_K := (yX10_told, cX10_told, 2, some .int)
def kX10_moved : ax_K := (yX10_moved, cX10_moved, 2, some .int)
def kX10_move : ax_K := (yX10_move, cX10_move, 1, some .int)
def kX10_grows : ax_K := (yX10_grows, cX10_grows, 2, some .int)
def kX10_were : ax_K := (yX10_were, cX10_were, 7, some .long)
def kX10_odds : ax_K := (yX10_odds, cX10_odds, 9, some .long)
def kX10_plan : ax_K := (yX10_plan, cX10_plan, 3, some .int)
def kX10_ends : ax_K := (yX10_ends, cX10_ends, 3, some .int)
def kX10_write : ax_K := (yX10_write, cX10_write, 2, some .int)
def kX10_paper : ax_K := (yX10_paper, cX10_paper, 2, some .int)
def kX10_judge : ax_K := (yX10_judge, cX10_judge, 9, some .int)
def kX10_list : ax_K := (yX10_list, cX10_list, 3, some .int)
def kX10_put : ax_K := (yX10_put, cX10_put, 4, some .int)
def kX10_get : ax_K := (yX10_get, cX10_get, 3, some .long)
def kX10_image : ax_K := (yX10_image, cX10_image, 1, some .int)
def kX10_undo : ax_K := (yX10_undo, cX10_undo, 1, some .int)
def kX10_count : ax_K := (yX10_count, cX10_count, 2, some .int)
def kX10_isNumber : ax_K := (yX10_isNumber, cX10_isNumber, 1, some .boolean)
def kX10_isCoordinate : ax_K := (yX10_isCoordinate, cX10_isCoordinate, 1, some .boolean)
def kX10_isSpot : ax_K := (yX10_isSpot, cX10_isSpot, 2, some .boolean)
def kX10_isAxis : ax_K := (yX10_isAxis, cX10_isAxis, 1, some .boolean)
def kX10_isTable : ax_K := (yX10_isTable, cX10_isTable, 1, some .boolean)
def kX10_isPower : ax_K := (yX10_isPower, cX10_isPower, 3, some .boolean)
def kX10_modulo : ax_K := (yX10_modulo, cX10_modulo, 1, some .int)
def kX10_quotient : ax_K := (yX10_quotient, cX10_quotient, 4, some .int)
def kX10_quadraticAt : ax_K := (yX10_quadraticAt, cX10_quadraticAt, 4, some .int)
def kX10_powerAt : ax_K := (yX10_powerAt, cX10_powerAt, 2, some .int)
def kX10_drawn : ax_K := (yX10_drawn, cX10_drawn, 1, some .int)
def kX10_commonDivisor : ax_K := (yX10_commonDivisor, cX10_commonDivisor, 6, some .int)
def kX11_init : ax_K := (yX11_init, cX11_init, 1, none)
def kX11_in : ax_K := (yX11_in, cX11_in, 6, some .boolean)
def kX11_mod : ax_K := (yX11_mod, cX11_mod, 2, some .int)
def kX11_inverse : ax_K := (yX11_inverse, cX11_inverse, 3, some .int)
def kX11_by : ax_K := (yX11_by, cX11_by, 2, some .int)
def kX11_isCoordinate : ax_K := (yX11_isCoordinate, cX11_isCoordinate, 1, some .boolean)
def kX11_isSpot : ax_K := (yX11_isSpot, cX11_isSpot, 2, some .boolean)
def kX11_placeOf : ax_K := (yX11_placeOf, cX11_placeOf, 3, some .int)
def kX11_isPlace : ax_K := (yX11_isPlace, cX11_isPlace, 3, some .boolean)
def kX11_set : ax_K := (yX11_set, cX11_set, 7, some .int)
def kX11_of : ax_K := (yX11_of, cX11_of, 4, some .int)
def kX11_power : ax_K := (yX11_power, cX11_power, 2, some .int)
def kX11_valueAt : ax_K := (yX11_valueAt, cX11_valueAt, 7, some .int)
def kX11_value : ax_K := (yX11_value, cX11_value, 4, some .int)
def kX11_keptAt : ax_K := (yX11_keptAt, cX11_keptAt, 3, some .int)
def kX11_kept : ax_K := (yX11_kept, cX11_kept, 3, some .int)
def kX11_rowAt : ax_K := (yX11_rowAt, cX11_rowAt, 7, some .int)
def kX11_crossed : ax_K := (yX11_crossed, cX11_crossed, 6, some .int)
def kX11_row : ax_K := (yX11_row, cX11_row, 4, some .int)
def kX11_other : ax_K := (yX11_other, cX11_other, 8, some .int)
def kX11_swap : ax_K := (yX11_swap, cX11_swap, 4, some .int)
def kX11_pinched : ax_K := (yX11_pinched, cX11_pinched, 6, some .long)
def kX11_swapped : ax_K := (yX11_swapped, cX11_swapped, 6, some .int)
def kX11_step : ax_K := (yX11_step, cX11_step, 4, some .int)
def kX11_behind : ax_K := (yX11_behind, cX11_behind, 6, some .int)
def kX11_period : ax_K := (yX11_period, cX11_period, 5, some .int)
def kX11_findsKept : ax_K := (yX11_findsKept, cX11_findsKept, 2, none)
def kX11_nth : ax_K := (yX11_nth, cX11_nth, 5, some .int)
def kX11_fibre : ax_K := (yX11_fibre, cX11_fibre, 3, some .int)
def kX11_base : ax_K := (yX11_base, cX11_base, 2, some .int)
def kX11_rank : ax_K := (yX11_rank, cX11_rank, 5, some .int)
def kX11_lengthOf : ax_K := (yX11_lengthOf, cX11_lengthOf, 4, some .int)
def kX11_findsCycles : ax_K := (yX11_findsCycles, cX11_findsCycles, 6, none)
def kX11_cycles : ax_K := (yX11_cycles, cX11_cycles, 9, some .int)
def kX11_becomes : ax_K := (yX11_becomes, cX11_becomes, 3, none)
def kX11_constant : ax_K := (yX11_constant, cX11_constant, 2, none)
def kX11_trims : ax_K := (yX11_trims, cX11_trims, 2, none)
def kX11_sums : ax_K := (yX11_sums, cX11_sums, 7, none)
def kX11_times : ax_K := (yX11_times, cX11_times, 6, none)
def kX11_divides : ax_K := (yX11_divides, cX11_divides, 8, none)
def kX11_lowers : ax_K := (yX11_lowers, cX11_lowers, 3, none)
def kX11_rowsAt : ax_K := (yX11_rowsAt, cX11_rowsAt, 9, none)
def kX11_crosses : ax_K := (yX11_crosses, cX11_crosses, 4, none)
def kX11_isSwapped : ax_K := (yX11_isSwapped, cX11_isSwapped, 6, some .boolean)
def kX11_degree : ax_K := (yX11_degree, cX11_degree, 6, some .int)
def kX11_placeIn : ax_K := (yX11_placeIn, cX11_placeIn, 3, some .int)
def kX11_isTold : ax_K := (yX11_isTold, cX11_isTold, 3, some .boolean)
def kX11_tell : ax_K := (yX11_tell, cX11_tell, 6, some .int)
def kX11_forget : ax_K := (yX11_forget, cX11_forget, 5, some .int)
def kX11_told : ax_K := (yX11_told, cX11_told, 2, some .int)
def kX11_moves : ax_K := (yX11_moves, cX11_moves, 3, none)
def kX11_moved : ax_K := (yX11_moved, cX11_moved, 4, some .int)
def kX11_move : ax_K := (yX11_move, cX11_move, 2, some .int)
def kX11_grows : ax_K := (yX11_grows, cX11_grows, 8, some .int)
def kX11_were : ax_K := (yX11_were, cX11_were, 12, some .long)
def kX11_common : ax_K := (yX11_common, cX11_common, 2, some .int)
def kX11_odds : ax_K := (yX11_odds, cX11_odds, 9, some .long)
def kX11_plan : ax_K := (yX11_plan, cX11_plan, 4, some .int)
def kX11_ends : ax_K := (yX11_ends, cX11_ends, 9, some .int)
def kX11_feed : ax_K := (yX11_feed, cX11_feed, 2, some .int)
def kX11_here : ax_K := (yX11_here, cX11_here, 1, some .int)
def kX11_often : ax_K := (yX11_often, cX11_often, 3, some .int)
def kX11_isTerm : ax_K := (yX11_isTerm, cX11_isTerm, 4, some .boolean)
def kX11_table : ax_K := (yX11_table, cX11_table, 5, some .int)
def kX11_writes : ax_K := (yX11_writes, cX11_writes, 4, none)
def kX11_write : ax_K := (yX11_write, cX11_write, 4, some .int)
def kX11_paper : ax_K := (yX11_paper, cX11_paper, 2, some .int)
def kX11_isList : ax_K := (yX11_isList, cX11_isList, 1, some .boolean)
def kX11_judge : ax_K := (yX11_judge, cX11_judge, 7, some .int)
def kX11_list : ax_K := (yX11_list, cX11_list, 4, some .int)
def kX11_put : ax_K := (yX11_put, cX11_put, 4, some .int)
def kX11_get : ax_K := (yX11_get, cX11_get, 3, some .long)
def kX11_image : ax_K := (yX11_image, cX11_image, 2, some .int)
def kX11_undo : ax_K := (yX11_undo, cX11_undo, 2, some .int)
def kX11_count : ax_K := (yX11_count, cX11_count, 4, some .int)
def kX0_init : ax_K := (yX0_init, cX0_init, 1, none)
def kX0_append : ax_K := (yX0_append, cX0_append, 2, none)
def kX0_byteAt : ax_K := (yX0_byteAt, cX0_byteAt, 2, some .int)
def kX0_alikeFrom : ax_K := (yX0_alikeFrom, cX0_alikeFrom, 3, some .int)
def kX0_readTerms : ax_K := (yX0_readTerms, cX0_readTerms, 8, some .int)
def kX0_addTo : ax_K := (yX0_addTo, cX0_addTo, 3, none)
def kX0_writeTerms : ax_K := (yX0_writeTerms, cX0_writeTerms, 6, none)
def kX0_writeTerm : ax_K := (yX0_writeTerm, cX0_writeTerm, 5, none)
def kX1_init : ax_K := (yX1_init, cX1_init, 1, none)
def kX1_change : ax_K := (yX1_change, cX1_change, 5, none)
def kX1_changeAll : ax_K := (yX1_changeAll, cX1_changeAll, 4, none)
def kX1_changeBack : ax_K := (yX1_changeBack, cX1_changeBack, 2, none)
def kX1_learnRows : ax_K := (yX1_learnRows, cX1_learnRows, 10, none)
def kX1_knownRow : ax_K := (yX1_knownRow, cX1_knownRow, 5, some .int)
def kX1_rowOf : ax_K := (yX1_rowOf, cX1_rowOf, 4, some .int)
def kX1_pinchedLines : ax_K := (yX1_pinchedLines, cX1_pinchedLines, 6, some .long)
def kX1_swapOf : ax_K := (yX1_swapOf, cX1_swapOf, 4, some .int)
def kX1_knownSwap : ax_K := (yX1_knownSwap, cX1_knownSwap, 8, some .int)
def kX1_stepFrom : ax_K := (yX1_stepFrom, cX1_stepFrom, 4, some .int)
def kX1_stepBackFrom : ax_K := (yX1_stepBackFrom, cX1_stepBackFrom, 4, some .int)
def kX1_walk : ax_K := (yX1_walk, cX1_walk, 5, some .int)
def kX1_walkBack : ax_K := (yX1_walkBack, cX1_walkBack, 5, some .int)
def kX1_periodOf : ax_K := (yX1_periodOf, cX1_periodOf, 4, some .int)
def kX1_learnKept : ax_K := (yX1_learnKept, cX1_learnKept, 10, none)
def kX1_keeps : ax_K := (yX1_keeps, cX1_keeps, 3, some .boolean)
def kX1_spotWhereKept : ax_K := (yX1_spotWhereKept, cX1_spotWhereKept, 5, some .int)
def kX1_ranked : ax_K := (yX1_ranked, cX1_ranked, 7, some .int)
def kX1_reachOf : ax_K := (yX1_reachOf, cX1_reachOf, 7, some .int)
def kX1_reach : ax_K := (yX1_reach, cX1_reach, 3, some .int)
def kX2_init : ax_K := (yX2_init, cX2_init, 1, none)
def kX2_behindSteps : ax_K := (yX2_behindSteps, cX2_behindSteps, 6, some .int)
def kX2_swaps : ax_K := (yX2_swaps, cX2_swaps, 6, some .boolean)
def kX2_readSquares : ax_K := (yX2_readSquares, cX2_readSquares, 3, none)
def kX2_readRow : ax_K := (yX2_readRow, cX2_readRow, 7, none)
def kX2_readCross : ax_K := (yX2_readCross, cX2_readCross, 4, none)
def kX2_commonFactor : ax_K := (yX2_commonFactor, cX2_commonFactor, 5, some (.object "KeptCurves$Poly"))
def kX3_init : ax_K := (yX3_init, cX3_init, 1, none)
def kX3_ofDegree : ax_K := (yX3_ofDegree, cX3_ofDegree, 1, some .int)
def kX4_init : ax_K := (yX4_init, cX4_init, 1, none)
def kX4_isList : ax_K := (yX4_isList, cX4_isList, 2, some .boolean)
def kX4_sizeOf : ax_K := (yX4_sizeOf, cX4_sizeOf, 2, some .int)
def kX4_hasPlace : ax_K := (yX4_hasPlace, cX4_hasPlace, 3, some .boolean)
def kX4_numberAt : ax_K := (yX4_numberAt, cX4_numberAt, 3, some .int)
def kX4_change : ax_K := (yX4_change, cX4_change, 4, none)
def kX4_renew : ax_K := (yX4_renew, cX4_renew, 4, none)
def kX5_init : ax_K := (yX5_init, cX5_init, 1, none)
def kX5_learn : ax_K := (yX5_learn, cX5_learn, 5, none)
def kX5_isUnmarked : ax_K := (yX5_isUnmarked, cX5_isUnmarked, 2, some .boolean)
def kX5_goRound : ax_K := (yX5_goRound, cX5_goRound, 5, none)
def kX5_countThrough : ax_K := (yX5_countThrough, cX5_countThrough, 5, none)
def kX5_tallyOne : ax_K := (yX5_tallyOne, cX5_tallyOne, 2, none)
def kX5_total : ax_K := (yX5_total, cX5_total, 4, some .int)
def kX5_ofLength : ax_K := (yX5_ofLength, cX5_ofLength, 6, some .int)
def kX6_init : ax_K := (yX6_init, cX6_init, 1, none)
def kX6_isFull : ax_K := (yX6_isFull, cX6_isFull, 1, some .boolean)
def kX6_takes : ax_K := (yX6_takes, cX6_takes, 3, some .boolean)
def kX6_add : ax_K := (yX6_add, cX6_add, 3, none)
def kX6_copyFrom : ax_K := (yX6_copyFrom, cX6_copyFrom, 2, none)
def kX6_endOf : ax_K := (yX6_endOf, cX6_endOf, 5, some .int)
def kX6_swappedIfItGoes : ax_K := (yX6_swappedIfItGoes, cX6_swappedIfItGoes, 7, some .int)
def kX6_steppedAsFarAsItGoes : ax_K := (yX6_steppedAsFarAsItGoes, cX6_steppedAsFarAsItGoes, 8, some .int)
def kX7_init : ax_K := (yX7_init, cX7_init, 1, none)
def kX7_isZero : ax_K := (yX7_isZero, cX7_isZero, 1, some .boolean)
def kX7_clear : ax_K := (yX7_clear, cX7_clear, 2, none)
def kX7_becomeNumber : ax_K := (yX7_becomeNumber, cX7_becomeNumber, 2, none)
def kX7_becomeUnknown : ax_K := (yX7_becomeUnknown, cX7_becomeUnknown, 1, none)
def kX7_copyFrom : ax_K := (yX7_copyFrom, cX7_copyFrom, 2, none)
def kX7_trim : ax_K := (yX7_trim, cX7_trim, 2, none)
def kX7_addTimes : ax_K := (yX7_addTimes, cX7_addTimes, 4, none)
def kX7_addProduct : ax_K := (yX7_addProduct, cX7_addProduct, 7, none)
def kX7_divide : ax_K := (yX7_divide, cX7_divide, 7, none)
def kX8_init : ax_K := (yX8_init, cX8_init, 1, none)
def kX8_isFull : ax_K := (yX8_isFull, cX8_isFull, 1, some .boolean)
def kX8_holds : ax_K := (yX8_holds, cX8_holds, 3, some .boolean)
def kX8_spotAt : ax_K := (yX8_spotAt, cX8_spotAt, 2, some .int)
def kX8_add : ax_K := (yX8_add, cX8_add, 3, none)
def kX8_remove : ax_K := (yX8_remove, cX8_remove, 4, none)
def kX8_copyFrom : ax_K := (yX8_copyFrom, cX8_copyFrom, 2, none)
def kX8_becomeSteps : ax_K := (yX8_becomeSteps, cX8_becomeSteps, 5, none)
def kX9_init : ax_K := (yX9_init, cX9_init, 1, none)
def kX9_numberAt : ax_K := (yX9_numberAt, cX9_numberAt, 5, some .int)
def kX9_change : ax_K := (yX9_change, cX9_change, 6, none)
def kX9_copyFrom : ax_K := (yX9_copyFrom, cX9_copyFrom, 2, none)
def kX9_notZero : ax_K := (yX9_notZero, cX9_notZero, 6, some .int)
def kX9_numberAlong : ax_K := (yX9_numberAlong, cX9_numberAlong, 6, some .int)
def kX9_sumAt : ax_K := (yX9_sumAt, cX9_sumAt, 8, some .int)
def kX9_valueAt : ax_K := (yX9_valueAt, cX9_valueAt, 4, some .int)
def kX9_quotientAt : ax_K := (yX9_quotientAt, cX9_quotientAt, 3, some .int)
def kX9_numbersKeeping : ax_K := (yX9_numbersKeeping, cX9_numbersKeeping, 16, some .long)
def kL_law : ax_K := (yL_law, cL_law, 4, some .boolean)
def kJ9_floorMod_7cf53 : ax_K := (yJ9_floorMod_7cf53, cJ9_floorMod_7cf53, 3, some .int)
def kJ9_max_7cf53 : ax_K := (yJ9_max_7cf53, cJ9_max_7cf53, 2, some .int)
def kJ9_min_7cf53 : ax_K := (yJ9_min_7cf53, cJ9_min_7cf53, 2, some .int)
theorem jX10_init : ax_J kX10_init 0 := ⟨(ax_in1_1 (i := 19) rfl rfl), (ax_in1_1 (i := 1) rfl rfl), ⟨by decide +kernel, by decide +kernel, by decide +kernel⟩, by decide +kernel, by decide⟩
theorem jIX10_init : Cond.instanceMethod kX10_init.1 ∈ ax_tb := (ax_in1_1 (i := 18) rfl rfl)
theorem jX10_set : ax_J kX10_set 4 := ⟨(ax_in1_2 (i := 41) rfl rfl), (ax_in1_1 (i := 1) rfl rfl), ⟨by decide +kernel, by decide +kernel, by decide +kernel⟩, by decide +kernel, by decide⟩
theorem jIX10_set : Cond.instanceMethod kX10_set.1 ∈ ax_tb := (ax_in1_2 (i := 39) rfl rfl)
theorem jVX10_set : Cond.selects kX10_set.1.cls kX10_set.1 kX10_set.1 ∈ ax_tb := (ax_in1_2 (i := 40) rfl rfl)
theorem jX10_of : ax_J kX10_of 3 := ⟨(ax_in1_2 (i := 66) rfl rfl), (ax_in1_1 (i := 1) rfl rfl), ⟨by decide +kernel, by decide +kernel, by decide +kernel⟩, by decide +kernel, by decide⟩
theorem jIX10_of : Cond.instanceMethod kX10_of.1 ∈ ax_tb := (ax_in1_2 (i := 64) rfl rfl)
theorem jVX10_of : Cond.selects kX10_of.1.cls kX10_of.1 kX10_of.1 ∈ ax_tb := (ax_in1_2 (i := 65) rfl rfl)
theorem jX10_feed : ax_J kX10_feed 1 := ⟨(ax_in1_2 (i := 70) rfl rfl), (ax_in1_1 (i := 1) rfl rfl), ⟨by decide +kernel, by decide +kernel, by decide +kernel⟩, by decide +kernel, by decide⟩
theorem jIX10_feed : Cond.instanceMethod kX10_feed.1 ∈ ax_tb := (ax_in1_2 (i := 68) rfl rfl)
theorem jVX10_feed : Cond.selects kX10_feed.1.cls kX10_feed.1 kX10_feed.1 ∈ ax_tb := (ax_in1_2 (i := 69) rfl rfl)
theorem jX10_table : ax_J kX10_table 1 := ⟨(ax_in1_2 (i := 78) rfl rfl), (ax_in1_1 (i := 1) rfl rfl), ⟨by decide +kernel, by decide +kernel, by decide +kernel⟩, by decide +kernel, by decide⟩
theorem jIX10_table : Cond.instanceMethod kX10_table.1 ∈ ax_tb := (ax_in1_2 (i := 76) rfl rfl)
theorem jVX10_table : Cond.selects kX10_table.1.cls kX10_table.1 kX10_table.1 ∈ ax_tb := (ax_in1_2 (i := 77) rfl rfl)
theorem jX10_value : ax_J kX10_value 3 := ⟨(ax_in1_2 (i := 107) rfl rfl), (ax_in1_1 (i := 1) rfl rfl), ⟨by decide +kernel, by decide +kernel, by decide +kernel⟩, by decide +kernel, by decide⟩
theorem jIX10_value : Cond.instanceMethod kX10_value.1 ∈ ax_tb := (ax_in1_2 (i := 105) rfl rfl)
theorem jVX10_value : Cond.selects kX10_value.1.cls kX10_value.1 kX10_value.1 ∈ ax_tb := (ax_in1_2 (i := 106) rfl rfl)
theorem jX10_kept : ax_J kX10_kept 2 := ⟨(ax_in1_2 (i := 132) rfl rfl), (ax_in1_1 (i := 1) rfl rfl), ⟨by decide +kernel, by decide +kernel, by decide +kernel⟩, by decide +kernel, by decide⟩
theorem jIX10_kept : Cond.instanceMethod kX10_kept.1 ∈ ax_tb := (ax_in1_2 (i := 130) rfl rfl)
theorem jVX10_kept : Cond.selects kX10_kept.1.cls kX10_kept.1 kX10_kept.1 ∈ ax_tb := (ax_in1_2 (i := 131) rfl rfl)
theorem jX10_swap : ax_J kX10_swap 3 := ⟨(ax_in1_2 (i := 146) rfl rfl), (ax_in1_1 (i := 1) rfl rfl), ⟨by decide +kernel, by decide +kernel, by decide +kernel⟩, by decide +kernel, by decide⟩
theorem jIX10_swap : Cond.instanceMethod kX10_swap.1 ∈ ax_tb := (ax_in1_2 (i := 144) rfl rfl)
theorem jVX10_swap : Cond.selects kX10_swap.1.cls kX10_swap.1 kX10_swap.1 ∈ ax_tb := (ax_in1_2 (i := 145) rfl rfl)
theorem jX10_row : ax_J kX10_row 3 := ⟨(ax_in1_2 (i := 172) rfl rfl), (ax_in1_1 (i := 1) rfl rfl), ⟨by decide +kernel, by decide +kernel, by decide +kernel⟩, by decide +kernel, by decide⟩
theorem jIX10_row : Cond.instanceMethod kX10_row.1 ∈ ax_tb := (ax_in1_2 (i := 170) rfl rfl)
theorem jVX10_row : Cond.selects kX10_row.1.cls kX10_row.1 kX10_row.1 ∈ ax_tb := (ax_in1_2 (i := 171) rfl rfl)
theorem jX10_pinched : ax_J kX10_pinched 1 := ⟨(ax_in1_2 (i := 180) rfl rfl), (ax_in1_1 (i := 1) rfl rfl), ⟨by decide +kernel, by decide +kernel, by decide +kernel⟩, by decide +kernel, by decide⟩
theorem jIX10_pinched : Cond.instanceMethod kX10_pinched.1 ∈ ax_tb := (ax_in1_2 (i := 178) rfl rfl)
theorem jVX10_pinched : Cond.selects kX10_pinched.1.cls kX10_pinched.1 kX10_pinched.1 ∈ ax_tb := (ax_in1_2 (i := 179) rfl rfl)
theorem jX10_behind : ax_J kX10_behind 3 := ⟨(ax_in1_2 (i := 189) rfl rfl), (ax_in1_1 (i := 1) rfl rfl), ⟨by decide +kernel, by decide +kernel, by decide +kernel⟩, by decide +kernel, by decide⟩
theorem jIX10_behind : Cond.instanceMethod kX10_behind.1 ∈ ax_tb := (ax_in1_2 (i := 187) rfl rfl)
theorem jVX10_behind : Cond.selects kX10_behind.1.cls kX10_behind.1 kX10_behind.1 ∈ ax_tb := (ax_in1_2 (i := 188) rfl rfl)
theorem jX10_period : ax_J kX10_period 2 := ⟨(ax_in1_2 (i := 209) rfl rfl), (ax_in1_1 (i := 1) rfl rfl), ⟨by decide +kernel, by decide +kernel, by decide +kernel⟩, by decide +kernel, by decide⟩
theorem jIX10_period : Cond.instanceMethod kX10_period.1 ∈ ax_tb := (ax_in1_2 (i := 207) rfl rfl)
theorem jVX10_period : Cond.selects kX10_period.1.cls kX10_period.1 kX10_period.1 ∈ ax_tb := (ax_in1_2 (i := 208) rfl rfl)
theorem jX10_fibre : ax_J kX10_fibre 2 := ⟨(ax_in1_2 (i := 217) rfl rfl), (ax_in1_1 (i := 1) rfl rfl), ⟨by decide +kernel, by decide +kernel, by decide +kernel⟩, by decide +kernel, by decide⟩
theorem jIX10_fibre : Cond.instanceMethod kX10_fibre.1 ∈ ax_tb := (ax_in1_2 (i := 215) rfl rfl)
theorem jVX10_fibre : Cond.selects kX10_fibre.1.cls kX10_fibre.1 kX10_fibre.1 ∈ ax_tb := (ax_in1_2 (i := 216) rfl rfl)
theorem jX10_base : ax_J kX10_base 1 := ⟨(ax_in1_2 (i := 230) rfl rfl), (ax_in1_1 (i := 1) rfl rfl), ⟨by decide +kernel, by decide +kernel, by decide +kernel⟩, by decide +kernel, by decide⟩
theorem jIX10_base : Cond.instanceMethod kX10_base.1 ∈ ax_tb := (ax_in1_2 (i := 228) rfl rfl)
theorem jVX10_base : Cond.selects kX10_base.1.cls kX10_base.1 kX10_base.1 ∈ ax_tb := (ax_in1_2 (i := 229) rfl rfl)
theorem jX10_rank : ax_J kX10_rank 1 := ⟨(ax_in1_2 (i := 234) rfl rfl), (ax_in1_1 (i := 1) rfl rfl), ⟨by decide +kernel, by decide +kernel, by decide +kernel⟩, by decide +kernel, by decide⟩
theorem jIX10_rank : Cond.instanceMethod kX10_rank.1 ∈ ax_tb := (ax_in1_2 (i := 232) rfl rfl)
theorem jVX10_rank : Cond.selects kX10_rank.1.cls kX10_rank.1 kX10_rank.1 ∈ ax_tb := (ax_in1_2 (i := 233) rfl rfl)
theorem jX10_cycles : ax_J kX10_cycles 2 := ⟨(ax_in1_3 (i := 2) rfl rfl), (ax_in1_1 (i := 1) rfl rfl), ⟨by decide +kernel, by decide +kernel, by decide +kernel⟩, by decide +kernel, by decide⟩
theorem jIX10_cycles : Cond.instanceMethod kX10_cycles.1 ∈ ax_tb := (ax_in1_3 (i := 0) rfl rfl)
theorem jVX10_cycles : Cond.selects kX10_cycles.1.cls kX10_cycles.1 kX10_cycles.1 ∈ ax_tb := (ax_in1_3 (i := 1) rfl rfl)
theorem jX10_degree : ax_J kX10_degree 3 := ⟨(ax_in1_3 (i := 39) rfl rfl), (ax_in1_1 (i := 1) rfl rfl), ⟨by decide +kernel, by decide +kernel, by decide +kernel⟩, by decide +kernel, by decide⟩
theorem jIX10_degree : Cond.instanceMethod kX10_degree.1 ∈ ax_tb := (ax_in1_3 (i := 37) rfl rfl)
theorem jVX10_degree : Cond.selects kX10_degree.1.cls kX10_degree.1 kX10_degree.1 ∈ ax_tb := (ax_in1_3 (i := 38) rfl rfl)
theorem jX10_tell : ax_J kX10_tell 2 := ⟨(ax_in1_3 (i := 122) rfl rfl), (ax_in1_1 (i := 1) rfl rfl), ⟨by decide +kernel, by decide +kernel, by decide +kernel⟩, by decide +kernel, by decide⟩
theorem jIX10_tell : Cond.instanceMethod kX10_tell.1 ∈ ax_tb := (ax_in1_3 (i := 120) rfl rfl)
theorem jVX10_tell : Cond.selects kX10_tell.1.cls kX10_tell.1 kX10_tell.1 ∈ ax_tb := (ax_in1_3 (i := 121) rfl rfl)
theorem jX10_forget : ax_J kX10_forget 2 := ⟨(ax_in1_3 (i := 140) rfl rfl), (ax_in1_1 (i := 1) rfl rfl), ⟨by decide +kernel, by decide +kernel, by decide +kernel⟩, by decide +kernel, by decide⟩
theorem jIX10_forget : Cond.instanceMethod kX10_forget.1 ∈ ax_tb := (ax_in1_3 (i := 138) rfl rfl)
theorem jVX10_forget : Cond.selects kX10_forget.1.cls kX10_forget.1 kX10_forget.1 ∈ ax_tb := (ax_in1_3 (i := 139) rfl rfl)
theorem jX10_told : ax_J kX10_told 1 := ⟨(ax_in1_3 (i := 148) rfl rfl), (ax_in1_1 (i := 1) rfl rfl), ⟨by decide +kernel, by decide +kernel, by decide +kernel⟩, by decide +kernel, by decide⟩
theorem jIX10_told : Cond.instanceMethod kX10_told.1 ∈ ax_tb := (ax_in1_3 (i := 146) rfl rfl)
theorem jVX10_told : Cond.selects kX10_told.1.cls kX10_told.1 kX10_told.1 ∈ ax_tb := (ax_in1_3 (i := 147) rfl rfl)
theorem jX10_moved : ax_J kX10_moved 1 := ⟨(ax_in1_3 (i := 156) rfl rfl), (ax_in1_1 (i := 1) rfl rfl), ⟨by decide +kernel, by decide +kernel, by decide +kernel⟩, by decide +kernel, by decide⟩
theorem jIX10_moved : Cond.instanceMethod kX10_moved.1 ∈ ax_tb := (ax_in1_3 (i := 154) rfl rfl)
theorem jVX10_moved : Cond.selects kX10_moved.1.cls kX10_moved.1 kX10_moved.1 ∈ ax_tb := (ax_in1_3 (i := 155) rfl rfl)
theorem jX10_move : ax_J kX10_move 0 := ⟨(ax_in1_3 (i := 167) rfl rfl), (ax_in1_1 (i := 1) rfl rfl), ⟨by decide +kernel, by decide +kernel, by decide +kernel⟩, by decide +kernel, by decide⟩
theorem jIX10_move : Cond.instanceMethod kX10_move.1 ∈ ax_tb := (ax_in1_3 (i := 165) rfl rfl)
theorem jVX10_move : Cond.selects kX10_move.1.cls kX10_move.1 kX10_move.1 ∈ ax_tb := (ax_in1_3 (i := 166) rfl rfl)
theorem jX10_grows : ax_J kX10_grows 1 := ⟨(ax_in1_3 (i := 176) rfl rfl), (ax_in1_1 (i := 1) rfl rfl), ⟨by decide +kernel, by decide +kernel, by decide +kernel⟩, by decide +kernel, by decide⟩
theorem jIX10_grows : Cond.instanceMethod kX10_grows.1 ∈ ax_tb := (ax_in1_3 (i := 174) rfl rfl)
theorem jVX10_grows : Cond.selects kX10_grows.1.cls kX10_grows.1 kX10_grows.1 ∈ ax_tb := (ax_in1_3 (i := 175) rfl rfl)
theorem jX10_were : ax_J kX10_were 6 := ⟨(ax_in1_3 (i := 189) rfl rfl), (ax_in1_1 (i := 1) rfl rfl), ⟨by decide +kernel, by decide +kernel, by decide +kernel⟩, by decide +kernel, by decide⟩
theorem jIX10_were : Cond.instanceMethod kX10_were.1 ∈ ax_tb := (ax_in1_3 (i := 187) rfl rfl)
theorem jVX10_were : Cond.selects kX10_were.1.cls kX10_were.1 kX10_were.1 ∈ ax_tb := (ax_in1_3 (i := 188) rfl rfl)
theorem jX10_odds : ax_J kX10_odds 4 := ⟨(ax_in1_3 (i := 202) rfl rfl), (ax_in1_1 (i := 1) rfl rfl), ⟨by decide +kernel, by decide +kernel, by decide +kernel⟩, by decide +kernel, by decide⟩
theorem jIX10_odds : Cond.instanceMethod kX10_odds.1 ∈ ax_tb := (ax_in1_3 (i := 200) rfl rfl)
theorem jVX10_odds : Cond.selects kX10_odds.1.cls kX10_odds.1 kX10_odds.1 ∈ ax_tb := (ax_in1_3 (i := 201) rfl rfl)
theorem jX10_plan : ax_J kX10_plan 2 := ⟨(ax_in1_3 (i := 213) rfl rfl), (ax_in1_1 (i := 1) rfl rfl), ⟨by decide +kernel, by decide +kernel, by decide +kernel⟩, by decide +kernel, by decide⟩
theorem jIX10_plan : Cond.instanceMethod kX10_plan.1 ∈ ax_tb := (ax_in1_3 (i := 211) rfl rfl)
theorem jVX10_plan : Cond.selects kX10_plan.1.cls kX10_plan.1 kX10_plan.1 ∈ ax_tb := (ax_in1_3 (i := 212) rfl rfl)
theorem jX10_ends : ax_J kX10_ends 2 := ⟨(ax_in1_3 (i := 229) rfl rfl), (ax_in1_1 (i := 1) rfl rfl), ⟨by decide +kernel, by decide +kernel, by decide +kernel⟩, by decide +kernel, by decide⟩
theorem jIX10_ends : Cond.instanceMethod kX10_ends.1 ∈ ax_tb := (ax_in1_3 (i := 227) rfl rfl)
theorem jVX10_ends : Cond.selects kX10_ends.1.cls kX10_ends.1 kX10_ends.1 ∈ ax_tb := (ax_in1_3 (i := 228) rfl rfl)
theorem jX10_write : ax_J kX10_write 1 := ⟨(ax_in1_4 (i := 8) rfl rfl), (ax_in1_1 (i := 1) rfl rfl), ⟨by decide +kernel, by decide +kernel, by decide +kernel⟩, by decide +kernel, by decide⟩
theorem jIX10_write : Cond.instanceMethod kX10_write.1 ∈ ax_tb := (ax_in1_4 (i := 6) rfl rfl)
theorem jVX10_write : Cond.selects kX10_write.1.cls kX10_write.1 kX10_write.1 ∈ ax_tb := (ax_in1_4 (i := 7) rfl rfl)
theorem jX10_paper : ax_J kX10_paper 1 := ⟨(ax_in1_4 (i := 22) rfl rfl), (ax_in1_1 (i := 1) rfl rfl), ⟨by decide +kernel, by decide +kernel, by decide +kernel⟩, by decide +kernel, by decide⟩
theorem jIX10_paper : Cond.instanceMethod kX10_paper.1 ∈ ax_tb := (ax_in1_4 (i := 20) rfl rfl)
theorem jVX10_paper : Cond.selects kX10_paper.1.cls kX10_paper.1 kX10_paper.1 ∈ ax_tb := (ax_in1_4 (i := 21) rfl rfl)
theorem jX10_judge : ax_J kX10_judge 3 := ⟨(ax_in1_4 (i := 27) rfl rfl), (ax_in1_1 (i := 1) rfl rfl), ⟨by decide +kernel, by decide +kernel, by decide +kernel⟩, by decide +kernel, by decide⟩
theorem jIX10_judge : Cond.instanceMethod kX10_judge.1 ∈ ax_tb := (ax_in1_4 (i := 25) rfl rfl)
theorem jVX10_judge : Cond.selects kX10_judge.1.cls kX10_judge.1 kX10_judge.1 ∈ ax_tb := (ax_in1_4 (i := 26) rfl rfl)
theorem jX10_list : ax_J kX10_list 2 := ⟨(ax_in1_4 (i := 50) rfl rfl), (ax_in1_1 (i := 1) rfl rfl), ⟨by decide +kernel, by decide +kernel, by decide +kernel⟩, by decide +kernel, by decide⟩
theorem jIX10_list : Cond.instanceMethod kX10_list.1 ∈ ax_tb := (ax_in1_4 (i := 48) rfl rfl)
theorem jVX10_list : Cond.selects kX10_list.1.cls kX10_list.1 kX10_list.1 ∈ ax_tb := (ax_in1_4 (i := 49) rfl rfl)
theorem jX10_put : ax_J kX10_put 3 := ⟨(ax_in1_4 (i := 58) rfl rfl), (ax_in1_1 (i := 1) rfl rfl), ⟨by decide +kernel, by decide +kernel, by decide +kernel⟩, by decide +kernel, by decide⟩
theorem jIX10_put : Cond.instanceMethod kX10_put.1 ∈ ax_tb := (ax_in1_4 (i := 56) rfl rfl)
theorem jVX10_put : Cond.selects kX10_put.1.cls kX10_put.1 kX10_put.1 ∈ ax_tb := (ax_in1_4 (i := 57) rfl rfl)
theorem jX10_get : ax_J kX10_get 2 := ⟨(ax_in1_4 (i := 67) rfl rfl), (ax_in1_1 (i := 1) rfl rfl), ⟨by decide +kernel, by decide +kernel, by decide +kernel⟩, by decide +kernel, by decide⟩
theorem jIX10_get : Cond.instanceMethod kX10_get.1 ∈ ax_tb := (ax_in1_4 (i := 65) rfl rfl)
theorem jVX10_get : Cond.selects kX10_get.1.cls kX10_get.1 kX10_get.1 ∈ ax_tb := (ax_in1_4 (i := 66) rfl rfl)
theorem jX10_image : ax_J kX10_image 0 := ⟨(ax_in1_4 (i := 71) rfl rfl), (ax_in1_1 (i := 1) rfl rfl), ⟨by decide +kernel, by decide +kernel, by decide +kernel⟩, by decide +kernel, by decide⟩
theorem jIX10_image : Cond.instanceMethod kX10_image.1 ∈ ax_tb := (ax_in1_4 (i := 69) rfl rfl)
theorem jVX10_image : Cond.selects kX10_image.1.cls kX10_image.1 kX10_image.1 ∈ ax_tb := (ax_in1_4 (i := 70) rfl rfl)
theorem jX10_undo : ax_J kX10_undo 0 := ⟨(ax_in1_4 (i := 85) rfl rfl), (ax_in1_1 (i := 1) rfl rfl), ⟨by decide +kernel, by decide +kernel, by decide +kernel⟩, by decide +kernel, by decide⟩
theorem jIX10_undo : Cond.instanceMethod kX10_undo.1 ∈ ax_tb := (ax_in1_4 (i := 83) rfl rfl)
theorem jVX10_undo : Cond.selects kX10_undo.1.cls kX10_undo.1 kX10_undo.1 ∈ ax_tb := (ax_in1_4 (i := 84) rfl rfl)
theorem jX10_count : ax_J kX10_count 1 := ⟨(ax_in1_4 (i := 94) rfl rfl), (ax_in1_1 (i := 1) rfl rfl), ⟨by decide +kernel, by decide +kernel, by decide +kernel⟩, by decide +kernel, by decide⟩
theorem jIX10_count : Cond.instanceMethod kX10_count.1 ∈ ax_tb := (ax_in1_4 (i := 92) rfl rfl)
theorem jVX10_count : Cond.selects kX10_count.1.cls kX10_count.1 kX10_count.1 ∈ ax_tb := (ax_in1_4 (i := 93) rfl rfl)
theorem jX10_isNumber : ax_J kX10_isNumber 1 := ⟨(ax_in1_2 (i := 50) rfl rfl), (ax_in1_1 (i := 1) rfl rfl), ⟨by decide +kernel, by decide +kernel, by decide +kernel⟩, by decide +kernel, by decide⟩
theorem jSX10_isNumber : Cond.static kX10_isNumber.1 ∈ ax_tb := (ax_in1_2 (i := 49) rfl rfl)
theorem jX10_isCoordinate : ax_J kX10_isCoordinate 1 := ⟨(ax_in1_2 (i := 113) rfl rfl), (ax_in1_1 (i := 1) rfl rfl), ⟨by decide +kernel, by decide +kernel, by decide +kernel⟩, by decide +kernel, by decide⟩
theorem jSX10_isCoordinate : Cond.static kX10_isCoordinate.1 ∈ ax_tb := (ax_in1_2 (i := 112) rfl rfl)
theorem jX10_isSpot : ax_J kX10_isSpot 2 := ⟨(ax_in1_2 (i := 110) rfl rfl), (ax_in1_1 (i := 1) rfl rfl), ⟨by decide +kernel, by decide +kernel, by decide +kernel⟩, by decide +kernel, by decide⟩
theorem jSX10_isSpot : Cond.static kX10_isSpot.1 ∈ ax_tb := (ax_in1_2 (i := 109) rfl rfl)
theorem jX10_isAxis : ax_J kX10_isAxis 1 := ⟨(ax_in1_2 (i := 149) rfl rfl), (ax_in1_1 (i := 1) rfl rfl), ⟨by decide +kernel, by decide +kernel, by decide +kernel⟩, by decide +kernel, by decide⟩
theorem jSX10_isAxis : Cond.static kX10_isAxis.1 ∈ ax_tb := (ax_in1_2 (i := 148) rfl rfl)
theorem jX10_isTable : ax_J kX10_isTable 1 := ⟨(ax_in1_2 (i := 47) rfl rfl), (ax_in1_1 (i := 1) rfl rfl), ⟨by decide +kernel, by decide +kernel, by decide +kernel⟩, by decide +kernel, by decide⟩
theorem jSX10_isTable : Cond.static kX10_isTable.1 ∈ ax_tb := (ax_in1_2 (i := 46) rfl rfl)
theorem jX10_isPower : ax_J kX10_isPower 3 := ⟨(ax_in1_2 (i := 44) rfl rfl), (ax_in1_1 (i := 1) rfl rfl), ⟨by decide +kernel, by decide +kernel, by decide +kernel⟩, by decide +kernel, by decide⟩
theorem jSX10_isPower : Cond.static kX10_isPower.1 ∈ ax_tb := (ax_in1_2 (i := 43) rfl rfl)
theorem jX10_modulo : ax_J kX10_modulo 1 := ⟨(ax_in1_2 (i := 96) rfl rfl), (ax_in1_1 (i := 1) rfl rfl), ⟨by decide +kernel, by decide +kernel, by decide +kernel⟩, by decide +kernel, by decide⟩
theorem jSX10_modulo : Cond.static kX10_modulo.1 ∈ ax_tb := (ax_in1_2 (i := 95) rfl rfl)
theorem jX10_quotient : ax_J kX10_quotient 2 := ⟨(ax_in1_2 (i := 140) rfl rfl), (ax_in1_1 (i := 1) rfl rfl), ⟨by decide +kernel, by decide +kernel, by decide +kernel⟩, by decide +kernel, by decide⟩
theorem jSX10_quotient : Cond.static kX10_quotient.1 ∈ ax_tb := (ax_in1_2 (i := 139) rfl rfl)
theorem jX10_quadraticAt : ax_J kX10_quadraticAt 4 := ⟨(ax_in1_2 (i := 128) rfl rfl), (ax_in1_1 (i := 1) rfl rfl), ⟨by decide +kernel, by decide +kernel, by decide +kernel⟩, by decide +kernel, by decide⟩
theorem jSX10_quadraticAt : Cond.static kX10_quadraticAt.1 ∈ ax_tb := (ax_in1_2 (i := 127) rfl rfl)
theorem jX10_powerAt : ax_J kX10_powerAt 2 := ⟨(ax_in1_3 (i := 196) rfl rfl), (ax_in1_1 (i := 1) rfl rfl), ⟨by decide +kernel, by decide +kernel, by decide +kernel⟩, by decide +kernel, by decide⟩
theorem jSX10_powerAt : Cond.static kX10_powerAt.1 ∈ ax_tb := (ax_in1_3 (i := 195) rfl rfl)
theorem jX10_drawn : ax_J kX10_drawn 1 := ⟨(ax_in1_3 (i := 205) rfl rfl), (ax_in1_1 (i := 1) rfl rfl), ⟨by decide +kernel, by decide +kernel, by decide +kernel⟩, by decide +kernel, by decide⟩
theorem jSX10_drawn : Cond.static kX10_drawn.1 ∈ ax_tb := (ax_in1_3 (i := 204) rfl rfl)
theorem jX10_commonDivisor : ax_J kX10_commonDivisor 2 := ⟨(ax_in1_3 (i := 209) rfl rfl), (ax_in1_1 (i := 1) rfl rfl), ⟨by decide +kernel, by decide +kernel, by decide +kernel⟩, by decide +kernel, by decide⟩
theorem jSX10_commonDivisor : Cond.static kX10_commonDivisor.1 ∈ ax_tb := (ax_in1_3 (i := 208) rfl rfl)
theorem jX11_init : ax_J kX11_init 0 := ⟨(ax_in1_4 (i := 103) rfl rfl), (ax_in1_1 (i := 12) rfl rfl), ⟨by decide +kernel, by decide +kernel, by decide +kernel⟩, by decide +kernel, by decide⟩
theorem jIX11_init : Cond.instanceMethod kX11_init.1 ∈ ax_tb := (ax_in1_4 (i := 102) rfl rfl)
theorem jX11_in : ax_J kX11_in 3 := ⟨(ax_in1_4 (i := 207) rfl rfl), (ax_in1_1 (i := 12) rfl rfl), ⟨by decide +kernel, by decide +kernel, by decide +kernel⟩, by decide +kernel, by decide⟩
theorem jSX11_in : Cond.static kX11_in.1 ∈ ax_tb := (ax_in1_4 (i := 206) rfl rfl)
theorem jX11_mod : ax_J kX11_mod 1 := ⟨(ax_in1_5 (i := 23) rfl rfl), (ax_in1_1 (i := 12) rfl rfl), ⟨by decide +kernel, by decide +kernel, by decide +kernel⟩, by decide +kernel, by decide⟩
theorem jSX11_mod : Cond.static kX11_mod.1 ∈ ax_tb := (ax_in1_5 (i := 22) rfl rfl)
theorem jX11_inverse : ax_J kX11_inverse 1 := ⟨(ax_in1_5 (i := 8) rfl rfl), (ax_in1_1 (i := 12) rfl rfl), ⟨by decide +kernel, by decide +kernel, by decide +kernel⟩, by decide +kernel, by decide⟩
theorem jSX11_inverse : Cond.static kX11_inverse.1 ∈ ax_tb := (ax_in1_5 (i := 7) rfl rfl)
theorem jX11_by : ax_J kX11_by 2 := ⟨(ax_in1_5 (i := 5) rfl rfl), (ax_in1_1 (i := 12) rfl rfl), ⟨by decide +kernel, by decide +kernel, by decide +kernel⟩, by decide +kernel, by decide⟩
theorem jSX11_by : Cond.static kX11_by.1 ∈ ax_tb := (ax_in1_5 (i := 4) rfl rfl)
theorem jX11_isCoordinate : ax_J kX11_isCoordinate 1 := ⟨(ax_in1_4 (i := 226) rfl rfl), (ax_in1_1 (i := 12) rfl rfl), ⟨by decide +kernel, by decide +kernel, by decide +kernel⟩, by decide +kernel, by decide⟩
theorem jSX11_isCoordinate : Cond.static kX11_isCoordinate.1 ∈ ax_tb := (ax_in1_4 (i := 225) rfl rfl)
theorem jX11_isSpot : ax_J kX11_isSpot 2 := ⟨(ax_in1_4 (i := 223) rfl rfl), (ax_in1_1 (i := 12) rfl rfl), ⟨by decide +kernel, by decide +kernel, by decide +kernel⟩, by decide +kernel, by decide⟩
theorem jSX11_isSpot : Cond.static kX11_isSpot.1 ∈ ax_tb := (ax_in1_4 (i := 222) rfl rfl)
theorem jX11_placeOf : ax_J kX11_placeOf 3 := ⟨(ax_in1_4 (i := 212) rfl rfl), (ax_in1_1 (i := 12) rfl rfl), ⟨by decide +kernel, by decide +kernel, by decide +kernel⟩, by decide +kernel, by decide⟩
theorem jSX11_placeOf : Cond.static kX11_placeOf.1 ∈ ax_tb := (ax_in1_4 (i := 211) rfl rfl)
theorem jX11_isPlace : ax_J kX11_isPlace 3 := ⟨(ax_in1_4 (i := 204) rfl rfl), (ax_in1_1 (i := 12) rfl rfl), ⟨by decide +kernel, by decide +kernel, by decide +kernel⟩, by decide +kernel, by decide⟩
theorem jSX11_isPlace : Cond.static kX11_isPlace.1 ∈ ax_tb := (ax_in1_4 (i := 203) rfl rfl)
theorem jX11_set : ax_J kX11_set 4 := ⟨(ax_in1_4 (i := 201) rfl rfl), (ax_in1_1 (i := 12) rfl rfl), ⟨by decide +kernel, by decide +kernel, by decide +kernel⟩, by decide +kernel, by decide⟩
theorem jIX11_set : Cond.instanceMethod kX11_set.1 ∈ ax_tb := (ax_in1_4 (i := 199) rfl rfl)
theorem jVX11_set : Cond.selects kX11_set.1.cls kX11_set.1 kX11_set.1 ∈ ax_tb := (ax_in1_4 (i := 200) rfl rfl)
theorem jX11_of : ax_J kX11_of 3 := ⟨(ax_in1_4 (i := 216) rfl rfl), (ax_in1_1 (i := 12) rfl rfl), ⟨by decide +kernel, by decide +kernel, by decide +kernel⟩, by decide +kernel, by decide⟩
theorem jIX11_of : Cond.instanceMethod kX11_of.1 ∈ ax_tb := (ax_in1_4 (i := 214) rfl rfl)
theorem jVX11_of : Cond.selects kX11_of.1.cls kX11_of.1 kX11_of.1 ∈ ax_tb := (ax_in1_4 (i := 215) rfl rfl)
theorem jX11_power : ax_J kX11_power 2 := ⟨(ax_in1_4 (i := 234) rfl rfl), (ax_in1_1 (i := 12) rfl rfl), ⟨by decide +kernel, by decide +kernel, by decide +kernel⟩, by decide +kernel, by decide⟩
theorem jSX11_power : Cond.static kX11_power.1 ∈ ax_tb := (ax_in1_4 (i := 233) rfl rfl)
theorem jX11_valueAt : ax_J kX11_valueAt 3 := ⟨(ax_in1_4 (i := 231) rfl rfl), (ax_in1_1 (i := 12) rfl rfl), ⟨by decide +kernel, by decide +kernel, by decide +kernel⟩, by decide +kernel, by decide⟩
theorem jIX11_valueAt : Cond.instanceMethod kX11_valueAt.1 ∈ ax_tb := (ax_in1_4 (i := 230) rfl rfl)
theorem jVX11_valueAt : Cond.selects kX11_valueAt.1.cls kX11_valueAt.1 kX11_valueAt.1 ∈ ax_tb := (ax_in0 (i := 18) rfl rfl)
theorem jX11_value : ax_J kX11_value 3 := ⟨(ax_in1_4 (i := 220) rfl rfl), (ax_in1_1 (i := 12) rfl rfl), ⟨by decide +kernel, by decide +kernel, by decide +kernel⟩, by decide +kernel, by decide⟩
theorem jIX11_value : Cond.instanceMethod kX11_value.1 ∈ ax_tb := (ax_in1_4 (i := 218) rfl rfl)
theorem jVX11_value : Cond.selects kX11_value.1.cls kX11_value.1 kX11_value.1 ∈ ax_tb := (ax_in1_4 (i := 219) rfl rfl)
theorem jX11_keptAt : ax_J kX11_keptAt 2 := ⟨(ax_in1_5 (i := 2) rfl rfl), (ax_in1_1 (i := 12) rfl rfl), ⟨by decide +kernel, by decide +kernel, by decide +kernel⟩, by decide +kernel, by decide⟩
theorem jIX11_keptAt : Cond.instanceMethod kX11_keptAt.1 ∈ ax_tb := (ax_in1_5 (i := 1) rfl rfl)
theorem jVX11_keptAt : Cond.selects kX11_keptAt.1.cls kX11_keptAt.1 kX11_keptAt.1 ∈ ax_tb := (ax_in0 (i := 19) rfl rfl)
theorem jX11_kept : ax_J kX11_kept 2 := ⟨(ax_in1_4 (i := 238) rfl rfl), (ax_in1_1 (i := 12) rfl rfl), ⟨by decide +kernel, by decide +kernel, by decide +kernel⟩, by decide +kernel, by decide⟩
theorem jIX11_kept : Cond.instanceMethod kX11_kept.1 ∈ ax_tb := (ax_in1_4 (i := 236) rfl rfl)
theorem jVX11_kept : Cond.selects kX11_kept.1.cls kX11_kept.1 kX11_kept.1 ∈ ax_tb := (ax_in1_4 (i := 237) rfl rfl)
theorem jX11_rowAt : ax_J kX11_rowAt 4 := ⟨(ax_in1_5 (i := 20) rfl rfl), (ax_in1_1 (i := 12) rfl rfl), ⟨by decide +kernel, by decide +kernel, by decide +kernel⟩, by decide +kernel, by decide⟩
theorem jIX11_rowAt : Cond.instanceMethod kX11_rowAt.1 ∈ ax_tb := (ax_in1_5 (i := 19) rfl rfl)
theorem jVX11_rowAt : Cond.selects kX11_rowAt.1.cls kX11_rowAt.1 kX11_rowAt.1 ∈ ax_tb := (ax_in0 (i := 21) rfl rfl)
theorem jX11_crossed : ax_J kX11_crossed 3 := ⟨(ax_in1_5 (i := 16) rfl rfl), (ax_in1_1 (i := 12) rfl rfl), ⟨by decide +kernel, by decide +kernel, by decide +kernel⟩, by decide +kernel, by decide⟩
theorem jIX11_crossed : Cond.instanceMethod kX11_crossed.1 ∈ ax_tb := (ax_in1_5 (i := 15) rfl rfl)
theorem jVX11_crossed : Cond.selects kX11_crossed.1.cls kX11_crossed.1 kX11_crossed.1 ∈ ax_tb := (ax_in0 (i := 20) rfl rfl)
theorem jX11_row : ax_J kX11_row 3 := ⟨(ax_in1_5 (i := 12) rfl rfl), (ax_in1_1 (i := 12) rfl rfl), ⟨by decide +kernel, by decide +kernel, by decide +kernel⟩, by decide +kernel, by decide⟩
theorem jIX11_row : Cond.instanceMethod kX11_row.1 ∈ ax_tb := (ax_in1_5 (i := 10) rfl rfl)
theorem jVX11_row : Cond.selects kX11_row.1.cls kX11_row.1 kX11_row.1 ∈ ax_tb := (ax_in1_5 (i := 11) rfl rfl)
theorem jX11_other : ax_J kX11_other 3 := ⟨(ax_in1_5 (i := 31) rfl rfl), (ax_in1_1 (i := 12) rfl rfl), ⟨by decide +kernel, by decide +kernel, by decide +kernel⟩, by decide +kernel, by decide⟩
theorem jIX11_other : Cond.instanceMethod kX11_other.1 ∈ ax_tb := (ax_in1_5 (i := 30) rfl rfl)
theorem jVX11_other : Cond.selects kX11_other.1.cls kX11_other.1 kX11_other.1 ∈ ax_tb := (ax_in0 (i := 22) rfl rfl)
theorem jX11_swap : ax_J kX11_swap 3 := ⟨(ax_in1_5 (i := 27) rfl rfl), (ax_in1_1 (i := 12) rfl rfl), ⟨by decide +kernel, by decide +kernel, by decide +kernel⟩, by decide +kernel, by decide⟩
theorem jIX11_swap : Cond.instanceMethod kX11_swap.1 ∈ ax_tb := (ax_in1_5 (i := 25) rfl rfl)
theorem jVX11_swap : Cond.selects kX11_swap.1.cls kX11_swap.1 kX11_swap.1 ∈ ax_tb := (ax_in1_5 (i := 26) rfl rfl)
theorem jX11_pinched : ax_J kX11_pinched 1 := ⟨(ax_in1_5 (i := 35) rfl rfl), (ax_in1_1 (i := 12) rfl rfl), ⟨by decide +kernel, by decide +kernel, by decide +kernel⟩, by decide +kernel, by decide⟩
theorem jIX11_pinched : Cond.instanceMethod kX11_pinched.1 ∈ ax_tb := (ax_in1_5 (i := 33) rfl rfl)
theorem jVX11_pinched : Cond.selects kX11_pinched.1.cls kX11_pinched.1 kX11_pinched.1 ∈ ax_tb := (ax_in1_5 (i := 34) rfl rfl)
theorem jX11_swapped : ax_J kX11_swapped 2 := ⟨(ax_in1_5 (i := 50) rfl rfl), (ax_in1_1 (i := 12) rfl rfl), ⟨by decide +kernel, by decide +kernel, by decide +kernel⟩, by decide +kernel, by decide⟩
theorem jIX11_swapped : Cond.instanceMethod kX11_swapped.1 ∈ ax_tb := (ax_in1_5 (i := 49) rfl rfl)
theorem jVX11_swapped : Cond.selects kX11_swapped.1.cls kX11_swapped.1 kX11_swapped.1 ∈ ax_tb := (ax_in0 (i := 24) rfl rfl)
theorem jX11_step : ax_J kX11_step 2 := ⟨(ax_in1_5 (i := 46) rfl rfl), (ax_in1_1 (i := 12) rfl rfl), ⟨by decide +kernel, by decide +kernel, by decide +kernel⟩, by decide +kernel, by decide⟩
theorem jIX11_step : Cond.instanceMethod kX11_step.1 ∈ ax_tb := (ax_in1_5 (i := 45) rfl rfl)
theorem jVX11_step : Cond.selects kX11_step.1.cls kX11_step.1 kX11_step.1 ∈ ax_tb := (ax_in0 (i := 23) rfl rfl)
theorem jX11_behind : ax_J kX11_behind 3 := ⟨(ax_in1_5 (i := 40) rfl rfl), (ax_in1_1 (i := 12) rfl rfl), ⟨by decide +kernel, by decide +kernel, by decide +kernel⟩, by decide +kernel, by decide⟩
theorem jIX11_behind : Cond.instanceMethod kX11_behind.1 ∈ ax_tb := (ax_in1_5 (i := 38) rfl rfl)
theorem jVX11_behind : Cond.selects kX11_behind.1.cls kX11_behind.1 kX11_behind.1 ∈ ax_tb := (ax_in1_5 (i := 39) rfl rfl)
theorem jX11_period : ax_J kX11_period 2 := ⟨(ax_in1_5 (i := 54) rfl rfl), (ax_in1_1 (i := 12) rfl rfl), ⟨by decide +kernel, by decide +kernel, by decide +kernel⟩, by decide +kernel, by decide⟩
theorem jIX11_period : Cond.instanceMethod kX11_period.1 ∈ ax_tb := (ax_in1_5 (i := 52) rfl rfl)
theorem jVX11_period : Cond.selects kX11_period.1.cls kX11_period.1 kX11_period.1 ∈ ax_tb := (ax_in1_5 (i := 53) rfl rfl)
theorem jX11_findsKept : ax_J kX11_findsKept 0 := ⟨(ax_in1_5 (i := 66) rfl rfl), (ax_in1_1 (i := 12) rfl rfl), ⟨by decide +kernel, by decide +kernel, by decide +kernel⟩, by decide +kernel, by decide⟩
theorem jIX11_findsKept : Cond.instanceMethod kX11_findsKept.1 ∈ ax_tb := (ax_in1_5 (i := 65) rfl rfl)
theorem jVX11_findsKept : Cond.selects kX11_findsKept.1.cls kX11_findsKept.1 kX11_findsKept.1 ∈ ax_tb := (ax_in0 (i := 26) rfl rfl)
theorem jX11_nth : ax_J kX11_nth 2 := ⟨(ax_in1_5 (i := 62) rfl rfl), (ax_in1_1 (i := 12) rfl rfl), ⟨by decide +kernel, by decide +kernel, by decide +kernel⟩, by decide +kernel, by decide⟩
theorem jIX11_nth : Cond.instanceMethod kX11_nth.1 ∈ ax_tb := (ax_in1_5 (i := 61) rfl rfl)
theorem jVX11_nth : Cond.selects kX11_nth.1.cls kX11_nth.1 kX11_nth.1 ∈ ax_tb := (ax_in0 (i := 25) rfl rfl)
theorem jX11_fibre : ax_J kX11_fibre 2 := ⟨(ax_in1_5 (i := 58) rfl rfl), (ax_in1_1 (i := 12) rfl rfl), ⟨by decide +kernel, by decide +kernel, by decide +kernel⟩, by decide +kernel, by decide⟩
theorem jIX11_fibre : Cond.instanceMethod kX11_fibre.1 ∈ ax_tb := (ax_in1_5 (i := 56) rfl rfl)
theorem jVX11_fibre : Cond.selects kX11_fibre.1.cls kX11_fibre.1 kX11_fibre.1 ∈ ax_tb := (ax_in1_5 (i := 57) rfl rfl)
theorem jX11_base : ax_J kX11_base 1 := ⟨(ax_in1_5 (i := 70) rfl rfl), (ax_in1_1 (i := 12) rfl rfl), ⟨by decide +kernel, by decide +kernel, by decide +kernel⟩, by decide +kernel, by decide⟩
theorem jIX11_base : Cond.instanceMethod kX11_base.1 ∈ ax_tb := (ax_in1_5 (i := 68) rfl rfl)
theorem jVX11_base : Cond.selects kX11_base.1.cls kX11_base.1 kX11_base.1 ∈ ax_tb := (ax_in1_5 (i := 69) rfl rfl)
theorem jX11_rank : ax_J kX11_rank 1 := ⟨(ax_in1_5 (i := 74) rfl rfl), (ax_in1_1 (i := 12) rfl rfl), ⟨by decide +kernel, by decide +kernel, by decide +kernel⟩, by decide +kernel, by decide⟩
theorem jIX11_rank : Cond.instanceMethod kX11_rank.1 ∈ ax_tb := (ax_in1_5 (i := 72) rfl rfl)
theorem jVX11_rank : Cond.selects kX11_rank.1.cls kX11_rank.1 kX11_rank.1 ∈ ax_tb := (ax_in1_5 (i := 73) rfl rfl)
theorem jX11_lengthOf : ax_J kX11_lengthOf 1 := ⟨(ax_in1_5 (i := 88) rfl rfl), (ax_in1_1 (i := 12) rfl rfl), ⟨by decide +kernel, by decide +kernel, by decide +kernel⟩, by decide +kernel, by decide⟩
theorem jIX11_lengthOf : Cond.instanceMethod kX11_lengthOf.1 ∈ ax_tb := (ax_in1_5 (i := 87) rfl rfl)
theorem jVX11_lengthOf : Cond.selects kX11_lengthOf.1.cls kX11_lengthOf.1 kX11_lengthOf.1 ∈ ax_tb := (ax_in0 (i := 28) rfl rfl)
theorem jX11_findsCycles : ax_J kX11_findsCycles 1 := ⟨(ax_in1_5 (i := 84) rfl rfl), (ax_in1_1 (i := 12) rfl rfl), ⟨by decide +kernel, by decide +kernel, by decide +kernel⟩, by decide +kernel, by decide⟩
theorem jIX11_findsCycles : Cond.instanceMethod kX11_findsCycles.1 ∈ ax_tb := (ax_in1_5 (i := 83) rfl rfl)
theorem jVX11_findsCycles : Cond.selects kX11_findsCycles.1.cls kX11_findsCycles.1 kX11_findsCycles.1 ∈ ax_tb := (ax_in0 (i := 27) rfl rfl)
theorem jX11_cycles : ax_J kX11_cycles 2 := ⟨(ax_in1_5 (i := 78) rfl rfl), (ax_in1_1 (i := 12) rfl rfl), ⟨by decide +kernel, by decide +kernel, by decide +kernel⟩, by decide +kernel, by decide⟩
theorem jIX11_cycles : Cond.instanceMethod kX11_cycles.1 ∈ ax_tb := (ax_in1_5 (i := 76) rfl rfl)
theorem jVX11_cycles : Cond.selects kX11_cycles.1.cls kX11_cycles.1 kX11_cycles.1 ∈ ax_tb := (ax_in1_5 (i := 77) rfl rfl)
theorem jX11_becomes : ax_J kX11_becomes 2 := ⟨(ax_in1_5 (i := 113) rfl rfl), (ax_in1_1 (i := 12) rfl rfl), ⟨by decide +kernel, by decide +kernel, by decide +kernel⟩, by decide +kernel, by decide⟩
theorem jSX11_becomes : Cond.static kX11_becomes.1 ∈ ax_tb := (ax_in1_5 (i := 112) rfl rfl)
theorem jX11_constant : ax_J kX11_constant 2 := ⟨(ax_in1_5 (i := 96) rfl rfl), (ax_in1_1 (i := 12) rfl rfl), ⟨by decide +kernel, by decide +kernel, by decide +kernel⟩, by decide +kernel, by decide⟩
theorem jSX11_constant : Cond.static kX11_constant.1 ∈ ax_tb := (ax_in1_5 (i := 95) rfl rfl)
theorem jX11_trims : ax_J kX11_trims 2 := ⟨(ax_in1_5 (i := 110) rfl rfl), (ax_in1_1 (i := 12) rfl rfl), ⟨by decide +kernel, by decide +kernel, by decide +kernel⟩, by decide +kernel, by decide⟩
theorem jSX11_trims : Cond.static kX11_trims.1 ∈ ax_tb := (ax_in1_5 (i := 109) rfl rfl)
theorem jX11_sums : ax_J kX11_sums 5 := ⟨(ax_in1_5 (i := 116) rfl rfl), (ax_in1_1 (i := 12) rfl rfl), ⟨by decide +kernel, by decide +kernel, by decide +kernel⟩, by decide +kernel, by decide⟩
theorem jSX11_sums : Cond.static kX11_sums.1 ∈ ax_tb := (ax_in1_5 (i := 115) rfl rfl)
theorem jX11_times : ax_J kX11_times 3 := ⟨(ax_in1_5 (i := 107) rfl rfl), (ax_in1_1 (i := 12) rfl rfl), ⟨by decide +kernel, by decide +kernel, by decide +kernel⟩, by decide +kernel, by decide⟩
theorem jSX11_times : Cond.static kX11_times.1 ∈ ax_tb := (ax_in1_5 (i := 106) rfl rfl)
theorem jX11_divides : ax_J kX11_divides 3 := ⟨(ax_in1_5 (i := 127) rfl rfl), (ax_in1_1 (i := 12) rfl rfl), ⟨by decide +kernel, by decide +kernel, by decide +kernel⟩, by decide +kernel, by decide⟩
theorem jSX11_divides : Cond.static kX11_divides.1 ∈ ax_tb := (ax_in1_5 (i := 126) rfl rfl)
theorem jX11_lowers : ax_J kX11_lowers 2 := ⟨(ax_in1_5 (i := 124) rfl rfl), (ax_in1_1 (i := 12) rfl rfl), ⟨by decide +kernel, by decide +kernel, by decide +kernel⟩, by decide +kernel, by decide⟩
theorem jIX11_lowers : Cond.instanceMethod kX11_lowers.1 ∈ ax_tb := (ax_in1_5 (i := 123) rfl rfl)
theorem jVX11_lowers : Cond.selects kX11_lowers.1.cls kX11_lowers.1 kX11_lowers.1 ∈ ax_tb := (ax_in0 (i := 32) rfl rfl)
theorem jX11_rowsAt : ax_J kX11_rowsAt 3 := ⟨(ax_in1_5 (i := 104) rfl rfl), (ax_in1_1 (i := 12) rfl rfl), ⟨by decide +kernel, by decide +kernel, by decide +kernel⟩, by decide +kernel, by decide⟩
theorem jIX11_rowsAt : Cond.instanceMethod kX11_rowsAt.1 ∈ ax_tb := (ax_in1_5 (i := 103) rfl rfl)
theorem jVX11_rowsAt : Cond.selects kX11_rowsAt.1.cls kX11_rowsAt.1 kX11_rowsAt.1 ∈ ax_tb := (ax_in0 (i := 30) rfl rfl)
theorem jX11_crosses : ax_J kX11_crosses 3 := ⟨(ax_in1_5 (i := 120) rfl rfl), (ax_in1_1 (i := 12) rfl rfl), ⟨by decide +kernel, by decide +kernel, by decide +kernel⟩, by decide +kernel, by decide⟩
theorem jIX11_crosses : Cond.instanceMethod kX11_crosses.1 ∈ ax_tb := (ax_in1_5 (i := 119) rfl rfl)
theorem jVX11_crosses : Cond.selects kX11_crosses.1.cls kX11_crosses.1 kX11_crosses.1 ∈ ax_tb := (ax_in0 (i := 31) rfl rfl)
theorem jX11_isSwapped : ax_J kX11_isSwapped 5 := ⟨(ax_in1_5 (i := 100) rfl rfl), (ax_in1_1 (i := 12) rfl rfl), ⟨by decide +kernel, by decide +kernel, by decide +kernel⟩, by decide +kernel, by decide⟩
theorem jIX11_isSwapped : Cond.instanceMethod kX11_isSwapped.1 ∈ ax_tb := (ax_in1_5 (i := 99) rfl rfl)
theorem jVX11_isSwapped : Cond.selects kX11_isSwapped.1.cls kX11_isSwapped.1 kX11_isSwapped.1 ∈ ax_tb := (ax_in0 (i := 29) rfl rfl)
theorem jX11_degree : ax_J kX11_degree 3 := ⟨(ax_in1_5 (i := 92) rfl rfl), (ax_in1_1 (i := 12) rfl rfl), ⟨by decide +kernel, by decide +kernel, by decide +kernel⟩, by decide +kernel, by decide⟩
theorem jIX11_degree : Cond.instanceMethod kX11_degree.1 ∈ ax_tb := (ax_in1_5 (i := 90) rfl rfl)
theorem jVX11_degree : Cond.selects kX11_degree.1.cls kX11_degree.1 kX11_degree.1 ∈ ax_tb := (ax_in1_5 (i := 91) rfl rfl)
theorem jX11_placeIn : ax_J kX11_placeIn 1 := ⟨(ax_in1_5 (i := 139) rfl rfl), (ax_in1_1 (i := 12) rfl rfl), ⟨by decide +kernel, by decide +kernel, by decide +kernel⟩, by decide +kernel, by decide⟩
theorem jIX11_placeIn : Cond.instanceMethod kX11_placeIn.1 ∈ ax_tb := (ax_in1_5 (i := 138) rfl rfl)
theorem jVX11_placeIn : Cond.selects kX11_placeIn.1.cls kX11_placeIn.1 kX11_placeIn.1 ∈ ax_tb := (ax_in0 (i := 34) rfl rfl)
theorem jX11_isTold : ax_J kX11_isTold 1 := ⟨(ax_in1_5 (i := 135) rfl rfl), (ax_in1_1 (i := 12) rfl rfl), ⟨by decide +kernel, by decide +kernel, by decide +kernel⟩, by decide +kernel, by decide⟩
theorem jIX11_isTold : Cond.instanceMethod kX11_isTold.1 ∈ ax_tb := (ax_in1_5 (i := 134) rfl rfl)
theorem jVX11_isTold : Cond.selects kX11_isTold.1.cls kX11_isTold.1 kX11_isTold.1 ∈ ax_tb := (ax_in0 (i := 33) rfl rfl)
theorem jX11_tell : ax_J kX11_tell 2 := ⟨(ax_in1_5 (i := 131) rfl rfl), (ax_in1_1 (i := 12) rfl rfl), ⟨by decide +kernel, by decide +kernel, by decide +kernel⟩, by decide +kernel, by decide⟩
theorem jIX11_tell : Cond.instanceMethod kX11_tell.1 ∈ ax_tb := (ax_in1_5 (i := 129) rfl rfl)
theorem jVX11_tell : Cond.selects kX11_tell.1.cls kX11_tell.1 kX11_tell.1 ∈ ax_tb := (ax_in1_5 (i := 130) rfl rfl)
theorem jX11_forget : ax_J kX11_forget 2 := ⟨(ax_in1_5 (i := 143) rfl rfl), (ax_in1_1 (i := 12) rfl rfl), ⟨by decide +kernel, by decide +kernel, by decide +kernel⟩, by decide +kernel, by decide⟩
theorem jIX11_forget : Cond.instanceMethod kX11_forget.1 ∈ ax_tb := (ax_in1_5 (i := 141) rfl rfl)
theorem jVX11_forget : Cond.selects kX11_forget.1.cls kX11_forget.1 kX11_forget.1 ∈ ax_tb := (ax_in1_5 (i := 142) rfl rfl)
theorem jX11_told : ax_J kX11_told 1 := ⟨(ax_in1_5 (i := 147) rfl rfl), (ax_in1_1 (i := 12) rfl rfl), ⟨by decide +kernel, by decide +kernel, by decide +kernel⟩, by decide +kernel, by decide⟩
theorem jIX11_told : Cond.instanceMethod kX11_told.1 ∈ ax_tb := (ax_in1_5 (i := 145) rfl rfl)
theorem jVX11_told : Cond.selects kX11_told.1.cls kX11_told.1 kX11_told.1 ∈ ax_tb := (ax_in1_5 (i := 146) rfl rfl)
theorem jX11_moves : ax_J kX11_moves 0 := ⟨(ax_in1_5 (i := 155) rfl rfl), (ax_in1_1 (i := 12) rfl rfl), ⟨by decide +kernel, by decide +kernel, by decide +kernel⟩, by decide +kernel, by decide⟩
theorem jIX11_moves : Cond.instanceMethod kX11_moves.1 ∈ ax_tb := (ax_in1_5 (i := 154) rfl rfl)
theorem jVX11_moves : Cond.selects kX11_moves.1.cls kX11_moves.1 kX11_moves.1 ∈ ax_tb := (ax_in0 (i := 35) rfl rfl)
theorem jX11_moved : ax_J kX11_moved 1 := ⟨(ax_in1_5 (i := 151) rfl rfl), (ax_in1_1 (i := 12) rfl rfl), ⟨by decide +kernel, by decide +kernel, by decide +kernel⟩, by decide +kernel, by decide⟩
theorem jIX11_moved : Cond.instanceMethod kX11_moved.1 ∈ ax_tb := (ax_in1_5 (i := 149) rfl rfl)
theorem jVX11_moved : Cond.selects kX11_moved.1.cls kX11_moved.1 kX11_moved.1 ∈ ax_tb := (ax_in1_5 (i := 150) rfl rfl)
theorem jX11_move : ax_J kX11_move 0 := ⟨(ax_in1_5 (i := 159) rfl rfl), (ax_in1_1 (i := 12) rfl rfl), ⟨by decide +kernel, by decide +kernel, by decide +kernel⟩, by decide +kernel, by decide⟩
theorem jIX11_move : Cond.instanceMethod kX11_move.1 ∈ ax_tb := (ax_in1_5 (i := 157) rfl rfl)
theorem jVX11_move : Cond.selects kX11_move.1.cls kX11_move.1 kX11_move.1 ∈ ax_tb := (ax_in1_5 (i := 158) rfl rfl)
theorem jX11_grows : ax_J kX11_grows 1 := ⟨(ax_in1_5 (i := 163) rfl rfl), (ax_in1_1 (i := 12) rfl rfl), ⟨by decide +kernel, by decide +kernel, by decide +kernel⟩, by decide +kernel, by decide⟩
theorem jIX11_grows : Cond.instanceMethod kX11_grows.1 ∈ ax_tb := (ax_in1_5 (i := 161) rfl rfl)
theorem jVX11_grows : Cond.selects kX11_grows.1.cls kX11_grows.1 kX11_grows.1 ∈ ax_tb := (ax_in1_5 (i := 162) rfl rfl)
theorem jX11_were : ax_J kX11_were 6 := ⟨(ax_in1_5 (i := 168) rfl rfl), (ax_in1_1 (i := 12) rfl rfl), ⟨by decide +kernel, by decide +kernel, by decide +kernel⟩, by decide +kernel, by decide⟩
theorem jIX11_were : Cond.instanceMethod kX11_were.1 ∈ ax_tb := (ax_in1_5 (i := 166) rfl rfl)
theorem jVX11_were : Cond.selects kX11_were.1.cls kX11_were.1 kX11_were.1 ∈ ax_tb := (ax_in1_5 (i := 167) rfl rfl)
theorem jX11_common : ax_J kX11_common 2 := ⟨(ax_in1_5 (i := 176) rfl rfl), (ax_in1_1 (i := 12) rfl rfl), ⟨by decide +kernel, by decide +kernel, by decide +kernel⟩, by decide +kernel, by decide⟩
theorem jSX11_common : Cond.static kX11_common.1 ∈ ax_tb := (ax_in1_5 (i := 175) rfl rfl)
theorem jX11_odds : ax_J kX11_odds 4 := ⟨(ax_in1_5 (i := 172) rfl rfl), (ax_in1_1 (i := 12) rfl rfl), ⟨by decide +kernel, by decide +kernel, by decide +kernel⟩, by decide +kernel, by decide⟩
theorem jIX11_odds : Cond.instanceMethod kX11_odds.1 ∈ ax_tb := (ax_in1_5 (i := 170) rfl rfl)
theorem jVX11_odds : Cond.selects kX11_odds.1.cls kX11_odds.1 kX11_odds.1 ∈ ax_tb := (ax_in1_5 (i := 171) rfl rfl)
theorem jX11_plan : ax_J kX11_plan 2 := ⟨(ax_in1_5 (i := 180) rfl rfl), (ax_in1_1 (i := 12) rfl rfl), ⟨by decide +kernel, by decide +kernel, by decide +kernel⟩, by decide +kernel, by decide⟩
theorem jIX11_plan : Cond.instanceMethod kX11_plan.1 ∈ ax_tb := (ax_in1_5 (i := 178) rfl rfl)
theorem jVX11_plan : Cond.selects kX11_plan.1.cls kX11_plan.1 kX11_plan.1 ∈ ax_tb := (ax_in1_5 (i := 179) rfl rfl)
theorem jX11_ends : ax_J kX11_ends 2 := ⟨(ax_in1_5 (i := 185) rfl rfl), (ax_in1_1 (i := 12) rfl rfl), ⟨by decide +kernel, by decide +kernel, by decide +kernel⟩, by decide +kernel, by decide⟩
theorem jIX11_ends : Cond.instanceMethod kX11_ends.1 ∈ ax_tb := (ax_in1_5 (i := 183) rfl rfl)
theorem jVX11_ends : Cond.selects kX11_ends.1.cls kX11_ends.1 kX11_ends.1 ∈ ax_tb := (ax_in1_5 (i := 184) rfl rfl)
theorem jX11_feed : ax_J kX11_feed 1 := ⟨(ax_in1_5 (i := 189) rfl rfl), (ax_in1_1 (i := 12) rfl rfl), ⟨by decide +kernel, by decide +kernel, by decide +kernel⟩, by decide +kernel, by decide⟩
theorem jIX11_feed : Cond.instanceMethod kX11_feed.1 ∈ ax_tb := (ax_in1_5 (i := 187) rfl rfl)
theorem jVX11_feed : Cond.selects kX11_feed.1.cls kX11_feed.1 kX11_feed.1 ∈ ax_tb := (ax_in1_5 (i := 188) rfl rfl)
theorem jX11_here : ax_J kX11_here 0 := ⟨(ax_in1_5 (i := 198) rfl rfl), (ax_in1_1 (i := 12) rfl rfl), ⟨by decide +kernel, by decide +kernel, by decide +kernel⟩, by decide +kernel, by decide⟩
theorem jIX11_here : Cond.instanceMethod kX11_here.1 ∈ ax_tb := (ax_in1_5 (i := 197) rfl rfl)
theorem jVX11_here : Cond.selects kX11_here.1.cls kX11_here.1 kX11_here.1 ∈ ax_tb := (ax_in0 (i := 36) rfl rfl)
theorem jX11_often : ax_J kX11_often 1 := ⟨(ax_in1_5 (i := 209) rfl rfl), (ax_in1_1 (i := 12) rfl rfl), ⟨by decide +kernel, by decide +kernel, by decide +kernel⟩, by decide +kernel, by decide⟩
theorem jIX11_often : Cond.instanceMethod kX11_often.1 ∈ ax_tb := (ax_in1_5 (i := 208) rfl rfl)
theorem jVX11_often : Cond.selects kX11_often.1.cls kX11_often.1 kX11_often.1 ∈ ax_tb := (ax_in0 (i := 38) rfl rfl)
theorem jX11_isTerm : ax_J kX11_isTerm 0 := ⟨(ax_in1_5 (i := 202) rfl rfl), (ax_in1_1 (i := 12) rfl rfl), ⟨by decide +kernel, by decide +kernel, by decide +kernel⟩, by decide +kernel, by decide⟩
theorem jIX11_isTerm : Cond.instanceMethod kX11_isTerm.1 ∈ ax_tb := (ax_in1_5 (i := 201) rfl rfl)
theorem jVX11_isTerm : Cond.selects kX11_isTerm.1.cls kX11_isTerm.1 kX11_isTerm.1 ∈ ax_tb := (ax_in0 (i := 37) rfl rfl)
theorem jX11_table : ax_J kX11_table 1 := ⟨(ax_in1_5 (i := 194) rfl rfl), (ax_in1_1 (i := 12) rfl rfl), ⟨by decide +kernel, by decide +kernel, by decide +kernel⟩, by decide +kernel, by decide⟩
theorem jIX11_table : Cond.instanceMethod kX11_table.1 ∈ ax_tb := (ax_in1_5 (i := 192) rfl rfl)
theorem jVX11_table : Cond.selects kX11_table.1.cls kX11_table.1 kX11_table.1 ∈ ax_tb := (ax_in1_5 (i := 193) rfl rfl)
theorem jX11_writes : ax_J kX11_writes 2 := ⟨(ax_in1_5 (i := 217) rfl rfl), (ax_in1_1 (i := 12) rfl rfl), ⟨by decide +kernel, by decide +kernel, by decide +kernel⟩, by decide +kernel, by decide⟩
theorem jIX11_writes : Cond.instanceMethod kX11_writes.1 ∈ ax_tb := (ax_in1_5 (i := 216) rfl rfl)
theorem jVX11_writes : Cond.selects kX11_writes.1.cls kX11_writes.1 kX11_writes.1 ∈ ax_tb := (ax_in0 (i := 39) rfl rfl)
theorem jX11_write : ax_J kX11_write 1 := ⟨(ax_in1_5 (i := 213) rfl rfl), (ax_in1_1 (i := 12) rfl rfl), ⟨by decide +kernel, by decide +kernel, by decide +kernel⟩, by decide +kernel, by decide⟩
theorem jIX11_write : Cond.instanceMethod kX11_write.1 ∈ ax_tb := (ax_in1_5 (i := 211) rfl rfl)
theorem jVX11_write : Cond.selects kX11_write.1.cls kX11_write.1 kX11_write.1 ∈ ax_tb := (ax_in1_5 (i := 212) rfl rfl)
theorem jX11_paper : ax_J kX11_paper 1 := ⟨(ax_in1_5 (i := 221) rfl rfl), (ax_in1_1 (i := 12) rfl rfl), ⟨by decide +kernel, by decide +kernel, by decide +kernel⟩, by decide +kernel, by decide⟩
theorem jIX11_paper : Cond.instanceMethod kX11_paper.1 ∈ ax_tb := (ax_in1_5 (i := 219) rfl rfl)
theorem jVX11_paper : Cond.selects kX11_paper.1.cls kX11_paper.1 kX11_paper.1 ∈ ax_tb := (ax_in1_5 (i := 220) rfl rfl)
theorem jX11_isList : ax_J kX11_isList 1 := ⟨(ax_in1_5 (i := 228) rfl rfl), (ax_in1_1 (i := 12) rfl rfl), ⟨by decide +kernel, by decide +kernel, by decide +kernel⟩, by decide +kernel, by decide⟩
theorem jSX11_isList : Cond.static kX11_isList.1 ∈ ax_tb := (ax_in1_5 (i := 227) rfl rfl)
theorem jX11_judge : ax_J kX11_judge 3 := ⟨(ax_in1_5 (i := 225) rfl rfl), (ax_in1_1 (i := 12) rfl rfl), ⟨by decide +kernel, by decide +kernel, by decide +kernel⟩, by decide +kernel, by decide⟩
theorem jIX11_judge : Cond.instanceMethod kX11_judge.1 ∈ ax_tb := (ax_in1_5 (i := 223) rfl rfl)
theorem jVX11_judge : Cond.selects kX11_judge.1.cls kX11_judge.1 kX11_judge.1 ∈ ax_tb := (ax_in1_5 (i := 224) rfl rfl)
theorem jX11_list : ax_J kX11_list 2 := ⟨(ax_in1_5 (i := 232) rfl rfl), (ax_in1_1 (i := 12) rfl rfl), ⟨by decide +kernel, by decide +kernel, by decide +kernel⟩, by decide +kernel, by decide⟩
theorem jIX11_list : Cond.instanceMethod kX11_list.1 ∈ ax_tb := (ax_in1_5 (i := 230) rfl rfl)
theorem jVX11_list : Cond.selects kX11_list.1.cls kX11_list.1 kX11_list.1 ∈ ax_tb := (ax_in1_5 (i := 231) rfl rfl)
theorem jX11_put : ax_J kX11_put 3 := ⟨(ax_in1_5 (i := 236) rfl rfl), (ax_in1_1 (i := 12) rfl rfl), ⟨by decide +kernel, by decide +kernel, by decide +kernel⟩, by decide +kernel, by decide⟩
theorem jIX11_put : Cond.instanceMethod kX11_put.1 ∈ ax_tb := (ax_in1_5 (i := 234) rfl rfl)
theorem jVX11_put : Cond.selects kX11_put.1.cls kX11_put.1 kX11_put.1 ∈ ax_tb := (ax_in1_5 (i := 235) rfl rfl)
theorem jX11_get : ax_J kX11_get 2 := ⟨(ax_in1_6 (i := 0) rfl rfl), (ax_in1_1 (i := 12) rfl rfl), ⟨by decide +kernel, by decide +kernel, by decide +kernel⟩, by decide +kernel, by decide⟩
theorem jIX11_get : Cond.instanceMethod kX11_get.1 ∈ ax_tb := (ax_in1_5 (i := 238) rfl rfl)
theorem jVX11_get : Cond.selects kX11_get.1.cls kX11_get.1 kX11_get.1 ∈ ax_tb := (ax_in1_5 (i := 239) rfl rfl)
theorem jX11_image : ax_J kX11_image 0 := ⟨(ax_in1_6 (i := 4) rfl rfl), (ax_in1_1 (i := 12) rfl rfl), ⟨by decide +kernel, by decide +kernel, by decide +kernel⟩, by decide +kernel, by decide⟩
theorem jIX11_image : Cond.instanceMethod kX11_image.1 ∈ ax_tb := (ax_in1_6 (i := 2) rfl rfl)
theorem jVX11_image : Cond.selects kX11_image.1.cls kX11_image.1 kX11_image.1 ∈ ax_tb := (ax_in1_6 (i := 3) rfl rfl)
theorem jX11_undo : ax_J kX11_undo 0 := ⟨(ax_in1_6 (i := 8) rfl rfl), (ax_in1_1 (i := 12) rfl rfl), ⟨by decide +kernel, by decide +kernel, by decide +kernel⟩, by decide +kernel, by decide⟩
theorem jIX11_undo : Cond.instanceMethod kX11_undo.1 ∈ ax_tb := (ax_in1_6 (i := 6) rfl rfl)
theorem jVX11_undo : Cond.selects kX11_undo.1.cls kX11_undo.1 kX11_undo.1 ∈ ax_tb := (ax_in1_6 (i := 7) rfl rfl)
theorem jX11_count : ax_J kX11_count 1 := ⟨(ax_in1_6 (i := 12) rfl rfl), (ax_in1_1 (i := 12) rfl rfl), ⟨by decide +kernel, by decide +kernel, by decide +kernel⟩, by decide +kernel, by decide⟩
theorem jIX11_count : Cond.instanceMethod kX11_count.1 ∈ ax_tb := (ax_in1_6 (i := 10) rfl rfl)
theorem jVX11_count : Cond.selects kX11_count.1.cls kX11_count.1 kX11_count.1 ∈ ax_tb := (ax_in1_6 (i := 11) rfl rfl)
theorem jX0_init : ax_J kX0_init 0 := ⟨(ax_in1_1 (i := 210) rfl rfl), (ax_in1_1 (i := 10) rfl rfl), ⟨by decide +kernel, by decide +kernel, by decide +kernel⟩, by decide +kernel, by decide⟩
theorem jIX0_init : Cond.instanceMethod kX0_init.1 ∈ ax_tb := (ax_in1_1 (i := 209) rfl rfl)
theorem jX0_append : ax_J kX0_append 1 := ⟨(ax_in1_2 (i := 74) rfl rfl), (ax_in1_1 (i := 10) rfl rfl), ⟨by decide +kernel, by decide +kernel, by decide +kernel⟩, by decide +kernel, by decide⟩
theorem jIX0_append : Cond.instanceMethod kX0_append.1 ∈ ax_tb := (ax_in1_2 (i := 72) rfl rfl)
theorem jVX0_append : Cond.selects kX0_append.1.cls kX0_append.1 kX0_append.1 ∈ ax_tb := (ax_in1_2 (i := 73) rfl rfl)
theorem jX0_byteAt : ax_J kX0_byteAt 1 := ⟨(ax_in1_2 (i := 86) rfl rfl), (ax_in1_1 (i := 10) rfl rfl), ⟨by decide +kernel, by decide +kernel, by decide +kernel⟩, by decide +kernel, by decide⟩
theorem jIX0_byteAt : Cond.instanceMethod kX0_byteAt.1 ∈ ax_tb := (ax_in1_2 (i := 84) rfl rfl)
theorem jVX0_byteAt : Cond.selects kX0_byteAt.1.cls kX0_byteAt.1 kX0_byteAt.1 ∈ ax_tb := (ax_in1_2 (i := 85) rfl rfl)
theorem jX0_alikeFrom : ax_J kX0_alikeFrom 2 := ⟨(ax_in1_2 (i := 90) rfl rfl), (ax_in1_1 (i := 10) rfl rfl), ⟨by decide +kernel, by decide +kernel, by decide +kernel⟩, by decide +kernel, by decide⟩
theorem jIX0_alikeFrom : Cond.instanceMethod kX0_alikeFrom.1 ∈ ax_tb := (ax_in1_2 (i := 89) rfl rfl)
theorem jVX0_alikeFrom : Cond.selects kX0_alikeFrom.1.cls kX0_alikeFrom.1 kX0_alikeFrom.1 ∈ ax_tb := (ax_in0 (i := 0) rfl rfl)
theorem jX0_readTerms : ax_J kX0_readTerms 1 := ⟨(ax_in1_2 (i := 82) rfl rfl), (ax_in1_1 (i := 10) rfl rfl), ⟨by decide +kernel, by decide +kernel, by decide +kernel⟩, by decide +kernel, by decide⟩
theorem jIX0_readTerms : Cond.instanceMethod kX0_readTerms.1 ∈ ax_tb := (ax_in1_2 (i := 80) rfl rfl)
theorem jVX0_readTerms : Cond.selects kX0_readTerms.1.cls kX0_readTerms.1 kX0_readTerms.1 ∈ ax_tb := (ax_in1_2 (i := 81) rfl rfl)
theorem jX0_addTo : ax_J kX0_addTo 3 := ⟨(ax_in1_2 (i := 93) rfl rfl), (ax_in1_1 (i := 10) rfl rfl), ⟨by decide +kernel, by decide +kernel, by decide +kernel⟩, by decide +kernel, by decide⟩
theorem jSX0_addTo : Cond.static kX0_addTo.1 ∈ ax_tb := (ax_in1_2 (i := 92) rfl rfl)
theorem jX0_writeTerms : ax_J kX0_writeTerms 2 := ⟨(ax_in1_4 (i := 12) rfl rfl), (ax_in1_1 (i := 10) rfl rfl), ⟨by decide +kernel, by decide +kernel, by decide +kernel⟩, by decide +kernel, by decide⟩
theorem jIX0_writeTerms : Cond.instanceMethod kX0_writeTerms.1 ∈ ax_tb := (ax_in1_4 (i := 10) rfl rfl)
theorem jVX0_writeTerms : Cond.selects kX0_writeTerms.1.cls kX0_writeTerms.1 kX0_writeTerms.1 ∈ ax_tb := (ax_in1_4 (i := 11) rfl rfl)
theorem jX0_writeTerm : ax_J kX0_writeTerm 3 := ⟨(ax_in1_4 (i := 17) rfl rfl), (ax_in1_1 (i := 10) rfl rfl), ⟨by decide +kernel, by decide +kernel, by decide +kernel⟩, by decide +kernel, by decide⟩
theorem jIX0_writeTerm : Cond.instanceMethod kX0_writeTerm.1 ∈ ax_tb := (ax_in1_4 (i := 16) rfl rfl)
theorem jVX0_writeTerm : Cond.selects kX0_writeTerm.1.cls kX0_writeTerm.1 kX0_writeTerm.1 ∈ ax_tb := (ax_in0 (i := 17) rfl rfl)
theorem jX1_init : ax_J kX1_init 0 := ⟨(ax_in1_1 (i := 27) rfl rfl), (ax_in1_1 (i := 2) rfl rfl), ⟨by decide +kernel, by decide +kernel, by decide +kernel⟩, by decide +kernel, by decide⟩
theorem jIX1_init : Cond.instanceMethod kX1_init.1 ∈ ax_tb := (ax_in1_1 (i := 26) rfl rfl)
theorem jX1_change : ax_J kX1_change 4 := ⟨(ax_in1_2 (i := 58) rfl rfl), (ax_in1_1 (i := 2) rfl rfl), ⟨by decide +kernel, by decide +kernel, by decide +kernel⟩, by decide +kernel, by decide⟩
theorem jIX1_change : Cond.instanceMethod kX1_change.1 ∈ ax_tb := (ax_in1_2 (i := 56) rfl rfl)
theorem jVX1_change : Cond.selects kX1_change.1.cls kX1_change.1 kX1_change.1 ∈ ax_tb := (ax_in1_2 (i := 57) rfl rfl)
theorem jX1_changeAll : ax_J kX1_changeAll 2 := ⟨(ax_in1_2 (i := 103) rfl rfl), (ax_in1_1 (i := 2) rfl rfl), ⟨by decide +kernel, by decide +kernel, by decide +kernel⟩, by decide +kernel, by decide⟩
theorem jIX1_changeAll : Cond.instanceMethod kX1_changeAll.1 ∈ ax_tb := (ax_in1_2 (i := 101) rfl rfl)
theorem jVX1_changeAll : Cond.selects kX1_changeAll.1.cls kX1_changeAll.1 kX1_changeAll.1 ∈ ax_tb := (ax_in1_2 (i := 102) rfl rfl)
theorem jX1_changeBack : ax_J kX1_changeBack 1 := ⟨(ax_in1_4 (i := 89) rfl rfl), (ax_in1_1 (i := 2) rfl rfl), ⟨by decide +kernel, by decide +kernel, by decide +kernel⟩, by decide +kernel, by decide⟩
theorem jIX1_changeBack : Cond.instanceMethod kX1_changeBack.1 ∈ ax_tb := (ax_in1_4 (i := 87) rfl rfl)
theorem jVX1_changeBack : Cond.selects kX1_changeBack.1.cls kX1_changeBack.1 kX1_changeBack.1 ∈ ax_tb := (ax_in1_4 (i := 88) rfl rfl)
theorem jX1_learnRows : ax_J kX1_learnRows 0 := ⟨(ax_in1_2 (i := 157) rfl rfl), (ax_in1_1 (i := 2) rfl rfl), ⟨by decide +kernel, by decide +kernel, by decide +kernel⟩, by decide +kernel, by decide⟩
theorem jIX1_learnRows : Cond.instanceMethod kX1_learnRows.1 ∈ ax_tb := (ax_in1_2 (i := 156) rfl rfl)
theorem jVX1_learnRows : Cond.selects kX1_learnRows.1.cls kX1_learnRows.1 kX1_learnRows.1 ∈ ax_tb := (ax_in0 (i := 1) rfl rfl)
theorem jX1_knownRow : ax_J kX1_knownRow 3 := ⟨(ax_in1_2 (i := 167) rfl rfl), (ax_in1_1 (i := 2) rfl rfl), ⟨by decide +kernel, by decide +kernel, by decide +kernel⟩, by decide +kernel, by decide⟩
theorem jIX1_knownRow : Cond.instanceMethod kX1_knownRow.1 ∈ ax_tb := (ax_in1_2 (i := 166) rfl rfl)
theorem jVX1_knownRow : Cond.selects kX1_knownRow.1.cls kX1_knownRow.1 kX1_knownRow.1 ∈ ax_tb := (ax_in0 (i := 3) rfl rfl)
theorem jX1_rowOf : ax_J kX1_rowOf 3 := ⟨(ax_in1_2 (i := 176) rfl rfl), (ax_in1_1 (i := 2) rfl rfl), ⟨by decide +kernel, by decide +kernel, by decide +kernel⟩, by decide +kernel, by decide⟩
theorem jIX1_rowOf : Cond.instanceMethod kX1_rowOf.1 ∈ ax_tb := (ax_in1_2 (i := 174) rfl rfl)
theorem jVX1_rowOf : Cond.selects kX1_rowOf.1.cls kX1_rowOf.1 kX1_rowOf.1 ∈ ax_tb := (ax_in1_2 (i := 175) rfl rfl)
theorem jX1_pinchedLines : ax_J kX1_pinchedLines 1 := ⟨(ax_in1_2 (i := 184) rfl rfl), (ax_in1_1 (i := 2) rfl rfl), ⟨by decide +kernel, by decide +kernel, by decide +kernel⟩, by decide +kernel, by decide⟩
theorem jIX1_pinchedLines : Cond.instanceMethod kX1_pinchedLines.1 ∈ ax_tb := (ax_in1_2 (i := 182) rfl rfl)
theorem jVX1_pinchedLines : Cond.selects kX1_pinchedLines.1.cls kX1_pinchedLines.1 kX1_pinchedLines.1 ∈ ax_tb := (ax_in1_2 (i := 183) rfl rfl)
theorem jX1_swapOf : ax_J kX1_swapOf 3 := ⟨(ax_in1_2 (i := 153) rfl rfl), (ax_in1_1 (i := 2) rfl rfl), ⟨by decide +kernel, by decide +kernel, by decide +kernel⟩, by decide +kernel, by decide⟩
theorem jIX1_swapOf : Cond.instanceMethod kX1_swapOf.1 ∈ ax_tb := (ax_in1_2 (i := 151) rfl rfl)
theorem jVX1_swapOf : Cond.selects kX1_swapOf.1.cls kX1_swapOf.1 kX1_swapOf.1 ∈ ax_tb := (ax_in1_2 (i := 152) rfl rfl)
theorem jX1_knownSwap : ax_J kX1_knownSwap 3 := ⟨(ax_in1_2 (i := 163) rfl rfl), (ax_in1_1 (i := 2) rfl rfl), ⟨by decide +kernel, by decide +kernel, by decide +kernel⟩, by decide +kernel, by decide⟩
theorem jIX1_knownSwap : Cond.instanceMethod kX1_knownSwap.1 ∈ ax_tb := (ax_in1_2 (i := 162) rfl rfl)
theorem jVX1_knownSwap : Cond.selects kX1_knownSwap.1.cls kX1_knownSwap.1 kX1_knownSwap.1 ∈ ax_tb := (ax_in0 (i := 2) rfl rfl)
theorem jX1_stepFrom : ax_J kX1_stepFrom 1 := ⟨(ax_in1_2 (i := 205) rfl rfl), (ax_in1_1 (i := 2) rfl rfl), ⟨by decide +kernel, by decide +kernel, by decide +kernel⟩, by decide +kernel, by decide⟩
theorem jIX1_stepFrom : Cond.instanceMethod kX1_stepFrom.1 ∈ ax_tb := (ax_in1_2 (i := 203) rfl rfl)
theorem jVX1_stepFrom : Cond.selects kX1_stepFrom.1.cls kX1_stepFrom.1 kX1_stepFrom.1 ∈ ax_tb := (ax_in1_2 (i := 204) rfl rfl)
theorem jX1_stepBackFrom : ax_J kX1_stepBackFrom 1 := ⟨(ax_in1_2 (i := 197) rfl rfl), (ax_in1_1 (i := 2) rfl rfl), ⟨by decide +kernel, by decide +kernel, by decide +kernel⟩, by decide +kernel, by decide⟩
theorem jIX1_stepBackFrom : Cond.instanceMethod kX1_stepBackFrom.1 ∈ ax_tb := (ax_in1_2 (i := 195) rfl rfl)
theorem jVX1_stepBackFrom : Cond.selects kX1_stepBackFrom.1.cls kX1_stepBackFrom.1 kX1_stepBackFrom.1 ∈ ax_tb := (ax_in1_2 (i := 196) rfl rfl)
theorem jX1_walk : ax_J kX1_walk 2 := ⟨(ax_in1_2 (i := 201) rfl rfl), (ax_in1_1 (i := 2) rfl rfl), ⟨by decide +kernel, by decide +kernel, by decide +kernel⟩, by decide +kernel, by decide⟩
theorem jIX1_walk : Cond.instanceMethod kX1_walk.1 ∈ ax_tb := (ax_in1_2 (i := 199) rfl rfl)
theorem jVX1_walk : Cond.selects kX1_walk.1.cls kX1_walk.1 kX1_walk.1 ∈ ax_tb := (ax_in1_2 (i := 200) rfl rfl)
theorem jX1_walkBack : ax_J kX1_walkBack 2 := ⟨(ax_in1_2 (i := 193) rfl rfl), (ax_in1_1 (i := 2) rfl rfl), ⟨by decide +kernel, by decide +kernel, by decide +kernel⟩, by decide +kernel, by decide⟩
theorem jIX1_walkBack : Cond.instanceMethod kX1_walkBack.1 ∈ ax_tb := (ax_in1_2 (i := 191) rfl rfl)
theorem jVX1_walkBack : Cond.selects kX1_walkBack.1.cls kX1_walkBack.1 kX1_walkBack.1 ∈ ax_tb := (ax_in1_2 (i := 192) rfl rfl)
theorem jX1_periodOf : ax_J kX1_periodOf 1 := ⟨(ax_in1_2 (i := 213) rfl rfl), (ax_in1_1 (i := 2) rfl rfl), ⟨by decide +kernel, by decide +kernel, by decide +kernel⟩, by decide +kernel, by decide⟩
theorem jIX1_periodOf : Cond.instanceMethod kX1_periodOf.1 ∈ ax_tb := (ax_in1_2 (i := 211) rfl rfl)
theorem jVX1_periodOf : Cond.selects kX1_periodOf.1.cls kX1_periodOf.1 kX1_periodOf.1 ∈ ax_tb := (ax_in1_2 (i := 212) rfl rfl)
theorem jX1_learnKept : ax_J kX1_learnKept 0 := ⟨(ax_in1_2 (i := 225) rfl rfl), (ax_in1_1 (i := 2) rfl rfl), ⟨by decide +kernel, by decide +kernel, by decide +kernel⟩, by decide +kernel, by decide⟩
theorem jIX1_learnKept : Cond.instanceMethod kX1_learnKept.1 ∈ ax_tb := (ax_in1_2 (i := 224) rfl rfl)
theorem jVX1_learnKept : Cond.selects kX1_learnKept.1.cls kX1_learnKept.1 kX1_learnKept.1 ∈ ax_tb := (ax_in0 (i := 4) rfl rfl)
theorem jX1_keeps : ax_J kX1_keeps 2 := ⟨(ax_in1_3 (i := 23) rfl rfl), (ax_in1_1 (i := 2) rfl rfl), ⟨by decide +kernel, by decide +kernel, by decide +kernel⟩, by decide +kernel, by decide⟩
theorem jIX1_keeps : Cond.instanceMethod kX1_keeps.1 ∈ ax_tb := (ax_in1_3 (i := 21) rfl rfl)
theorem jVX1_keeps : Cond.selects kX1_keeps.1.cls kX1_keeps.1 kX1_keeps.1 ∈ ax_tb := (ax_in1_3 (i := 22) rfl rfl)
theorem jX1_spotWhereKept : ax_J kX1_spotWhereKept 2 := ⟨(ax_in1_2 (i := 221) rfl rfl), (ax_in1_1 (i := 2) rfl rfl), ⟨by decide +kernel, by decide +kernel, by decide +kernel⟩, by decide +kernel, by decide⟩
theorem jIX1_spotWhereKept : Cond.instanceMethod kX1_spotWhereKept.1 ∈ ax_tb := (ax_in1_2 (i := 219) rfl rfl)
theorem jVX1_spotWhereKept : Cond.selects kX1_spotWhereKept.1.cls kX1_spotWhereKept.1 kX1_spotWhereKept.1 ∈ ax_tb := (ax_in1_2 (i := 220) rfl rfl)
theorem jX1_ranked : ax_J kX1_ranked 1 := ⟨(ax_in1_2 (i := 238) rfl rfl), (ax_in1_1 (i := 2) rfl rfl), ⟨by decide +kernel, by decide +kernel, by decide +kernel⟩, by decide +kernel, by decide⟩
theorem jIX1_ranked : Cond.instanceMethod kX1_ranked.1 ∈ ax_tb := (ax_in1_2 (i := 236) rfl rfl)
theorem jVX1_ranked : Cond.selects kX1_ranked.1.cls kX1_ranked.1 kX1_ranked.1 ∈ ax_tb := (ax_in1_2 (i := 237) rfl rfl)
theorem jX1_reachOf : ax_J kX1_reachOf 2 := ⟨(ax_in1_3 (i := 180) rfl rfl), (ax_in1_1 (i := 2) rfl rfl), ⟨by decide +kernel, by decide +kernel, by decide +kernel⟩, by decide +kernel, by decide⟩
theorem jIX1_reachOf : Cond.instanceMethod kX1_reachOf.1 ∈ ax_tb := (ax_in1_3 (i := 178) rfl rfl)
theorem jVX1_reachOf : Cond.selects kX1_reachOf.1.cls kX1_reachOf.1 kX1_reachOf.1 ∈ ax_tb := (ax_in1_3 (i := 179) rfl rfl)
theorem jX1_reach : ax_J kX1_reach 2 := ⟨(ax_in1_3 (i := 185) rfl rfl), (ax_in1_1 (i := 2) rfl rfl), ⟨by decide +kernel, by decide +kernel, by decide +kernel⟩, by decide +kernel, by decide⟩
theorem jIX1_reach : Cond.instanceMethod kX1_reach.1 ∈ ax_tb := (ax_in1_3 (i := 184) rfl rfl)
theorem jVX1_reach : Cond.selects kX1_reach.1.cls kX1_reach.1 kX1_reach.1 ∈ ax_tb := (ax_in0 (i := 14) rfl rfl)
theorem jX2_init : ax_J kX2_init 0 := ⟨(ax_in1_1 (i := 100) rfl rfl), (ax_in1_1 (i := 5) rfl rfl), ⟨by decide +kernel, by decide +kernel, by decide +kernel⟩, by decide +kernel, by decide⟩
theorem jIX2_init : Cond.instanceMethod kX2_init.1 ∈ ax_tb := (ax_in1_1 (i := 99) rfl rfl)
theorem jX2_behindSteps : ax_J kX2_behindSteps 4 := ⟨(ax_in1_3 (i := 43) rfl rfl), (ax_in1_1 (i := 5) rfl rfl), ⟨by decide +kernel, by decide +kernel, by decide +kernel⟩, by decide +kernel, by decide⟩
theorem jIX2_behindSteps : Cond.instanceMethod kX2_behindSteps.1 ∈ ax_tb := (ax_in1_3 (i := 41) rfl rfl)
theorem jVX2_behindSteps : Cond.selects kX2_behindSteps.1.cls kX2_behindSteps.1 kX2_behindSteps.1 ∈ ax_tb := (ax_in1_3 (i := 42) rfl rfl)
theorem jX2_swaps : ax_J kX2_swaps 4 := ⟨(ax_in1_3 (i := 64) rfl rfl), (ax_in1_1 (i := 5) rfl rfl), ⟨by decide +kernel, by decide +kernel, by decide +kernel⟩, by decide +kernel, by decide⟩
theorem jIX2_swaps : Cond.instanceMethod kX2_swaps.1 ∈ ax_tb := (ax_in1_3 (i := 63) rfl rfl)
theorem jVX2_swaps : Cond.selects kX2_swaps.1.cls kX2_swaps.1 kX2_swaps.1 ∈ ax_tb := (ax_in0 (i := 9) rfl rfl)
theorem jX2_readSquares : ax_J kX2_readSquares 1 := ⟨(ax_in1_3 (i := 68) rfl rfl), (ax_in1_1 (i := 5) rfl rfl), ⟨by decide +kernel, by decide +kernel, by decide +kernel⟩, by decide +kernel, by decide⟩
theorem jIX2_readSquares : Cond.instanceMethod kX2_readSquares.1 ∈ ax_tb := (ax_in1_3 (i := 67) rfl rfl)
theorem jVX2_readSquares : Cond.selects kX2_readSquares.1.cls kX2_readSquares.1 kX2_readSquares.1 ∈ ax_tb := (ax_in0 (i := 10) rfl rfl)
theorem jX2_readRow : ax_J kX2_readRow 5 := ⟨(ax_in1_3 (i := 83) rfl rfl), (ax_in1_1 (i := 5) rfl rfl), ⟨by decide +kernel, by decide +kernel, by decide +kernel⟩, by decide +kernel, by decide⟩
theorem jIX2_readRow : Cond.instanceMethod kX2_readRow.1 ∈ ax_tb := (ax_in1_3 (i := 82) rfl rfl)
theorem jVX2_readRow : Cond.selects kX2_readRow.1.cls kX2_readRow.1 kX2_readRow.1 ∈ ax_tb := (ax_in0 (i := 11) rfl rfl)
theorem jX2_readCross : ax_J kX2_readCross 3 := ⟨(ax_in1_3 (i := 92) rfl rfl), (ax_in1_1 (i := 5) rfl rfl), ⟨by decide +kernel, by decide +kernel, by decide +kernel⟩, by decide +kernel, by decide⟩
theorem jIX2_readCross : Cond.instanceMethod kX2_readCross.1 ∈ ax_tb := (ax_in1_3 (i := 91) rfl rfl)
theorem jVX2_readCross : Cond.selects kX2_readCross.1.cls kX2_readCross.1 kX2_readCross.1 ∈ ax_tb := (ax_in0 (i := 12) rfl rfl)
theorem jX2_commonFactor : ax_J kX2_commonFactor 0 := ⟨(ax_in1_3 (i := 100) rfl rfl), (ax_in1_1 (i := 5) rfl rfl), ⟨by decide +kernel, by decide +kernel, by decide +kernel⟩, by decide +kernel, by decide⟩
theorem jIX2_commonFactor : Cond.instanceMethod kX2_commonFactor.1 ∈ ax_tb := (ax_in1_3 (i := 99) rfl rfl)
theorem jVX2_commonFactor : Cond.selects kX2_commonFactor.1.cls kX2_commonFactor.1 kX2_commonFactor.1 ∈ ax_tb := (ax_in0 (i := 13) rfl rfl)
theorem jX3_init : ax_J kX3_init 0 := ⟨(ax_in1_1 (i := 106) rfl rfl), (ax_in1_1 (i := 6) rfl rfl), ⟨by decide +kernel, by decide +kernel, by decide +kernel⟩, by decide +kernel, by decide⟩
theorem jIX3_init : Cond.instanceMethod kX3_init.1 ∈ ax_tb := (ax_in1_1 (i := 105) rfl rfl)
theorem jX3_ofDegree : ax_J kX3_ofDegree 0 := ⟨(ax_in1_3 (i := 116) rfl rfl), (ax_in1_1 (i := 6) rfl rfl), ⟨by decide +kernel, by decide +kernel, by decide +kernel⟩, by decide +kernel, by decide⟩
theorem jIX3_ofDegree : Cond.instanceMethod kX3_ofDegree.1 ∈ ax_tb := (ax_in1_3 (i := 114) rfl rfl)
theorem jVX3_ofDegree : Cond.selects kX3_ofDegree.1.cls kX3_ofDegree.1 kX3_ofDegree.1 ∈ ax_tb := (ax_in1_3 (i := 115) rfl rfl)
theorem jX4_init : ax_J kX4_init 0 := ⟨(ax_in1_1 (i := 224) rfl rfl), (ax_in1_1 (i := 11) rfl rfl), ⟨by decide +kernel, by decide +kernel, by decide +kernel⟩, by decide +kernel, by decide⟩
theorem jIX4_init : Cond.instanceMethod kX4_init.1 ∈ ax_tb := (ax_in1_1 (i := 223) rfl rfl)
theorem jX4_isList : ax_J kX4_isList 1 := ⟨(ax_in1_4 (i := 31) rfl rfl), (ax_in1_1 (i := 11) rfl rfl), ⟨by decide +kernel, by decide +kernel, by decide +kernel⟩, by decide +kernel, by decide⟩
theorem jIX4_isList : Cond.instanceMethod kX4_isList.1 ∈ ax_tb := (ax_in1_4 (i := 29) rfl rfl)
theorem jVX4_isList : Cond.selects kX4_isList.1.cls kX4_isList.1 kX4_isList.1 ∈ ax_tb := (ax_in1_4 (i := 30) rfl rfl)
theorem jX4_sizeOf : ax_J kX4_sizeOf 1 := ⟨(ax_in1_4 (i := 35) rfl rfl), (ax_in1_1 (i := 11) rfl rfl), ⟨by decide +kernel, by decide +kernel, by decide +kernel⟩, by decide +kernel, by decide⟩
theorem jIX4_sizeOf : Cond.instanceMethod kX4_sizeOf.1 ∈ ax_tb := (ax_in1_4 (i := 33) rfl rfl)
theorem jVX4_sizeOf : Cond.selects kX4_sizeOf.1.cls kX4_sizeOf.1 kX4_sizeOf.1 ∈ ax_tb := (ax_in1_4 (i := 34) rfl rfl)
theorem jX4_hasPlace : ax_J kX4_hasPlace 2 := ⟨(ax_in1_4 (i := 45) rfl rfl), (ax_in1_1 (i := 11) rfl rfl), ⟨by decide +kernel, by decide +kernel, by decide +kernel⟩, by decide +kernel, by decide⟩
theorem jIX4_hasPlace : Cond.instanceMethod kX4_hasPlace.1 ∈ ax_tb := (ax_in1_4 (i := 43) rfl rfl)
theorem jVX4_hasPlace : Cond.selects kX4_hasPlace.1.cls kX4_hasPlace.1 kX4_hasPlace.1 ∈ ax_tb := (ax_in1_4 (i := 44) rfl rfl)
theorem jX4_numberAt : ax_J kX4_numberAt 2 := ⟨(ax_in1_4 (i := 41) rfl rfl), (ax_in1_1 (i := 11) rfl rfl), ⟨by decide +kernel, by decide +kernel, by decide +kernel⟩, by decide +kernel, by decide⟩
theorem jIX4_numberAt : Cond.instanceMethod kX4_numberAt.1 ∈ ax_tb := (ax_in1_4 (i := 39) rfl rfl)
theorem jVX4_numberAt : Cond.selects kX4_numberAt.1.cls kX4_numberAt.1 kX4_numberAt.1 ∈ ax_tb := (ax_in1_4 (i := 40) rfl rfl)
theorem jX4_change : ax_J kX4_change 3 := ⟨(ax_in1_4 (i := 63) rfl rfl), (ax_in1_1 (i := 11) rfl rfl), ⟨by decide +kernel, by decide +kernel, by decide +kernel⟩, by decide +kernel, by decide⟩
theorem jIX4_change : Cond.instanceMethod kX4_change.1 ∈ ax_tb := (ax_in1_4 (i := 61) rfl rfl)
theorem jVX4_change : Cond.selects kX4_change.1.cls kX4_change.1 kX4_change.1 ∈ ax_tb := (ax_in1_4 (i := 62) rfl rfl)
theorem jX4_renew : ax_J kX4_renew 2 := ⟨(ax_in1_4 (i := 54) rfl rfl), (ax_in1_1 (i := 11) rfl rfl), ⟨by decide +kernel, by decide +kernel, by decide +kernel⟩, by decide +kernel, by decide⟩
theorem jIX4_renew : Cond.instanceMethod kX4_renew.1 ∈ ax_tb := (ax_in1_4 (i := 52) rfl rfl)
theorem jVX4_renew : Cond.selects kX4_renew.1.cls kX4_renew.1 kX4_renew.1 ∈ ax_tb := (ax_in1_4 (i := 53) rfl rfl)
theorem jX5_init : ax_J kX5_init 0 := ⟨(ax_in1_1 (i := 78) rfl rfl), (ax_in1_1 (i := 4) rfl rfl), ⟨by decide +kernel, by decide +kernel, by decide +kernel⟩, by decide +kernel, by decide⟩
theorem jIX5_init : Cond.instanceMethod kX5_init.1 ∈ ax_tb := (ax_in1_1 (i := 77) rfl rfl)
theorem jX5_learn : ax_J kX5_learn 1 := ⟨(ax_in1_3 (i := 6) rfl rfl), (ax_in1_1 (i := 4) rfl rfl), ⟨by decide +kernel, by decide +kernel, by decide +kernel⟩, by decide +kernel, by decide⟩
theorem jIX5_learn : Cond.instanceMethod kX5_learn.1 ∈ ax_tb := (ax_in1_3 (i := 4) rfl rfl)
theorem jVX5_learn : Cond.selects kX5_learn.1.cls kX5_learn.1 kX5_learn.1 ∈ ax_tb := (ax_in1_3 (i := 5) rfl rfl)
theorem jX5_isUnmarked : ax_J kX5_isUnmarked 1 := ⟨(ax_in1_3 (i := 10) rfl rfl), (ax_in1_1 (i := 4) rfl rfl), ⟨by decide +kernel, by decide +kernel, by decide +kernel⟩, by decide +kernel, by decide⟩
theorem jIX5_isUnmarked : Cond.instanceMethod kX5_isUnmarked.1 ∈ ax_tb := (ax_in1_3 (i := 9) rfl rfl)
theorem jVX5_isUnmarked : Cond.selects kX5_isUnmarked.1.cls kX5_isUnmarked.1 kX5_isUnmarked.1 ∈ ax_tb := (ax_in0 (i := 5) rfl rfl)
theorem jX5_goRound : ax_J kX5_goRound 2 := ⟨(ax_in1_3 (i := 15) rfl rfl), (ax_in1_1 (i := 4) rfl rfl), ⟨by decide +kernel, by decide +kernel, by decide +kernel⟩, by decide +kernel, by decide⟩
theorem jIX5_goRound : Cond.instanceMethod kX5_goRound.1 ∈ ax_tb := (ax_in1_3 (i := 14) rfl rfl)
theorem jVX5_goRound : Cond.selects kX5_goRound.1.cls kX5_goRound.1 kX5_goRound.1 ∈ ax_tb := (ax_in0 (i := 6) rfl rfl)
theorem jX5_countThrough : ax_J kX5_countThrough 2 := ⟨(ax_in1_3 (i := 19) rfl rfl), (ax_in1_1 (i := 4) rfl rfl), ⟨by decide +kernel, by decide +kernel, by decide +kernel⟩, by decide +kernel, by decide⟩
theorem jIX5_countThrough : Cond.instanceMethod kX5_countThrough.1 ∈ ax_tb := (ax_in1_3 (i := 17) rfl rfl)
theorem jVX5_countThrough : Cond.selects kX5_countThrough.1.cls kX5_countThrough.1 kX5_countThrough.1 ∈ ax_tb := (ax_in1_3 (i := 18) rfl rfl)
theorem jX5_tallyOne : ax_J kX5_tallyOne 1 := ⟨(ax_in1_3 (i := 27) rfl rfl), (ax_in1_1 (i := 4) rfl rfl), ⟨by decide +kernel, by decide +kernel, by decide +kernel⟩, by decide +kernel, by decide⟩
theorem jIX5_tallyOne : Cond.instanceMethod kX5_tallyOne.1 ∈ ax_tb := (ax_in1_3 (i := 26) rfl rfl)
theorem jVX5_tallyOne : Cond.selects kX5_tallyOne.1.cls kX5_tallyOne.1 kX5_tallyOne.1 ∈ ax_tb := (ax_in0 (i := 7) rfl rfl)
theorem jX5_total : ax_J kX5_total 1 := ⟨(ax_in1_3 (i := 31) rfl rfl), (ax_in1_1 (i := 4) rfl rfl), ⟨by decide +kernel, by decide +kernel, by decide +kernel⟩, by decide +kernel, by decide⟩
theorem jIX5_total : Cond.instanceMethod kX5_total.1 ∈ ax_tb := (ax_in1_3 (i := 29) rfl rfl)
theorem jVX5_total : Cond.selects kX5_total.1.cls kX5_total.1 kX5_total.1 ∈ ax_tb := (ax_in1_3 (i := 30) rfl rfl)
theorem jX5_ofLength : ax_J kX5_ofLength 1 := ⟨(ax_in1_3 (i := 35) rfl rfl), (ax_in1_1 (i := 4) rfl rfl), ⟨by decide +kernel, by decide +kernel, by decide +kernel⟩, by decide +kernel, by decide⟩
theorem jIX5_ofLength : Cond.instanceMethod kX5_ofLength.1 ∈ ax_tb := (ax_in1_3 (i := 33) rfl rfl)
theorem jVX5_ofLength : Cond.selects kX5_ofLength.1.cls kX5_ofLength.1 kX5_ofLength.1 ∈ ax_tb := (ax_in1_3 (i := 34) rfl rfl)
theorem jX6_init : ax_J kX6_init 0 := ⟨(ax_in1_1 (i := 193) rfl rfl), (ax_in1_1 (i := 9) rfl rfl), ⟨by decide +kernel, by decide +kernel, by decide +kernel⟩, by decide +kernel, by decide⟩
theorem jIX6_init : Cond.instanceMethod kX6_init.1 ∈ ax_tb := (ax_in1_1 (i := 192) rfl rfl)
theorem jX6_isFull : ax_J kX6_isFull 0 := ⟨(ax_in1_3 (i := 221) rfl rfl), (ax_in1_1 (i := 9) rfl rfl), ⟨by decide +kernel, by decide +kernel, by decide +kernel⟩, by decide +kernel, by decide⟩
theorem jIX6_isFull : Cond.instanceMethod kX6_isFull.1 ∈ ax_tb := (ax_in1_3 (i := 219) rfl rfl)
theorem jVX6_isFull : Cond.selects kX6_isFull.1.cls kX6_isFull.1 kX6_isFull.1 ∈ ax_tb := (ax_in1_3 (i := 220) rfl rfl)
theorem jX6_takes : ax_J kX6_takes 2 := ⟨(ax_in1_3 (i := 217) rfl rfl), (ax_in1_1 (i := 9) rfl rfl), ⟨by decide +kernel, by decide +kernel, by decide +kernel⟩, by decide +kernel, by decide⟩
theorem jIX6_takes : Cond.instanceMethod kX6_takes.1 ∈ ax_tb := (ax_in1_3 (i := 215) rfl rfl)
theorem jVX6_takes : Cond.selects kX6_takes.1.cls kX6_takes.1 kX6_takes.1 ∈ ax_tb := (ax_in1_3 (i := 216) rfl rfl)
theorem jX6_add : ax_J kX6_add 2 := ⟨(ax_in1_3 (i := 225) rfl rfl), (ax_in1_1 (i := 9) rfl rfl), ⟨by decide +kernel, by decide +kernel, by decide +kernel⟩, by decide +kernel, by decide⟩
theorem jIX6_add : Cond.instanceMethod kX6_add.1 ∈ ax_tb := (ax_in1_3 (i := 223) rfl rfl)
theorem jVX6_add : Cond.selects kX6_add.1.cls kX6_add.1 kX6_add.1 ∈ ax_tb := (ax_in1_3 (i := 224) rfl rfl)
theorem jX6_copyFrom : ax_J kX6_copyFrom 1 := ⟨(ax_in1_4 (i := 80) rfl rfl), (ax_in1_1 (i := 9) rfl rfl), ⟨by decide +kernel, by decide +kernel, by decide +kernel⟩, by decide +kernel, by decide⟩
theorem jIX6_copyFrom : Cond.instanceMethod kX6_copyFrom.1 ∈ ax_tb := (ax_in1_4 (i := 78) rfl rfl)
theorem jVX6_copyFrom : Cond.selects kX6_copyFrom.1.cls kX6_copyFrom.1 kX6_copyFrom.1 ∈ ax_tb := (ax_in1_4 (i := 79) rfl rfl)
theorem jX6_endOf : ax_J kX6_endOf 2 := ⟨(ax_in1_3 (i := 233) rfl rfl), (ax_in1_1 (i := 9) rfl rfl), ⟨by decide +kernel, by decide +kernel, by decide +kernel⟩, by decide +kernel, by decide⟩
theorem jIX6_endOf : Cond.instanceMethod kX6_endOf.1 ∈ ax_tb := (ax_in1_3 (i := 231) rfl rfl)
theorem jVX6_endOf : Cond.selects kX6_endOf.1.cls kX6_endOf.1 kX6_endOf.1 ∈ ax_tb := (ax_in1_3 (i := 232) rfl rfl)
theorem jX6_swappedIfItGoes : ax_J kX6_swappedIfItGoes 3 := ⟨(ax_in1_3 (i := 237) rfl rfl), (ax_in1_1 (i := 9) rfl rfl), ⟨by decide +kernel, by decide +kernel, by decide +kernel⟩, by decide +kernel, by decide⟩
theorem jIX6_swappedIfItGoes : Cond.instanceMethod kX6_swappedIfItGoes.1 ∈ ax_tb := (ax_in1_3 (i := 236) rfl rfl)
theorem jVX6_swappedIfItGoes : Cond.selects kX6_swappedIfItGoes.1.cls kX6_swappedIfItGoes.1 kX6_swappedIfItGoes.1 ∈ ax_tb := (ax_in0 (i := 15) rfl rfl)
theorem jX6_steppedAsFarAsItGoes : ax_J kX6_steppedAsFarAsItGoes 4 := ⟨(ax_in1_4 (i := 2) rfl rfl), (ax_in1_1 (i := 9) rfl rfl), ⟨by decide +kernel, by decide +kernel, by decide +kernel⟩, by decide +kernel, by decide⟩
theorem jIX6_steppedAsFarAsItGoes : Cond.instanceMethod kX6_steppedAsFarAsItGoes.1 ∈ ax_tb := (ax_in1_4 (i := 1) rfl rfl)
theorem jVX6_steppedAsFarAsItGoes : Cond.selects kX6_steppedAsFarAsItGoes.1.cls kX6_steppedAsFarAsItGoes.1 kX6_steppedAsFarAsItGoes.1 ∈ ax_tb := (ax_in0 (i := 16) rfl rfl)
theorem jX7_init : ax_J kX7_init 0 := ⟨(ax_in1_1 (i := 112) rfl rfl), (ax_in1_1 (i := 7) rfl rfl), ⟨by decide +kernel, by decide +kernel, by decide +kernel⟩, by decide +kernel, by decide⟩
theorem jIX7_init : Cond.instanceMethod kX7_init.1 ∈ ax_tb := (ax_in1_1 (i := 111) rfl rfl)
theorem jX7_isZero : ax_J kX7_isZero 0 := ⟨(ax_in1_3 (i := 96) rfl rfl), (ax_in1_1 (i := 7) rfl rfl), ⟨by decide +kernel, by decide +kernel, by decide +kernel⟩, by decide +kernel, by decide⟩
theorem jIX7_isZero : Cond.instanceMethod kX7_isZero.1 ∈ ax_tb := (ax_in1_3 (i := 94) rfl rfl)
theorem jVX7_isZero : Cond.selects kX7_isZero.1.cls kX7_isZero.1 kX7_isZero.1 ∈ ax_tb := (ax_in1_3 (i := 95) rfl rfl)
theorem jX7_clear : ax_J kX7_clear 0 := ⟨(ax_in1_3 (i := 51) rfl rfl), (ax_in1_1 (i := 7) rfl rfl), ⟨by decide +kernel, by decide +kernel, by decide +kernel⟩, by decide +kernel, by decide⟩
theorem jIX7_clear : Cond.instanceMethod kX7_clear.1 ∈ ax_tb := (ax_in1_3 (i := 49) rfl rfl)
theorem jVX7_clear : Cond.selects kX7_clear.1.cls kX7_clear.1 kX7_clear.1 ∈ ax_tb := (ax_in1_3 (i := 50) rfl rfl)
theorem jX7_becomeNumber : ax_J kX7_becomeNumber 1 := ⟨(ax_in1_3 (i := 55) rfl rfl), (ax_in1_1 (i := 7) rfl rfl), ⟨by decide +kernel, by decide +kernel, by decide +kernel⟩, by decide +kernel, by decide⟩
theorem jIX7_becomeNumber : Cond.instanceMethod kX7_becomeNumber.1 ∈ ax_tb := (ax_in1_3 (i := 53) rfl rfl)
theorem jVX7_becomeNumber : Cond.selects kX7_becomeNumber.1.cls kX7_becomeNumber.1 kX7_becomeNumber.1 ∈ ax_tb := (ax_in1_3 (i := 54) rfl rfl)
theorem jX7_becomeUnknown : ax_J kX7_becomeUnknown 0 := ⟨(ax_in1_3 (i := 47) rfl rfl), (ax_in1_1 (i := 7) rfl rfl), ⟨by decide +kernel, by decide +kernel, by decide +kernel⟩, by decide +kernel, by decide⟩
theorem jIX7_becomeUnknown : Cond.instanceMethod kX7_becomeUnknown.1 ∈ ax_tb := (ax_in1_3 (i := 45) rfl rfl)
theorem jVX7_becomeUnknown : Cond.selects kX7_becomeUnknown.1.cls kX7_becomeUnknown.1 kX7_becomeUnknown.1 ∈ ax_tb := (ax_in1_3 (i := 46) rfl rfl)
theorem jX7_copyFrom : ax_J kX7_copyFrom 1 := ⟨(ax_in1_3 (i := 104) rfl rfl), (ax_in1_1 (i := 7) rfl rfl), ⟨by decide +kernel, by decide +kernel, by decide +kernel⟩, by decide +kernel, by decide⟩
theorem jIX7_copyFrom : Cond.instanceMethod kX7_copyFrom.1 ∈ ax_tb := (ax_in1_3 (i := 102) rfl rfl)
theorem jVX7_copyFrom : Cond.selects kX7_copyFrom.1.cls kX7_copyFrom.1 kX7_copyFrom.1 ∈ ax_tb := (ax_in1_3 (i := 103) rfl rfl)
theorem jX7_trim : ax_J kX7_trim 1 := ⟨(ax_in1_3 (i := 60) rfl rfl), (ax_in1_1 (i := 7) rfl rfl), ⟨by decide +kernel, by decide +kernel, by decide +kernel⟩, by decide +kernel, by decide⟩
theorem jIX7_trim : Cond.instanceMethod kX7_trim.1 ∈ ax_tb := (ax_in1_3 (i := 59) rfl rfl)
theorem jVX7_trim : Cond.selects kX7_trim.1.cls kX7_trim.1 kX7_trim.1 ∈ ax_tb := (ax_in0 (i := 8) rfl rfl)
theorem jX7_addTimes : ax_J kX7_addTimes 2 := ⟨(ax_in1_3 (i := 88) rfl rfl), (ax_in1_1 (i := 7) rfl rfl), ⟨by decide +kernel, by decide +kernel, by decide +kernel⟩, by decide +kernel, by decide⟩
theorem jIX7_addTimes : Cond.instanceMethod kX7_addTimes.1 ∈ ax_tb := (ax_in1_3 (i := 86) rfl rfl)
theorem jVX7_addTimes : Cond.selects kX7_addTimes.1.cls kX7_addTimes.1 kX7_addTimes.1 ∈ ax_tb := (ax_in1_3 (i := 87) rfl rfl)
theorem jX7_addProduct : ax_J kX7_addProduct 3 := ⟨(ax_in1_3 (i := 73) rfl rfl), (ax_in1_1 (i := 7) rfl rfl), ⟨by decide +kernel, by decide +kernel, by decide +kernel⟩, by decide +kernel, by decide⟩
theorem jIX7_addProduct : Cond.instanceMethod kX7_addProduct.1 ∈ ax_tb := (ax_in1_3 (i := 71) rfl rfl)
theorem jVX7_addProduct : Cond.selects kX7_addProduct.1.cls kX7_addProduct.1 kX7_addProduct.1 ∈ ax_tb := (ax_in1_3 (i := 72) rfl rfl)
theorem jX7_divide : ax_J kX7_divide 2 := ⟨(ax_in1_3 (i := 111) rfl rfl), (ax_in1_1 (i := 7) rfl rfl), ⟨by decide +kernel, by decide +kernel, by decide +kernel⟩, by decide +kernel, by decide⟩
theorem jIX7_divide : Cond.instanceMethod kX7_divide.1 ∈ ax_tb := (ax_in1_3 (i := 109) rfl rfl)
theorem jVX7_divide : Cond.selects kX7_divide.1.cls kX7_divide.1 kX7_divide.1 ∈ ax_tb := (ax_in1_3 (i := 110) rfl rfl)
theorem jX8_init : ax_J kX8_init 0 := ⟨(ax_in1_1 (i := 178) rfl rfl), (ax_in1_1 (i := 8) rfl rfl), ⟨by decide +kernel, by decide +kernel, by decide +kernel⟩, by decide +kernel, by decide⟩
theorem jIX8_init : Cond.instanceMethod kX8_init.1 ∈ ax_tb := (ax_in1_1 (i := 177) rfl rfl)
theorem jX8_isFull : ax_J kX8_isFull 0 := ⟨(ax_in1_3 (i := 130) rfl rfl), (ax_in1_1 (i := 8) rfl rfl), ⟨by decide +kernel, by decide +kernel, by decide +kernel⟩, by decide +kernel, by decide⟩
theorem jIX8_isFull : Cond.instanceMethod kX8_isFull.1 ∈ ax_tb := (ax_in1_3 (i := 128) rfl rfl)
theorem jVX8_isFull : Cond.selects kX8_isFull.1.cls kX8_isFull.1 kX8_isFull.1 ∈ ax_tb := (ax_in1_3 (i := 129) rfl rfl)
theorem jX8_holds : ax_J kX8_holds 1 := ⟨(ax_in1_3 (i := 126) rfl rfl), (ax_in1_1 (i := 8) rfl rfl), ⟨by decide +kernel, by decide +kernel, by decide +kernel⟩, by decide +kernel, by decide⟩
theorem jIX8_holds : Cond.instanceMethod kX8_holds.1 ∈ ax_tb := (ax_in1_3 (i := 124) rfl rfl)
theorem jVX8_holds : Cond.selects kX8_holds.1.cls kX8_holds.1 kX8_holds.1 ∈ ax_tb := (ax_in1_3 (i := 125) rfl rfl)
theorem jX8_spotAt : ax_J kX8_spotAt 1 := ⟨(ax_in1_3 (i := 152) rfl rfl), (ax_in1_1 (i := 8) rfl rfl), ⟨by decide +kernel, by decide +kernel, by decide +kernel⟩, by decide +kernel, by decide⟩
theorem jIX8_spotAt : Cond.instanceMethod kX8_spotAt.1 ∈ ax_tb := (ax_in1_3 (i := 150) rfl rfl)
theorem jVX8_spotAt : Cond.selects kX8_spotAt.1.cls kX8_spotAt.1 kX8_spotAt.1 ∈ ax_tb := (ax_in1_3 (i := 151) rfl rfl)
theorem jX8_add : ax_J kX8_add 1 := ⟨(ax_in1_3 (i := 134) rfl rfl), (ax_in1_1 (i := 8) rfl rfl), ⟨by decide +kernel, by decide +kernel, by decide +kernel⟩, by decide +kernel, by decide⟩
theorem jIX8_add : Cond.instanceMethod kX8_add.1 ∈ ax_tb := (ax_in1_3 (i := 132) rfl rfl)
theorem jVX8_add : Cond.selects kX8_add.1.cls kX8_add.1 kX8_add.1 ∈ ax_tb := (ax_in1_3 (i := 133) rfl rfl)
theorem jX8_remove : ax_J kX8_remove 1 := ⟨(ax_in1_3 (i := 144) rfl rfl), (ax_in1_1 (i := 8) rfl rfl), ⟨by decide +kernel, by decide +kernel, by decide +kernel⟩, by decide +kernel, by decide⟩
theorem jIX8_remove : Cond.instanceMethod kX8_remove.1 ∈ ax_tb := (ax_in1_3 (i := 142) rfl rfl)
theorem jVX8_remove : Cond.selects kX8_remove.1.cls kX8_remove.1 kX8_remove.1 ∈ ax_tb := (ax_in1_3 (i := 143) rfl rfl)
theorem jX8_copyFrom : ax_J kX8_copyFrom 1 := ⟨(ax_in1_3 (i := 171) rfl rfl), (ax_in1_1 (i := 8) rfl rfl), ⟨by decide +kernel, by decide +kernel, by decide +kernel⟩, by decide +kernel, by decide⟩
theorem jIX8_copyFrom : Cond.instanceMethod kX8_copyFrom.1 ∈ ax_tb := (ax_in1_3 (i := 169) rfl rfl)
theorem jVX8_copyFrom : Cond.selects kX8_copyFrom.1.cls kX8_copyFrom.1 kX8_copyFrom.1 ∈ ax_tb := (ax_in1_3 (i := 170) rfl rfl)
theorem jX8_becomeSteps : ax_J kX8_becomeSteps 2 := ⟨(ax_in1_3 (i := 160) rfl rfl), (ax_in1_1 (i := 8) rfl rfl), ⟨by decide +kernel, by decide +kernel, by decide +kernel⟩, by decide +kernel, by decide⟩
theorem jIX8_becomeSteps : Cond.instanceMethod kX8_becomeSteps.1 ∈ ax_tb := (ax_in1_3 (i := 158) rfl rfl)
theorem jVX8_becomeSteps : Cond.selects kX8_becomeSteps.1.cls kX8_becomeSteps.1 kX8_becomeSteps.1 ∈ ax_tb := (ax_in1_3 (i := 159) rfl rfl)
theorem jX9_init : ax_J kX9_init 0 := ⟨(ax_in1_1 (i := 33) rfl rfl), (ax_in1_1 (i := 3) rfl rfl), ⟨by decide +kernel, by decide +kernel, by decide +kernel⟩, by decide +kernel, by decide⟩
theorem jIX9_init : Cond.instanceMethod kX9_init.1 ∈ ax_tb := (ax_in1_1 (i := 32) rfl rfl)
theorem jX9_numberAt : ax_J kX9_numberAt 3 := ⟨(ax_in1_2 (i := 54) rfl rfl), (ax_in1_1 (i := 3) rfl rfl), ⟨by decide +kernel, by decide +kernel, by decide +kernel⟩, by decide +kernel, by decide⟩
theorem jIX9_numberAt : Cond.instanceMethod kX9_numberAt.1 ∈ ax_tb := (ax_in1_2 (i := 52) rfl rfl)
theorem jVX9_numberAt : Cond.selects kX9_numberAt.1.cls kX9_numberAt.1 kX9_numberAt.1 ∈ ax_tb := (ax_in1_2 (i := 53) rfl rfl)
theorem jX9_change : ax_J kX9_change 4 := ⟨(ax_in1_2 (i := 62) rfl rfl), (ax_in1_1 (i := 3) rfl rfl), ⟨by decide +kernel, by decide +kernel, by decide +kernel⟩, by decide +kernel, by decide⟩
theorem jIX9_change : Cond.instanceMethod kX9_change.1 ∈ ax_tb := (ax_in1_2 (i := 60) rfl rfl)
theorem jVX9_change : Cond.selects kX9_change.1.cls kX9_change.1 kX9_change.1 ∈ ax_tb := (ax_in1_2 (i := 61) rfl rfl)
theorem jX9_copyFrom : ax_J kX9_copyFrom 1 := ⟨(ax_in1_4 (i := 75) rfl rfl), (ax_in1_1 (i := 3) rfl rfl), ⟨by decide +kernel, by decide +kernel, by decide +kernel⟩, by decide +kernel, by decide⟩
theorem jIX9_copyFrom : Cond.instanceMethod kX9_copyFrom.1 ∈ ax_tb := (ax_in1_4 (i := 73) rfl rfl)
theorem jVX9_copyFrom : Cond.selects kX9_copyFrom.1.cls kX9_copyFrom.1 kX9_copyFrom.1 ∈ ax_tb := (ax_in1_4 (i := 74) rfl rfl)
theorem jX9_notZero : ax_J kX9_notZero 0 := ⟨(ax_in1_4 (i := 98) rfl rfl), (ax_in1_1 (i := 3) rfl rfl), ⟨by decide +kernel, by decide +kernel, by decide +kernel⟩, by decide +kernel, by decide⟩
theorem jIX9_notZero : Cond.instanceMethod kX9_notZero.1 ∈ ax_tb := (ax_in1_4 (i := 96) rfl rfl)
theorem jVX9_notZero : Cond.selects kX9_notZero.1.cls kX9_notZero.1 kX9_notZero.1 ∈ ax_tb := (ax_in1_4 (i := 97) rfl rfl)
theorem jX9_numberAlong : ax_J kX9_numberAlong 4 := ⟨(ax_in1_2 (i := 125) rfl rfl), (ax_in1_1 (i := 3) rfl rfl), ⟨by decide +kernel, by decide +kernel, by decide +kernel⟩, by decide +kernel, by decide⟩
theorem jIX9_numberAlong : Cond.instanceMethod kX9_numberAlong.1 ∈ ax_tb := (ax_in1_2 (i := 123) rfl rfl)
theorem jVX9_numberAlong : Cond.selects kX9_numberAlong.1.cls kX9_numberAlong.1 kX9_numberAlong.1 ∈ ax_tb := (ax_in1_2 (i := 124) rfl rfl)
theorem jX9_sumAt : ax_J kX9_sumAt 4 := ⟨(ax_in1_2 (i := 121) rfl rfl), (ax_in1_1 (i := 3) rfl rfl), ⟨by decide +kernel, by decide +kernel, by decide +kernel⟩, by decide +kernel, by decide⟩
theorem jIX9_sumAt : Cond.instanceMethod kX9_sumAt.1 ∈ ax_tb := (ax_in1_2 (i := 119) rfl rfl)
theorem jVX9_sumAt : Cond.selects kX9_sumAt.1.cls kX9_sumAt.1 kX9_sumAt.1 ∈ ax_tb := (ax_in1_2 (i := 120) rfl rfl)
theorem jX9_valueAt : ax_J kX9_valueAt 3 := ⟨(ax_in1_2 (i := 117) rfl rfl), (ax_in1_1 (i := 3) rfl rfl), ⟨by decide +kernel, by decide +kernel, by decide +kernel⟩, by decide +kernel, by decide⟩
theorem jIX9_valueAt : Cond.instanceMethod kX9_valueAt.1 ∈ ax_tb := (ax_in1_2 (i := 115) rfl rfl)
theorem jVX9_valueAt : Cond.selects kX9_valueAt.1.cls kX9_valueAt.1 kX9_valueAt.1 ∈ ax_tb := (ax_in1_2 (i := 116) rfl rfl)
theorem jX9_quotientAt : ax_J kX9_quotientAt 2 := ⟨(ax_in1_2 (i := 136) rfl rfl), (ax_in1_1 (i := 3) rfl rfl), ⟨by decide +kernel, by decide +kernel, by decide +kernel⟩, by decide +kernel, by decide⟩
theorem jIX9_quotientAt : Cond.instanceMethod kX9_quotientAt.1 ∈ ax_tb := (ax_in1_2 (i := 134) rfl rfl)
theorem jVX9_quotientAt : Cond.selects kX9_quotientAt.1.cls kX9_quotientAt.1 kX9_quotientAt.1 ∈ ax_tb := (ax_in1_2 (i := 135) rfl rfl)
theorem jX9_numbersKeeping : ax_J kX9_numbersKeeping 6 := ⟨(ax_in1_3 (i := 193) rfl rfl), (ax_in1_1 (i := 3) rfl rfl), ⟨by decide +kernel, by decide +kernel, by decide +kernel⟩, by decide +kernel, by decide⟩
theorem jIX9_numbersKeeping : Cond.instanceMethod kX9_numbersKeeping.1 ∈ ax_tb := (ax_in1_3 (i := 191) rfl rfl)
theorem jVX9_numbersKeeping : Cond.selects kX9_numbersKeeping.1.cls kX9_numbersKeeping.1 kX9_numbersKeeping.1 ∈ ax_tb := (ax_in1_3 (i := 192) rfl rfl)
theorem jJ9_floorMod_7cf53 : ax_J kJ9_floorMod_7cf53 2 := ⟨(ax_in1_2 (i := 99) rfl rfl), (ax_in1_1 (i := 13) rfl rfl), ⟨by decide +kernel, by decide +kernel, by decide +kernel⟩, by decide +kernel, by decide⟩
theorem jSJ9_floorMod_7cf53 : Cond.static kJ9_floorMod_7cf53.1 ∈ ax_tb := (ax_in1_2 (i := 98) rfl rfl)
theorem jJ9_max_7cf53 : ax_J kJ9_max_7cf53 2 := ⟨(ax_in1_3 (i := 76) rfl rfl), (ax_in1_1 (i := 13) rfl rfl), ⟨by decide +kernel, by decide +kernel, by decide +kernel⟩, by decide +kernel, by decide⟩
theorem jSJ9_max_7cf53 : Cond.static kJ9_max_7cf53.1 ∈ ax_tb := (ax_in1_3 (i := 75) rfl rfl)
theorem jJ9_min_7cf53 : ax_J kJ9_min_7cf53 2 := ⟨(ax_in1_3 (i := 79) rfl rfl), (ax_in1_1 (i := 13) rfl rfl), ⟨by decide +kernel, by decide +kernel, by decide +kernel⟩, by decide +kernel, by decide⟩
theorem jSJ9_min_7cf53 : Cond.static kJ9_min_7cf53.1 ∈ ax_tb := (ax_in1_3 (i := 78) rfl rfl)
end
section
/-! methods over the shape S0, by what they answer; n: the depth of calls -/
def RI (n : Nat) (k : ax_K) (pc : Nat) (ls : ax_L) (I : ax_H) (Q : Int → ax_H → Prop) : Prop := Rn (n, 0, 0, none) k pc ls [] S0 I (fun v S' I' => S' = S0 ∧ ∃ x, v = some (ax_i x) ∧ Q x I')
def RJ (n : Nat) (k : ax_K) (pc : Nat) (ls : ax_L) (I : ax_H) (Q : Int → ax_H → Prop) : Prop := Rn (n, 0, 0, none) k pc ls [] S0 I (fun v S' I' => S' = S0 ∧ ∃ x, v = some (ax_l x) ∧ Q x I')
def RA (n : Nat) (k : ax_K) (pc : Nat) (ls : ax_L) (I : ax_H) (Q : Nat → ax_H → Prop) : Prop := Rn (n, 0, 0, none) k pc ls [] S0 I (fun v S' I' => S' = S0 ∧ ∃ x, v = some (ax_r x) ∧ Q x I')
def RV (n : Nat) (k : ax_K) (pc : Nat) (ls : ax_L) (I : ax_H) (Q : ax_H → Prop) : Prop := Rn (n, 0, 0, none) k pc ls [] S0 I (fun v S' I' => S' = S0 ∧ v = none ∧ Q I')
abbrev cI (n : Nat) (k : ax_K) (as : List ax_V) (I : ax_H) (Q : Int → ax_H → Prop) : Prop := RI n k 0 (ax_pad k.2.2.1 (ax_ent as)) I Q
abbrev cJ (n : Nat) (k : ax_K) (as : List ax_V) (I : ax_H) (Q : Int → ax_H → Prop) : Prop := RJ n k 0 (ax_pad k.2.2.1 (ax_ent as)) I Q
abbrev cA (n : Nat) (k : ax_K) (as : List ax_V) (I : ax_H) (Q : Nat → ax_H → Prop) : Prop := RA n k 0 (ax_pad k.2.2.1 (ax_ent as)) I Q
abbrev cV (n : Nat) (k : ax_K) (as : List ax_V) (I : ax_H) (Q : ax_H → Prop) : Prop := RV n k 0 (ax_pad k.2.2.1 (ax_ent as)) I Q
section
variable {dd : ax_D} {k j : ax_K} {pc idx n d : Nat} {ls : ax_L} {as st st0 : List ax_V} {I : ax_H} {Q : Option ax_V → ax_Sh → ax_H → Prop}
theorem r_cI {Q1 : Int → ax_H → Prop} (how : ax_how k j idx as n S0 (fun _ _ => True) pc) (hst : st0 = as.reverse ++ st) (hd1 : d + 1 ≤ dd.1) (hen : (ax_ent as).length ≤ j.2.2.1) (hrest : ∀ ad : Nat → Nat, ((st.map (ax_tr ad)).map fun v => v.category).sum ≤ 8) (K : cI d j as I Q1)
    (K2 : ∀ r I1, Q1 r I1 → Rn dd k (pc + 3) ls (ax_i r :: st) S0 I1 Q) : Rn dd k pc ls st0 S0 I Q :=
  r_call how hst hd1 hen hrest K (fun v S' I' h => by obtain ⟨rfl, r, rfl, h⟩ := h; exact ⟨rfl, K2 r I' h⟩)
theorem r_cJ {Q1 : Int → ax_H → Prop} (how : ax_how k j idx as n S0 (fun _ _ => True) pc) (hst : st0 = as.reverse ++ st) (hd1 : d + 1 ≤ dd.1) (hen : (ax_ent as).length ≤ j.2.2.1) (hrest : ∀ ad : Nat → Nat, ((st.map (ax_tr ad)).map fun v => v.category).sum ≤ 8) (K : cJ d j as I Q1)
    (K2 : ∀ r I1, Q1 r I1 → Rn dd k (pc + 3) ls (ax_l r :: st) S0 I1 Q) : Rn dd k pc ls st0 S0 I Q :=
  r_call how hst hd1 hen hrest K (fun v S' I' h => by obtain ⟨rfl, r, rfl, h⟩ := h; exact ⟨rfl, K2 r I' h⟩)
theorem r_cA {Q1 : Nat → ax_H → Prop} (how : ax_how k j idx as n S0 (fun _ _ => True) pc) (hst : st0 = as.reverse ++ st) (hd1 : d + 1 ≤ dd.1) (hen : (ax_ent as).length ≤ j.2.2.1) (hrest : ∀ ad : Nat → Nat, ((st.map (ax_tr ad)).map fun v => v.category).sum ≤ 8) (K : cA d j as I Q1)
    (K2 : ∀ r I1, Q1 r I1 → Rn dd k (pc + 3) ls (ax_r r :: st) S0 I1 Q) : Rn dd k pc ls st0 S0 I Q :=
  r_call how hst hd1 hen hrest K (fun v S' I' h => by obtain ⟨rfl, r, rfl, h⟩ := h; exact ⟨rfl, K2 r I' h⟩)
theorem r_cV {Q1 : ax_H → Prop} (how : ax_how k j idx as n S0 (fun _ _ => True) pc) (hst : st0 = as.reverse ++ st) (hd1 : d + 1 ≤ dd.1) (hen : (ax_ent as).length ≤ j.2.2.1) (hrest : ∀ ad : Nat → Nat, ((st.map (ax_tr ad)).map fun v => v.category).sum ≤ 8) (K : cV d j as I Q1)
    (K2 : ∀ I1, Q1 I1 → Rn dd k (pc + 3) ls st S0 I1 Q) : Rn dd k pc ls st0 S0 I Q :=
  r_call how hst hd1 hen hrest K (fun v S' I' h => by obtain ⟨rfl, rfl, h⟩ := h; exact ⟨rfl, K2 I' h⟩)
end
theorem how_V {k j : ax_K} {pc idx n b ci : Nat} {as' : List ax_V} {S : ax_Sh} {q : vw_C} {rs : List (Option Nat)} (hj : ax_J j n) (h1 : Cond.instanceMethod j.1 ∈ ax_tb) (h2 : Cond.selects j.1.cls j.1 j.1 ∈ ax_tb) (hn : as'.length = n) (hS : S[b]? = some (ci, q.2.2, rs)) (hci : ci < 100) (hq : vwCl[ci]? = some q) (hqc : q.1 = j.1.cls) (hw : Cond.methodLink k.1.cls idx j.1 ∈ ax_tb) (hd : decode k.2.1 pc = .ok (.invokevirtual idx, 3)) : ax_how k j idx (ax_r b :: as') n S (fun _ _ => True) pc :=
  ⟨hj, trivial, Or.inl ⟨b, as', ci, q, rs, rfl, hn, hS, hci, hq, hqc, hw, h1, h2, hd⟩⟩
theorem how_S {k j : ax_K} {pc idx n : Nat} {as : List ax_V} {S : ax_Sh} (hj : ax_J j n) (h1 : Cond.static j.1 ∈ ax_tb) (hn : as.length = n) (hw : Cond.methodLink k.1.cls idx j.1 ∈ ax_tb) (hd : decode k.2.1 pc = .ok (.invokestatic idx, 3)) : ax_how k j idx as n S (fun _ _ => True) pc :=
  ⟨hj, trivial, Or.inr (Or.inl ⟨hn, hw, h1, hd⟩)⟩
theorem how_SN {k j : ax_K} {pc idx n : Nat} {as : List ax_V} {S : ax_Sh} {host : String} (hj : ax_J j n) (h1 : Cond.static j.1 ∈ ax_tb) (hn : as.length = n) (hw : Cond.methodLinkNest k.1.cls idx j.1 host ∈ ax_tb) (hd : decode k.2.1 pc = .ok (.invokestatic idx, 3)) : ax_how k j idx as n S (fun _ _ => True) pc :=
  ⟨hj, trivial, Or.inr (Or.inr (Or.inl ⟨hn, ⟨host, hw⟩, h1, hd⟩))⟩
theorem how_I {k j : ax_K} {pc idx n b : Nat} {as' : List ax_V} {S : ax_Sh} (hj : ax_J j n) (h1 : Cond.instanceMethod j.1 ∈ ax_tb) (hn : as'.length = n) (hnm : j.1.name = "<init>") (hr : j.2.2.2 = none) (hw : Cond.methodLink k.1.cls idx j.1 ∈ ax_tb) (hd : decode k.2.1 pc = .ok (.invokespecial idx, 3)) : ax_how k j idx (ax_r b :: as') n S (fun _ _ => True) pc :=
  ⟨hj, trivial, Or.inr (Or.inr (Or.inr (Or.inl ⟨b, as', rfl, hn, hw, h1, hnm, hr, hd⟩)))⟩
theorem how_IN {k j : ax_K} {pc idx n b : Nat} {as' : List ax_V} {S : ax_Sh} {host : String} (hj : ax_J j n) (h1 : Cond.instanceMethod j.1 ∈ ax_tb) (hn : as'.length = n) (hnm : j.1.name = "<init>") (hr : j.2.2.2 = none) (hw : Cond.methodLinkNest k.1.cls idx j.1 host ∈ ax_tb) (hd : decode k.2.1 pc = .ok (.invokespecial idx, 3)) : ax_how k j idx (ax_r b :: as') n S (fun _ _ => True) pc :=
  ⟨hj, trivial, Or.inr (Or.inr (Or.inr (Or.inr ⟨b, as', rfl, hn, ⟨host, hw⟩, h1, hnm, hr, hd⟩)))⟩
/-! the classes of which there are several objects: where their rows lie -/
def isT (a : Nat) : Prop := S0[a]? = some (9, 1, [some (a + 1)]) ∧ S0[a + 1]? = some (100, 18, [])
def isSp (a : Nat) : Prop := S0[a]? = some (8, 2, [some (a + 1), none]) ∧ S0[a + 1]? = some (100, 12, [])
def isPn (a : Nat) : Prop := S0[a]? = some (6, 3, [some (a + 1), some (a + 2), none]) ∧ S0[a + 1]? = some (100, 8, []) ∧ S0[a + 2]? = some (100, 8, [])
def isBy (a : Nat) : Prop := S0[a]? = some (0, 2, [some (a + 1), none]) ∧ S0[a + 1]? = some (100, 60, [])
def isPo (a : Nat) : Prop := S0[a]? = some (7, 2, [some (a + 1), none]) ∧ S0[a + 1]? = some (100, 1300, [])
def isFr (a : Nat) : Prop := S0[a]? = some (3, 2, [some (a + 1), some (a + 3)]) ∧ isPo (a + 1) ∧ isPo (a + 3)
def isAr (a : Nat) : Prop := S0[a]? = some (100, 2500, [])
theorem el_26 {i : Int} (h : 0 ≤ i ∧ i < 3) : ([some 27, some 29, some 31] : List (Option Nat))[i.toNat]? = some (some (27 + 2 * i.toNat)) ∧ isPo (27 + 2 * i.toNat) := by
  have : i = 0 ∨ i = 1 ∨ i = 2 := by omega
  rcases this with rfl | rfl | rfl <;> exact ⟨rfl, rfl, rfl⟩
theorem el_33 {i : Int} (h : 0 ≤ i ∧ i < 3) : ([some 34, some 36, some 38] : List (Option Nat))[i.toNat]? = some (some (34 + 2 * i.toNat)) ∧ isPo (34 + 2 * i.toNat) := by
  have : i = 0 ∨ i = 1 ∨ i = 2 := by omega
  rcases this with rfl | rfl | rfl <;> exact ⟨rfl, rfl, rfl⟩
theorem el_40 {i : Int} (h : 0 ≤ i ∧ i < 3) : ([some 41, some 43, some 45] : List (Option Nat))[i.toNat]? = some (some (41 + 2 * i.toNat)) ∧ isPo (41 + 2 * i.toNat) := by
  have : i = 0 ∨ i = 1 ∨ i = 2 := by omega
  rcases this with rfl | rfl | rfl <;> exact ⟨rfl, rfl, rfl⟩
theorem el_97 {i : Int} (h : 0 ≤ i ∧ i < 6) : ([some 98, some 99, some 100, some 101, some 102, some 103] : List (Option Nat))[i.toNat]? = some (some (98 + i.toNat)) ∧ isAr (98 + i.toNat) := by
  have : i = 0 ∨ i = 1 ∨ i = 2 ∨ i = 3 ∨ i = 4 ∨ i = 5 := by omega
  rcases this with rfl | rfl | rfl | rfl | rfl | rfl <;> exact ⟨rfl, rfl⟩
theorem el_117 {i : Int} (h : 0 ≤ i ∧ i < 4) : ([some 118, some 119, some 120, some 121] : List (Option Nat))[i.toNat]? = some (some (118 + i.toNat)) ∧ S0[118 + i.toNat]? = some (100, 12, []) := by
  have : i = 0 ∨ i = 1 ∨ i = 2 ∨ i = 3 := by omega
  rcases this with rfl | rfl | rfl | rfl <;> exact ⟨rfl, rfl⟩
theorem ax_mod31 (x : Int) : ax_R (x % 31) := ⟨by omega, by omega⟩
end
