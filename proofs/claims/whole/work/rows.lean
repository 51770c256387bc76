section
-- ===== PART A: goes FIRST, ahead of the names: the tables' words, and 'selects' of the private methods out of them =====
/-- a private method of a class that the tables say can be made, by its rows of tables_1 -/
def lw_okq (q : MethodName × Nat) : Prop := (q.1.cls ≠ "java/lang/invoke/MethodHandle" ∧ q.1.cls ≠ "java/lang/invoke/VarHandle") ∧ Cond.instantiable q.1.cls q.2 ∈ tables_1 ∧ Cond.privateMethod q.1 ∈ tables_1 ∧ Cond.instanceMethod q.1 ∈ tables_1
theorem lw_p0 : lw_okq (⟨"CloudDepth$TextReader", "reset", "()V"⟩, 10) := ⟨⟨by decide +kernel, by decide +kernel⟩, List.mem_of_getElem? (i := 65) (by decide +kernel), List.mem_of_getElem? (i := 397) (by decide +kernel), List.mem_of_getElem? (i := 398) (by decide +kernel)⟩
theorem lw_p1 : lw_okq (⟨"CloudDepth$Tape", "byteAt", "(I)I"⟩, 7) := ⟨⟨by decide +kernel, by decide +kernel⟩, List.mem_of_getElem? (i := 30) (by decide +kernel), List.mem_of_getElem? (i := 413) (by decide +kernel), List.mem_of_getElem? (i := 414) (by decide +kernel)⟩
theorem lw_p2 : lw_okq (⟨"CloudDepth$Tape", "scanLetters", "()V"⟩, 7) := ⟨⟨by decide +kernel, by decide +kernel⟩, List.mem_of_getElem? (i := 30) (by decide +kernel), List.mem_of_getElem? (i := 423) (by decide +kernel), List.mem_of_getElem? (i := 424) (by decide +kernel)⟩
theorem lw_p3 : lw_okq (⟨"CloudDepth$Tape", "spells", "(Ljava/lang/String;)Z"⟩, 7) := ⟨⟨by decide +kernel, by decide +kernel⟩, List.mem_of_getElem? (i := 30) (by decide +kernel), List.mem_of_getElem? (i := 429) (by decide +kernel), List.mem_of_getElem? (i := 430) (by decide +kernel)⟩
theorem lw_p4 : lw_okq (⟨"CloudDepth$Tape", "scanDigits", "()V"⟩, 7) := ⟨⟨by decide +kernel, by decide +kernel⟩, List.mem_of_getElem? (i := 30) (by decide +kernel), List.mem_of_getElem? (i := 485) (by decide +kernel), List.mem_of_getElem? (i := 486) (by decide +kernel)⟩
theorem lw_p5 : lw_okq (⟨"CloudDepth$TextReader", "hardFault", "()I"⟩, 10) := ⟨⟨by decide +kernel, by decide +kernel⟩, List.mem_of_getElem? (i := 65) (by decide +kernel), List.mem_of_getElem? (i := 489) (by decide +kernel), List.mem_of_getElem? (i := 490) (by decide +kernel)⟩
theorem lw_p6 : lw_okq (⟨"CloudDepth$TextReader", "endWith", "(II)I"⟩, 10) := ⟨⟨by decide +kernel, by decide +kernel⟩, List.mem_of_getElem? (i := 65) (by decide +kernel), List.mem_of_getElem? (i := 496) (by decide +kernel), List.mem_of_getElem? (i := 497) (by decide +kernel)⟩
theorem lw_p7 : lw_okq (⟨"CloudDepth$TextReader", "take", "()V"⟩, 10) := ⟨⟨by decide +kernel, by decide +kernel⟩, List.mem_of_getElem? (i := 65) (by decide +kernel), List.mem_of_getElem? (i := 500) (by decide +kernel), List.mem_of_getElem? (i := 501) (by decide +kernel)⟩
theorem lw_p8 : lw_okq (⟨"CloudDepth$TextReader", "takeName", "()V"⟩, 10) := ⟨⟨by decide +kernel, by decide +kernel⟩, List.mem_of_getElem? (i := 65) (by decide +kernel), List.mem_of_getElem? (i := 504) (by decide +kernel), List.mem_of_getElem? (i := 505) (by decide +kernel)⟩
theorem lw_p9 : lw_okq (⟨"CloudDepth$TextReader", "takeNumber", "(I)V"⟩, 10) := ⟨⟨by decide +kernel, by decide +kernel⟩, List.mem_of_getElem? (i := 65) (by decide +kernel), List.mem_of_getElem? (i := 508) (by decide +kernel), List.mem_of_getElem? (i := 509) (by decide +kernel)⟩
theorem lw_p10 : lw_okq (⟨"CloudDepth$TextReader", "takeGrid", "(I)V"⟩, 10) := ⟨⟨by decide +kernel, by decide +kernel⟩, List.mem_of_getElem? (i := 65) (by decide +kernel), List.mem_of_getElem? (i := 512) (by decide +kernel), List.mem_of_getElem? (i := 513) (by decide +kernel)⟩
theorem lw_p11 : lw_okq (⟨"CloudDepth", "forgetPast", "()V"⟩, 15) := ⟨⟨by decide +kernel, by decide +kernel⟩, List.mem_of_getElem? (i := 22) (by decide +kernel), List.mem_of_getElem? (i := 538) (by decide +kernel), List.mem_of_getElem? (i := 539) (by decide +kernel)⟩
theorem lw_p12 : lw_okq (⟨"CloudDepth", "emptySlots", "()V"⟩, 15) := ⟨⟨by decide +kernel, by decide +kernel⟩, List.mem_of_getElem? (i := 22) (by decide +kernel), List.mem_of_getElem? (i := 542) (by decide +kernel), List.mem_of_getElem? (i := 543) (by decide +kernel)⟩
theorem lw_p13 : lw_okq (⟨"CloudDepth", "rememberPast", "()V"⟩, 15) := ⟨⟨by decide +kernel, by decide +kernel⟩, List.mem_of_getElem? (i := 22) (by decide +kernel), List.mem_of_getElem? (i := 556) (by decide +kernel), List.mem_of_getElem? (i := 557) (by decide +kernel)⟩
theorem lw_p14 : lw_okq (⟨"CloudDepth$Depths", "depthOver", "(LCloudDepth$Cloud;III)I"⟩, 13) := ⟨⟨by decide +kernel, by decide +kernel⟩, List.mem_of_getElem? (i := 181) (by decide +kernel), List.mem_of_getElem? (i := 661) (by decide +kernel), List.mem_of_getElem? (i := 662) (by decide +kernel)⟩
theorem lw_p15 : lw_okq (⟨"CloudDepth$Depths", "fewestAbout", "(II)I"⟩, 13) := ⟨⟨by decide +kernel, by decide +kernel⟩, List.mem_of_getElem? (i := 181) (by decide +kernel), List.mem_of_getElem? (i := 665) (by decide +kernel), List.mem_of_getElem? (i := 666) (by decide +kernel)⟩
def lw_privs_1 : List (MethodName × Nat) := [(⟨"CloudDepth$TextReader", "reset", "()V"⟩, 10), (⟨"CloudDepth$Tape", "byteAt", "(I)I"⟩, 7), (⟨"CloudDepth$Tape", "scanLetters", "()V"⟩, 7), (⟨"CloudDepth$Tape", "spells", "(Ljava/lang/String;)Z"⟩, 7), (⟨"CloudDepth$Tape", "scanDigits", "()V"⟩, 7), (⟨"CloudDepth$TextReader", "hardFault", "()I"⟩, 10), (⟨"CloudDepth$TextReader", "endWith", "(II)I"⟩, 10), (⟨"CloudDepth$TextReader", "take", "()V"⟩, 10), (⟨"CloudDepth$TextReader", "takeName", "()V"⟩, 10), (⟨"CloudDepth$TextReader", "takeNumber", "(I)V"⟩, 10), (⟨"CloudDepth$TextReader", "takeGrid", "(I)V"⟩, 10), (⟨"CloudDepth", "forgetPast", "()V"⟩, 15), (⟨"CloudDepth", "emptySlots", "()V"⟩, 15), (⟨"CloudDepth", "rememberPast", "()V"⟩, 15), (⟨"CloudDepth$Depths", "depthOver", "(LCloudDepth$Cloud;III)I"⟩, 13), (⟨"CloudDepth$Depths", "fewestAbout", "(II)I"⟩, 13)]
theorem lw_r1 : ∀ q ∈ lw_privs_1, lw_okq q := List.forall_mem_cons.mpr ⟨lw_p0, List.forall_mem_cons.mpr ⟨lw_p1, List.forall_mem_cons.mpr ⟨lw_p2, List.forall_mem_cons.mpr ⟨lw_p3, List.forall_mem_cons.mpr ⟨lw_p4, List.forall_mem_cons.mpr ⟨lw_p5, List.forall_mem_cons.mpr ⟨lw_p6, List.forall_mem_cons.mpr ⟨lw_p7, List.forall_mem_cons.mpr ⟨lw_p8, List.forall_mem_cons.mpr ⟨lw_p9, List.forall_mem_cons.mpr ⟨lw_p10, List.forall_mem_cons.mpr ⟨lw_p11, List.forall_mem_cons.mpr ⟨lw_p12, List.forall_mem_cons.mpr ⟨lw_p13, List.forall_mem_cons.mpr ⟨lw_p14, List.forall_mem_cons.mpr ⟨lw_p15, fun _ h => absurd h List.not_mem_nil⟩⟩⟩⟩⟩⟩⟩⟩⟩⟩⟩⟩⟩⟩⟩⟩
theorem lw_p16 : lw_okq (⟨"CloudDepth$Cuts", "cutAlong", "(LCloudDepth$Cloud;II)V"⟩, 2) := ⟨⟨by decide +kernel, by decide +kernel⟩, List.mem_of_getElem? (i := 236) (by decide +kernel), List.mem_of_getElem? (i := 784) (by decide +kernel), List.mem_of_getElem? (i := 785) (by decide +kernel)⟩
theorem lw_p17 : lw_okq (⟨"CloudDepth$Cuts", "markBoth", "(IIII)V"⟩, 2) := ⟨⟨by decide +kernel, by decide +kernel⟩, List.mem_of_getElem? (i := 236) (by decide +kernel), List.mem_of_getElem? (i := 789) (by decide +kernel), List.mem_of_getElem? (i := 790) (by decide +kernel)⟩
theorem lw_p18 : lw_okq (⟨"CloudDepth$Depths", "noteDepth", "(III)V"⟩, 13) := ⟨⟨by decide +kernel, by decide +kernel⟩, List.mem_of_getElem? (i := 181) (by decide +kernel), List.mem_of_getElem? (i := 836) (by decide +kernel), List.mem_of_getElem? (i := 837) (by decide +kernel)⟩
theorem lw_p19 : lw_okq (⟨"CloudDepth$Lines", "sinkLast", "(LCloudDepth$Cloud;)V"⟩, 2) := ⟨⟨by decide +kernel, by decide +kernel⟩, List.mem_of_getElem? (i := 260) (by decide +kernel), List.mem_of_getElem? (i := 925) (by decide +kernel), List.mem_of_getElem? (i := 926) (by decide +kernel)⟩
theorem lw_p20 : lw_okq (⟨"CloudDepth$Lines", "compareX", "(LCloudDepth$Cloud;II)I"⟩, 2) := ⟨⟨by decide +kernel, by decide +kernel⟩, List.mem_of_getElem? (i := 260) (by decide +kernel), List.mem_of_getElem? (i := 929) (by decide +kernel), List.mem_of_getElem? (i := 930) (by decide +kernel)⟩
theorem lw_p21 : lw_okq (⟨"CloudDepth$Fits", "noteFit", "(III)V"⟩, 6) := ⟨⟨by decide +kernel, by decide +kernel⟩, List.mem_of_getElem? (i := 274) (by decide +kernel), List.mem_of_getElem? (i := 999) (by decide +kernel), List.mem_of_getElem? (i := 1000) (by decide +kernel)⟩
theorem lw_p22 : lw_okq (⟨"CloudDepth", "greatestPointDepth", "()I"⟩, 15) := ⟨⟨by decide +kernel, by decide +kernel⟩, List.mem_of_getElem? (i := 22) (by decide +kernel), List.mem_of_getElem? (i := 1015) (by decide +kernel), List.mem_of_getElem? (i := 1016) (by decide +kernel)⟩
theorem lw_p23 : lw_okq (⟨"CloudDepth", "pointsOfDepth", "(I)I"⟩, 15) := ⟨⟨by decide +kernel, by decide +kernel⟩, List.mem_of_getElem? (i := 22) (by decide +kernel), List.mem_of_getElem? (i := 1020) (by decide +kernel), List.mem_of_getElem? (i := 1021) (by decide +kernel)⟩
theorem lw_p24 : lw_okq (⟨"CloudDepth", "slotsInUse", "()I"⟩, 15) := ⟨⟨by decide +kernel, by decide +kernel⟩, List.mem_of_getElem? (i := 22) (by decide +kernel), List.mem_of_getElem? (i := 1024) (by decide +kernel), List.mem_of_getElem? (i := 1025) (by decide +kernel)⟩
theorem lw_p25 : lw_okq (⟨"CloudDepth", "thirdPart", "()I"⟩, 15) := ⟨⟨by decide +kernel, by decide +kernel⟩, List.mem_of_getElem? (i := 22) (by decide +kernel), List.mem_of_getElem? (i := 1028) (by decide +kernel), List.mem_of_getElem? (i := 1029) (by decide +kernel)⟩
theorem lw_p26 : lw_okq (⟨"CloudDepth$Shapes", "isConvex", "(LCloudDepth$Cloud;I)Z"⟩, 1) := ⟨⟨by decide +kernel, by decide +kernel⟩, List.mem_of_getElem? (i := 303) (by decide +kernel), List.mem_of_getElem? (i := 1038) (by decide +kernel), List.mem_of_getElem? (i := 1039) (by decide +kernel)⟩
theorem lw_p27 : lw_okq (⟨"CloudDepthModel", "lays", "(I)V"⟩, 40) := ⟨⟨by decide +kernel, by decide +kernel⟩, List.mem_of_getElem? (i := 1059) (by decide +kernel), List.mem_of_getElem? (i := 1196) (by decide +kernel), List.mem_of_getElem? (i := 1197) (by decide +kernel)⟩
theorem lw_p28 : lw_okq (⟨"CloudDepthModel", "cutsText", "()V"⟩, 40) := ⟨⟨by decide +kernel, by decide +kernel⟩, List.mem_of_getElem? (i := 1059) (by decide +kernel), List.mem_of_getElem? (i := 1208) (by decide +kernel), List.mem_of_getElem? (i := 1209) (by decide +kernel)⟩
theorem lw_p29 : lw_okq (⟨"CloudDepthModel", "byteAt", "(I)I"⟩, 40) := ⟨⟨by decide +kernel, by decide +kernel⟩, List.mem_of_getElem? (i := 1059) (by decide +kernel), List.mem_of_getElem? (i := 1212) (by decide +kernel), List.mem_of_getElem? (i := 1213) (by decide +kernel)⟩
theorem lw_p30 : lw_okq (⟨"CloudDepthModel", "token", "(IIIJ)V"⟩, 40) := ⟨⟨by decide +kernel, by decide +kernel⟩, List.mem_of_getElem? (i := 1059) (by decide +kernel), List.mem_of_getElem? (i := 1216) (by decide +kernel), List.mem_of_getElem? (i := 1217) (by decide +kernel)⟩
theorem lw_p31 : lw_okq (⟨"CloudDepthModel", "sign", "(II)I"⟩, 40) := ⟨⟨by decide +kernel, by decide +kernel⟩, List.mem_of_getElem? (i := 1059) (by decide +kernel), List.mem_of_getElem? (i := 1226) (by decide +kernel), List.mem_of_getElem? (i := 1227) (by decide +kernel)⟩
def lw_privs_2 : List (MethodName × Nat) := [(⟨"CloudDepth$Cuts", "cutAlong", "(LCloudDepth$Cloud;II)V"⟩, 2), (⟨"CloudDepth$Cuts", "markBoth", "(IIII)V"⟩, 2), (⟨"CloudDepth$Depths", "noteDepth", "(III)V"⟩, 13), (⟨"CloudDepth$Lines", "sinkLast", "(LCloudDepth$Cloud;)V"⟩, 2), (⟨"CloudDepth$Lines", "compareX", "(LCloudDepth$Cloud;II)I"⟩, 2), (⟨"CloudDepth$Fits", "noteFit", "(III)V"⟩, 6), (⟨"CloudDepth", "greatestPointDepth", "()I"⟩, 15), (⟨"CloudDepth", "pointsOfDepth", "(I)I"⟩, 15), (⟨"CloudDepth", "slotsInUse", "()I"⟩, 15), (⟨"CloudDepth", "thirdPart", "()I"⟩, 15), (⟨"CloudDepth$Shapes", "isConvex", "(LCloudDepth$Cloud;I)Z"⟩, 1), (⟨"CloudDepthModel", "lays", "(I)V"⟩, 40), (⟨"CloudDepthModel", "cutsText", "()V"⟩, 40), (⟨"CloudDepthModel", "byteAt", "(I)I"⟩, 40), (⟨"CloudDepthModel", "token", "(IIIJ)V"⟩, 40), (⟨"CloudDepthModel", "sign", "(II)I"⟩, 40)]
theorem lw_r2 : ∀ q ∈ lw_privs_2, lw_okq q := List.forall_mem_cons.mpr ⟨lw_p16, List.forall_mem_cons.mpr ⟨lw_p17, List.forall_mem_cons.mpr ⟨lw_p18, List.forall_mem_cons.mpr ⟨lw_p19, List.forall_mem_cons.mpr ⟨lw_p20, List.forall_mem_cons.mpr ⟨lw_p21, List.forall_mem_cons.mpr ⟨lw_p22, List.forall_mem_cons.mpr ⟨lw_p23, List.forall_mem_cons.mpr ⟨lw_p24, List.forall_mem_cons.mpr ⟨lw_p25, List.forall_mem_cons.mpr ⟨lw_p26, List.forall_mem_cons.mpr ⟨lw_p27, List.forall_mem_cons.mpr ⟨lw_p28, List.forall_mem_cons.mpr ⟨lw_p29, List.forall_mem_cons.mpr ⟨lw_p30, List.forall_mem_cons.mpr ⟨lw_p31, fun _ h => absurd h List.not_mem_nil⟩⟩⟩⟩⟩⟩⟩⟩⟩⟩⟩⟩⟩⟩⟩⟩
theorem lw_p32 : lw_okq (⟨"CloudDepthModel", "is", "(I)Z"⟩, 40) := ⟨⟨by decide +kernel, by decide +kernel⟩, List.mem_of_getElem? (i := 1059) (by decide +kernel), List.mem_of_getElem? (i := 1230) (by decide +kernel), List.mem_of_getElem? (i := 1231) (by decide +kernel)⟩
theorem lw_p33 : lw_okq (⟨"CloudDepthModel", "line", "()V"⟩, 40) := ⟨⟨by decide +kernel, by decide +kernel⟩, List.mem_of_getElem? (i := 1059) (by decide +kernel), List.mem_of_getElem? (i := 1234) (by decide +kernel), List.mem_of_getElem? (i := 1235) (by decide +kernel)⟩
theorem lw_p34 : lw_okq (⟨"CloudDepthModel", "fail", "(I)V"⟩, 40) := ⟨⟨by decide +kernel, by decide +kernel⟩, List.mem_of_getElem? (i := 1059) (by decide +kernel), List.mem_of_getElem? (i := 1238) (by decide +kernel), List.mem_of_getElem? (i := 1239) (by decide +kernel)⟩
theorem lw_p35 : lw_okq (⟨"CloudDepthModel", "passes", "()V"⟩, 40) := ⟨⟨by decide +kernel, by decide +kernel⟩, List.mem_of_getElem? (i := 1059) (by decide +kernel), List.mem_of_getElem? (i := 1242) (by decide +kernel), List.mem_of_getElem? (i := 1243) (by decide +kernel)⟩
theorem lw_p36 : lw_okq (⟨"CloudDepthModel", "must", "(I)V"⟩, 40) := ⟨⟨by decide +kernel, by decide +kernel⟩, List.mem_of_getElem? (i := 1059) (by decide +kernel), List.mem_of_getElem? (i := 1246) (by decide +kernel), List.mem_of_getElem? (i := 1247) (by decide +kernel)⟩
theorem lw_p37 : lw_okq (⟨"CloudDepthModel", "signed", "()V"⟩, 40) := ⟨⟨by decide +kernel, by decide +kernel⟩, List.mem_of_getElem? (i := 1059) (by decide +kernel), List.mem_of_getElem? (i := 1250) (by decide +kernel), List.mem_of_getElem? (i := 1251) (by decide +kernel)⟩
theorem lw_p38 : lw_okq (⟨"CloudDepthModel", "means", "()V"⟩, 40) := ⟨⟨by decide +kernel, by decide +kernel⟩, List.mem_of_getElem? (i := 1059) (by decide +kernel), List.mem_of_getElem? (i := 1254) (by decide +kernel), List.mem_of_getElem? (i := 1255) (by decide +kernel)⟩
theorem lw_p39 : lw_okq (⟨"CloudDepthModel", "meansPoint", "(I)V"⟩, 40) := ⟨⟨by decide +kernel, by decide +kernel⟩, List.mem_of_getElem? (i := 1059) (by decide +kernel), List.mem_of_getElem? (i := 1258) (by decide +kernel), List.mem_of_getElem? (i := 1259) (by decide +kernel)⟩
theorem lw_p40 : lw_okq (⟨"CloudDepthModel", "wrong", "(II)V"⟩, 40) := ⟨⟨by decide +kernel, by decide +kernel⟩, List.mem_of_getElem? (i := 1059) (by decide +kernel), List.mem_of_getElem? (i := 1262) (by decide +kernel), List.mem_of_getElem? (i := 1263) (by decide +kernel)⟩
theorem lw_p41 : lw_okq (⟨"CloudDepthModel", "all", "()I"⟩, 40) := ⟨⟨by decide +kernel, by decide +kernel⟩, List.mem_of_getElem? (i := 1059) (by decide +kernel), List.mem_of_getElem? (i := 1289) (by decide +kernel), List.mem_of_getElem? (i := 1290) (by decide +kernel)⟩
theorem lw_p42 : lw_okq (⟨"CloudDepthModel", "canBe", "(II)Z"⟩, 40) := ⟨⟨by decide +kernel, by decide +kernel⟩, List.mem_of_getElem? (i := 1059) (by decide +kernel), List.mem_of_getElem? (i := 1293) (by decide +kernel), List.mem_of_getElem? (i := 1294) (by decide +kernel)⟩
theorem lw_p43 : lw_okq (⟨"CloudDepthModel", "pointAt", "(II)I"⟩, 40) := ⟨⟨by decide +kernel, by decide +kernel⟩, List.mem_of_getElem? (i := 1059) (by decide +kernel), List.mem_of_getElem? (i := 1297) (by decide +kernel), List.mem_of_getElem? (i := 1298) (by decide +kernel)⟩
theorem lw_p44 : lw_okq (⟨"CloudDepthModel", "x", "(I)I"⟩, 40) := ⟨⟨by decide +kernel, by decide +kernel⟩, List.mem_of_getElem? (i := 1059) (by decide +kernel), List.mem_of_getElem? (i := 1301) (by decide +kernel), List.mem_of_getElem? (i := 1302) (by decide +kernel)⟩
theorem lw_p45 : lw_okq (⟨"CloudDepthModel", "y", "(I)I"⟩, 40) := ⟨⟨by decide +kernel, by decide +kernel⟩, List.mem_of_getElem? (i := 1059) (by decide +kernel), List.mem_of_getElem? (i := 1305) (by decide +kernel), List.mem_of_getElem? (i := 1306) (by decide +kernel)⟩
theorem lw_p46 : lw_okq (⟨"CloudDepthModel", "marks", "()V"⟩, 40) := ⟨⟨by decide +kernel, by decide +kernel⟩, List.mem_of_getElem? (i := 1059) (by decide +kernel), List.mem_of_getElem? (i := 1309) (by decide +kernel), List.mem_of_getElem? (i := 1310) (by decide +kernel)⟩
theorem lw_p47 : lw_okq (⟨"CloudDepthModel", "lays", "(III)V"⟩, 40) := ⟨⟨by decide +kernel, by decide +kernel⟩, List.mem_of_getElem? (i := 1059) (by decide +kernel), List.mem_of_getElem? (i := 1313) (by decide +kernel), List.mem_of_getElem? (i := 1314) (by decide +kernel)⟩
def lw_privs_3 : List (MethodName × Nat) := [(⟨"CloudDepthModel", "is", "(I)Z"⟩, 40), (⟨"CloudDepthModel", "line", "()V"⟩, 40), (⟨"CloudDepthModel", "fail", "(I)V"⟩, 40), (⟨"CloudDepthModel", "passes", "()V"⟩, 40), (⟨"CloudDepthModel", "must", "(I)V"⟩, 40), (⟨"CloudDepthModel", "signed", "()V"⟩, 40), (⟨"CloudDepthModel", "means", "()V"⟩, 40), (⟨"CloudDepthModel", "meansPoint", "(I)V"⟩, 40), (⟨"CloudDepthModel", "wrong", "(II)V"⟩, 40), (⟨"CloudDepthModel", "all", "()I"⟩, 40), (⟨"CloudDepthModel", "canBe", "(II)Z"⟩, 40), (⟨"CloudDepthModel", "pointAt", "(II)I"⟩, 40), (⟨"CloudDepthModel", "x", "(I)I"⟩, 40), (⟨"CloudDepthModel", "y", "(I)I"⟩, 40), (⟨"CloudDepthModel", "marks", "()V"⟩, 40), (⟨"CloudDepthModel", "lays", "(III)V"⟩, 40)]
theorem lw_r3 : ∀ q ∈ lw_privs_3, lw_okq q := List.forall_mem_cons.mpr ⟨lw_p32, List.forall_mem_cons.mpr ⟨lw_p33, List.forall_mem_cons.mpr ⟨lw_p34, List.forall_mem_cons.mpr ⟨lw_p35, List.forall_mem_cons.mpr ⟨lw_p36, List.forall_mem_cons.mpr ⟨lw_p37, List.forall_mem_cons.mpr ⟨lw_p38, List.forall_mem_cons.mpr ⟨lw_p39, List.forall_mem_cons.mpr ⟨lw_p40, List.forall_mem_cons.mpr ⟨lw_p41, List.forall_mem_cons.mpr ⟨lw_p42, List.forall_mem_cons.mpr ⟨lw_p43, List.forall_mem_cons.mpr ⟨lw_p44, List.forall_mem_cons.mpr ⟨lw_p45, List.forall_mem_cons.mpr ⟨lw_p46, List.forall_mem_cons.mpr ⟨lw_p47, fun _ h => absurd h List.not_mem_nil⟩⟩⟩⟩⟩⟩⟩⟩⟩⟩⟩⟩⟩⟩⟩⟩
theorem lw_p48 : lw_okq (⟨"CloudDepthModel", "isPoint", "(I)Z"⟩, 40) := ⟨⟨by decide +kernel, by decide +kernel⟩, List.mem_of_getElem? (i := 1059) (by decide +kernel), List.mem_of_getElem? (i := 1321) (by decide +kernel), List.mem_of_getElem? (i := 1322) (by decide +kernel)⟩
theorem lw_p49 : lw_okq (⟨"CloudDepthModel", "turnOf", "(IIII)I"⟩, 40) := ⟨⟨by decide +kernel, by decide +kernel⟩, List.mem_of_getElem? (i := 1059) (by decide +kernel), List.mem_of_getElem? (i := 1338) (by decide +kernel), List.mem_of_getElem? (i := 1339) (by decide +kernel)⟩
theorem lw_p50 : lw_okq (⟨"CloudDepthModel", "sideOf", "(III)I"⟩, 40) := ⟨⟨by decide +kernel, by decide +kernel⟩, List.mem_of_getElem? (i := 1059) (by decide +kernel), List.mem_of_getElem? (i := 1342) (by decide +kernel), List.mem_of_getElem? (i := 1343) (by decide +kernel)⟩
theorem lw_p51 : lw_okq (⟨"CloudDepthModel", "full", "()I"⟩, 40) := ⟨⟨by decide +kernel, by decide +kernel⟩, List.mem_of_getElem? (i := 1059) (by decide +kernel), List.mem_of_getElem? (i := 1350) (by decide +kernel), List.mem_of_getElem? (i := 1351) (by decide +kernel)⟩
theorem lw_p52 : lw_okq (⟨"CloudDepthModel", "onSide", "(IIII)I"⟩, 40) := ⟨⟨by decide +kernel, by decide +kernel⟩, List.mem_of_getElem? (i := 1059) (by decide +kernel), List.mem_of_getElem? (i := 1354) (by decide +kernel), List.mem_of_getElem? (i := 1355) (by decide +kernel)⟩
theorem lw_p53 : lw_okq (⟨"CloudDepthModel", "laysCorners", "()I"⟩, 40) := ⟨⟨by decide +kernel, by decide +kernel⟩, List.mem_of_getElem? (i := 1059) (by decide +kernel), List.mem_of_getElem? (i := 1368) (by decide +kernel), List.mem_of_getElem? (i := 1369) (by decide +kernel)⟩
theorem lw_p54 : lw_okq (⟨"CloudDepthModel", "cornersOf", "(I)I"⟩, 40) := ⟨⟨by decide +kernel, by decide +kernel⟩, List.mem_of_getElem? (i := 1059) (by decide +kernel), List.mem_of_getElem? (i := 1372) (by decide +kernel), List.mem_of_getElem? (i := 1373) (by decide +kernel)⟩
theorem lw_p55 : lw_okq (⟨"CloudDepthModel", "hullOf", "(I)I"⟩, 40) := ⟨⟨by decide +kernel, by decide +kernel⟩, List.mem_of_getElem? (i := 1059) (by decide +kernel), List.mem_of_getElem? (i := 1376) (by decide +kernel), List.mem_of_getElem? (i := 1377) (by decide +kernel)⟩
theorem lw_p56 : lw_okq (⟨"CloudDepthModel", "isRim", "(II)Z"⟩, 40) := ⟨⟨by decide +kernel, by decide +kernel⟩, List.mem_of_getElem? (i := 1059) (by decide +kernel), List.mem_of_getElem? (i := 1380) (by decide +kernel), List.mem_of_getElem? (i := 1381) (by decide +kernel)⟩
theorem lw_p57 : lw_okq (⟨"CloudDepthModel", "isBetween", "(III)Z"⟩, 40) := ⟨⟨by decide +kernel, by decide +kernel⟩, List.mem_of_getElem? (i := 1059) (by decide +kernel), List.mem_of_getElem? (i := 1384) (by decide +kernel), List.mem_of_getElem? (i := 1385) (by decide +kernel)⟩
theorem lw_p58 : lw_okq (⟨"CloudDepthModel", "laysLayers", "()I"⟩, 40) := ⟨⟨by decide +kernel, by decide +kernel⟩, List.mem_of_getElem? (i := 1059) (by decide +kernel), List.mem_of_getElem? (i := 1392) (by decide +kernel), List.mem_of_getElem? (i := 1393) (by decide +kernel)⟩
theorem lw_p59 : lw_okq (⟨"CloudDepthModel", "halves", "(III)Z"⟩, 40) := ⟨⟨by decide +kernel, by decide +kernel⟩, List.mem_of_getElem? (i := 1059) (by decide +kernel), List.mem_of_getElem? (i := 1404) (by decide +kernel), List.mem_of_getElem? (i := 1405) (by decide +kernel)⟩
theorem lw_p60 : lw_okq (⟨"CloudDepthModel", "laysMeetings", "()V"⟩, 40) := ⟨⟨by decide +kernel, by decide +kernel⟩, List.mem_of_getElem? (i := 1059) (by decide +kernel), List.mem_of_getElem? (i := 1416) (by decide +kernel), List.mem_of_getElem? (i := 1417) (by decide +kernel)⟩
theorem lw_p61 : lw_okq (⟨"CloudDepthModel", "meets", "(II)V"⟩, 40) := ⟨⟨by decide +kernel, by decide +kernel⟩, List.mem_of_getElem? (i := 1059) (by decide +kernel), List.mem_of_getElem? (i := 1420) (by decide +kernel), List.mem_of_getElem? (i := 1421) (by decide +kernel)⟩
theorem lw_p62 : lw_okq (⟨"CloudDepthModel", "isWithin", "(IIII)Z"⟩, 40) := ⟨⟨by decide +kernel, by decide +kernel⟩, List.mem_of_getElem? (i := 1059) (by decide +kernel), List.mem_of_getElem? (i := 1424) (by decide +kernel), List.mem_of_getElem? (i := 1425) (by decide +kernel)⟩
theorem lw_p63 : lw_okq (⟨"CloudDepthModel", "areAcross", "(IIII)Z"⟩, 40) := ⟨⟨by decide +kernel, by decide +kernel⟩, List.mem_of_getElem? (i := 1059) (by decide +kernel), List.mem_of_getElem? (i := 1428) (by decide +kernel), List.mem_of_getElem? (i := 1429) (by decide +kernel)⟩
def lw_privs_4 : List (MethodName × Nat) := [(⟨"CloudDepthModel", "isPoint", "(I)Z"⟩, 40), (⟨"CloudDepthModel", "turnOf", "(IIII)I"⟩, 40), (⟨"CloudDepthModel", "sideOf", "(III)I"⟩, 40), (⟨"CloudDepthModel", "full", "()I"⟩, 40), (⟨"CloudDepthModel", "onSide", "(IIII)I"⟩, 40), (⟨"CloudDepthModel", "laysCorners", "()I"⟩, 40), (⟨"CloudDepthModel", "cornersOf", "(I)I"⟩, 40), (⟨"CloudDepthModel", "hullOf", "(I)I"⟩, 40), (⟨"CloudDepthModel", "isRim", "(II)Z"⟩, 40), (⟨"CloudDepthModel", "isBetween", "(III)Z"⟩, 40), (⟨"CloudDepthModel", "laysLayers", "()I"⟩, 40), (⟨"CloudDepthModel", "halves", "(III)Z"⟩, 40), (⟨"CloudDepthModel", "laysMeetings", "()V"⟩, 40), (⟨"CloudDepthModel", "meets", "(II)V"⟩, 40), (⟨"CloudDepthModel", "isWithin", "(IIII)Z"⟩, 40), (⟨"CloudDepthModel", "areAcross", "(IIII)Z"⟩, 40)]
theorem lw_r4 : ∀ q ∈ lw_privs_4, lw_okq q := List.forall_mem_cons.mpr ⟨lw_p48, List.forall_mem_cons.mpr ⟨lw_p49, List.forall_mem_cons.mpr ⟨lw_p50, List.forall_mem_cons.mpr ⟨lw_p51, List.forall_mem_cons.mpr ⟨lw_p52, List.forall_mem_cons.mpr ⟨lw_p53, List.forall_mem_cons.mpr ⟨lw_p54, List.forall_mem_cons.mpr ⟨lw_p55, List.forall_mem_cons.mpr ⟨lw_p56, List.forall_mem_cons.mpr ⟨lw_p57, List.forall_mem_cons.mpr ⟨lw_p58, List.forall_mem_cons.mpr ⟨lw_p59, List.forall_mem_cons.mpr ⟨lw_p60, List.forall_mem_cons.mpr ⟨lw_p61, List.forall_mem_cons.mpr ⟨lw_p62, List.forall_mem_cons.mpr ⟨lw_p63, fun _ h => absurd h List.not_mem_nil⟩⟩⟩⟩⟩⟩⟩⟩⟩⟩⟩⟩⟩⟩⟩⟩
theorem lw_p64 : lw_okq (⟨"CloudDepthModel", "areParted", "(I)Z"⟩, 40) := ⟨⟨by decide +kernel, by decide +kernel⟩, List.mem_of_getElem? (i := 1059) (by decide +kernel), List.mem_of_getElem? (i := 1432) (by decide +kernel), List.mem_of_getElem? (i := 1433) (by decide +kernel)⟩
theorem lw_p65 : lw_okq (⟨"CloudDepthModel", "isInside", "(IIIII)Z"⟩, 40) := ⟨⟨by decide +kernel, by decide +kernel⟩, List.mem_of_getElem? (i := 1059) (by decide +kernel), List.mem_of_getElem? (i := 1455) (by decide +kernel), List.mem_of_getElem? (i := 1456) (by decide +kernel)⟩
theorem lw_p66 : lw_okq (⟨"CloudDepthModel", "depthOf", "(II)I"⟩, 40) := ⟨⟨by decide +kernel, by decide +kernel⟩, List.mem_of_getElem? (i := 1059) (by decide +kernel), List.mem_of_getElem? (i := 1463) (by decide +kernel), List.mem_of_getElem? (i := 1464) (by decide +kernel)⟩
theorem lw_p67 : lw_okq (⟨"CloudDepthModel", "deepestOf", "()I"⟩, 40) := ⟨⟨by decide +kernel, by decide +kernel⟩, List.mem_of_getElem? (i := 1059) (by decide +kernel), List.mem_of_getElem? (i := 1474) (by decide +kernel), List.mem_of_getElem? (i := 1475) (by decide +kernel)⟩
theorem lw_p68 : lw_okq (⟨"CloudDepthModel", "layerOf", "(I)I"⟩, 40) := ⟨⟨by decide +kernel, by decide +kernel⟩, List.mem_of_getElem? (i := 1059) (by decide +kernel), List.mem_of_getElem? (i := 1486) (by decide +kernel), List.mem_of_getElem? (i := 1487) (by decide +kernel)⟩
theorem lw_p69 : lw_okq (⟨"CloudDepthModel", "isLayersCorner", "(I)Z"⟩, 40) := ⟨⟨by decide +kernel, by decide +kernel⟩, List.mem_of_getElem? (i := 1059) (by decide +kernel), List.mem_of_getElem? (i := 1490) (by decide +kernel), List.mem_of_getElem? (i := 1491) (by decide +kernel)⟩
theorem lw_p70 : lw_okq (⟨"CloudDepthModel", "shareOf", "(I)I"⟩, 40) := ⟨⟨by decide +kernel, by decide +kernel⟩, List.mem_of_getElem? (i := 1059) (by decide +kernel), List.mem_of_getElem? (i := 1494) (by decide +kernel), List.mem_of_getElem? (i := 1495) (by decide +kernel)⟩
theorem lw_p71 : lw_okq (⟨"CloudDepthModel", "apart", "(III)I"⟩, 40) := ⟨⟨by decide +kernel, by decide +kernel⟩, List.mem_of_getElem? (i := 1059) (by decide +kernel), List.mem_of_getElem? (i := 1498) (by decide +kernel), List.mem_of_getElem? (i := 1499) (by decide +kernel)⟩
theorem lw_p72 : lw_okq (⟨"CloudDepthModel", "keeps", "(III)Z"⟩, 40) := ⟨⟨by decide +kernel, by decide +kernel⟩, List.mem_of_getElem? (i := 1059) (by decide +kernel), List.mem_of_getElem? (i := 1506) (by decide +kernel), List.mem_of_getElem? (i := 1507) (by decide +kernel)⟩
theorem lw_p73 : lw_okq (⟨"CloudDepthModel", "lineAt", "(IIIZ)I"⟩, 40) := ⟨⟨by decide +kernel, by decide +kernel⟩, List.mem_of_getElem? (i := 1059) (by decide +kernel), List.mem_of_getElem? (i := 1518) (by decide +kernel), List.mem_of_getElem? (i := 1519) (by decide +kernel)⟩
theorem lw_p74 : lw_okq (⟨"CloudDepthModel", "valueAt", "(III)I"⟩, 40) := ⟨⟨by decide +kernel, by decide +kernel⟩, List.mem_of_getElem? (i := 1059) (by decide +kernel), List.mem_of_getElem? (i := 1522) (by decide +kernel), List.mem_of_getElem? (i := 1523) (by decide +kernel)⟩
theorem lw_p75 : lw_okq (⟨"CloudDepthModel", "laysCrossings", "()I"⟩, 40) := ⟨⟨by decide +kernel, by decide +kernel⟩, List.mem_of_getElem? (i := 1059) (by decide +kernel), List.mem_of_getElem? (i := 1530) (by decide +kernel), List.mem_of_getElem? (i := 1531) (by decide +kernel)⟩
theorem lw_p76 : lw_okq (⟨"CloudDepthModel", "fitOf", "(II)I"⟩, 40) := ⟨⟨by decide +kernel, by decide +kernel⟩, List.mem_of_getElem? (i := 1059) (by decide +kernel), List.mem_of_getElem? (i := 1545) (by decide +kernel), List.mem_of_getElem? (i := 1546) (by decide +kernel)⟩
theorem lw_p77 : lw_okq (⟨"CloudDepthModel", "area", "()I"⟩, 40) := ⟨⟨by decide +kernel, by decide +kernel⟩, List.mem_of_getElem? (i := 1059) (by decide +kernel), List.mem_of_getElem? (i := 1557) (by decide +kernel), List.mem_of_getElem? (i := 1558) (by decide +kernel)⟩
theorem lw_p78 : lw_okq (⟨"CloudDepthModel", "onLine", "()I"⟩, 40) := ⟨⟨by decide +kernel, by decide +kernel⟩, List.mem_of_getElem? (i := 1059) (by decide +kernel), List.mem_of_getElem? (i := 1561) (by decide +kernel), List.mem_of_getElem? (i := 1562) (by decide +kernel)⟩
theorem lw_p79 : lw_okq (⟨"CloudDepthModel", "deepestPoint", "(Z)I"⟩, 40) := ⟨⟨by decide +kernel, by decide +kernel⟩, List.mem_of_getElem? (i := 1059) (by decide +kernel), List.mem_of_getElem? (i := 1565) (by decide +kernel), List.mem_of_getElem? (i := 1566) (by decide +kernel)⟩
def lw_privs_5 : List (MethodName × Nat) := [(⟨"CloudDepthModel", "areParted", "(I)Z"⟩, 40), (⟨"CloudDepthModel", "isInside", "(IIIII)Z"⟩, 40), (⟨"CloudDepthModel", "depthOf", "(II)I"⟩, 40), (⟨"CloudDepthModel", "deepestOf", "()I"⟩, 40), (⟨"CloudDepthModel", "layerOf", "(I)I"⟩, 40), (⟨"CloudDepthModel", "isLayersCorner", "(I)Z"⟩, 40), (⟨"CloudDepthModel", "shareOf", "(I)I"⟩, 40), (⟨"CloudDepthModel", "apart", "(III)I"⟩, 40), (⟨"CloudDepthModel", "keeps", "(III)Z"⟩, 40), (⟨"CloudDepthModel", "lineAt", "(IIIZ)I"⟩, 40), (⟨"CloudDepthModel", "valueAt", "(III)I"⟩, 40), (⟨"CloudDepthModel", "laysCrossings", "()I"⟩, 40), (⟨"CloudDepthModel", "fitOf", "(II)I"⟩, 40), (⟨"CloudDepthModel", "area", "()I"⟩, 40), (⟨"CloudDepthModel", "onLine", "()I"⟩, 40), (⟨"CloudDepthModel", "deepestPoint", "(Z)I"⟩, 40)]
theorem lw_r5 : ∀ q ∈ lw_privs_5, lw_okq q := List.forall_mem_cons.mpr ⟨lw_p64, List.forall_mem_cons.mpr ⟨lw_p65, List.forall_mem_cons.mpr ⟨lw_p66, List.forall_mem_cons.mpr ⟨lw_p67, List.forall_mem_cons.mpr ⟨lw_p68, List.forall_mem_cons.mpr ⟨lw_p69, List.forall_mem_cons.mpr ⟨lw_p70, List.forall_mem_cons.mpr ⟨lw_p71, List.forall_mem_cons.mpr ⟨lw_p72, List.forall_mem_cons.mpr ⟨lw_p73, List.forall_mem_cons.mpr ⟨lw_p74, List.forall_mem_cons.mpr ⟨lw_p75, List.forall_mem_cons.mpr ⟨lw_p76, List.forall_mem_cons.mpr ⟨lw_p77, List.forall_mem_cons.mpr ⟨lw_p78, List.forall_mem_cons.mpr ⟨lw_p79, fun _ h => absurd h List.not_mem_nil⟩⟩⟩⟩⟩⟩⟩⟩⟩⟩⟩⟩⟩⟩⟩⟩
theorem lw_p80 : lw_okq (⟨"CloudDepthModel", "third", "()I"⟩, 40) := ⟨⟨by decide +kernel, by decide +kernel⟩, List.mem_of_getElem? (i := 1059) (by decide +kernel), List.mem_of_getElem? (i := 1569) (by decide +kernel), List.mem_of_getElem? (i := 1570) (by decide +kernel)⟩
theorem lw_p81 : lw_okq (⟨"CloudDepthModel", "convexMost", "()I"⟩, 40) := ⟨⟨by decide +kernel, by decide +kernel⟩, List.mem_of_getElem? (i := 1059) (by decide +kernel), List.mem_of_getElem? (i := 1573) (by decide +kernel), List.mem_of_getElem? (i := 1574) (by decide +kernel)⟩
theorem lw_p82 : lw_okq (⟨"CloudDepthModel", "emptyOnes", "()I"⟩, 40) := ⟨⟨by decide +kernel, by decide +kernel⟩, List.mem_of_getElem? (i := 1059) (by decide +kernel), List.mem_of_getElem? (i := 1577) (by decide +kernel), List.mem_of_getElem? (i := 1578) (by decide +kernel)⟩
theorem lw_p83 : lw_okq (⟨"CloudDepthModel", "isEmpty", "(III)Z"⟩, 40) := ⟨⟨by decide +kernel, by decide +kernel⟩, List.mem_of_getElem? (i := 1059) (by decide +kernel), List.mem_of_getElem? (i := 1581) (by decide +kernel), List.mem_of_getElem? (i := 1582) (by decide +kernel)⟩
theorem lw_p84 : lw_okq (⟨"CloudDepthModel", "crossingWays", "()I"⟩, 40) := ⟨⟨by decide +kernel, by decide +kernel⟩, List.mem_of_getElem? (i := 1059) (by decide +kernel), List.mem_of_getElem? (i := 1585) (by decide +kernel), List.mem_of_getElem? (i := 1586) (by decide +kernel)⟩
def lw_privs_6 : List (MethodName × Nat) := [(⟨"CloudDepthModel", "third", "()I"⟩, 40), (⟨"CloudDepthModel", "convexMost", "()I"⟩, 40), (⟨"CloudDepthModel", "emptyOnes", "()I"⟩, 40), (⟨"CloudDepthModel", "isEmpty", "(III)Z"⟩, 40), (⟨"CloudDepthModel", "crossingWays", "()I"⟩, 40)]
theorem lw_r6 : ∀ q ∈ lw_privs_6, lw_okq q := List.forall_mem_cons.mpr ⟨lw_p80, List.forall_mem_cons.mpr ⟨lw_p81, List.forall_mem_cons.mpr ⟨lw_p82, List.forall_mem_cons.mpr ⟨lw_p83, List.forall_mem_cons.mpr ⟨lw_p84, fun _ h => absurd h List.not_mem_nil⟩⟩⟩⟩⟩
def lw_privs : List (MethodName × Nat) := lw_privs_1 ++ (lw_privs_2 ++ (lw_privs_3 ++ (lw_privs_4 ++ (lw_privs_5 ++ (lw_privs_6)))))
def lw_tbl : List Cond := k2_sels lw_privs ++ tables_1
theorem lw_privs_ok : ∀ q ∈ lw_privs, lw_okq q := by
  show ∀ q ∈ lw_privs_1 ++ (lw_privs_2 ++ (lw_privs_3 ++ (lw_privs_4 ++ (lw_privs_5 ++ (lw_privs_6))))), lw_okq q
  exact List.forall_mem_append.mpr ⟨lw_r1, List.forall_mem_append.mpr ⟨lw_r2, List.forall_mem_append.mpr ⟨lw_r3, List.forall_mem_append.mpr ⟨lw_r4, List.forall_mem_append.mpr ⟨lw_r5, lw_r6⟩⟩⟩⟩⟩
end
section
def LT : List Cond := lw_tbl.filter goodWord
theorem mG {w : Cond} (h : w ∈ lw_tbl) (g : goodWord w = true) : w ∈ LT := List.mem_filter.mpr ⟨h, g⟩
theorem LT_good : ∀ w ∈ LT, (w.onTables && w.keeps) = true ∨ ∃ ty, w = .arrayClass ty := fun w hw => good_of_word (List.mem_filter.mp hw).2
def NL : List (String × Nat × MethodName × String) := [("CloudDepth", 9, ⟨"CloudDepth$Tape", "<init>", "()V"⟩, "CloudDepth"), ("CloudDepth$TextReader", 11, ⟨"CloudDepth$Cloud", "<init>", "()V"⟩, "CloudDepth"), ("CloudDepth", 27, ⟨"CloudDepth$Cloud", "<init>", "()V"⟩, "CloudDepth"), ("CloudDepth", 37, ⟨"CloudDepth$Hulls", "<init>", "()V"⟩, "CloudDepth"), ("CloudDepth", 44, ⟨"CloudDepth$Depths", "<init>", "()V"⟩, "CloudDepth"), ("CloudDepth", 51, ⟨"CloudDepth$Cuts", "<init>", "()V"⟩, "CloudDepth"), ("CloudDepth$Cuts", 11, ⟨"CloudDepth$SetMarks", "<init>", "()V"⟩, "CloudDepth"), ("CloudDepth", 58, ⟨"CloudDepth$Lines", "<init>", "()V"⟩, "CloudDepth"), ("CloudDepth", 65, ⟨"CloudDepth$Fits", "<init>", "()V"⟩, "CloudDepth"), ("CloudDepth", 72, ⟨"CloudDepth$Shapes", "<init>", "()V"⟩, "CloudDepth"), ("CloudDepth$Shapes", 11, ⟨"CloudDepth$SetMarks", "<init>", "()V"⟩, "CloudDepth"), ("CloudDepth$TextReader", 104, ⟨"CloudDepth", "isWithinReach", "(I)Z"⟩, "CloudDepth"), ("CloudDepth$Cloud", 29, ⟨"CloudDepth", "isWithinReach", "(I)Z"⟩, "CloudDepth"), ("CloudDepth$Hulls", 32, ⟨"CloudDepth", "bit", "(II)I"⟩, "CloudDepth"), ("CloudDepth$Cloud", 58, ⟨"CloudDepth", "signOf", "(I)I"⟩, "CloudDepth"), ("CloudDepth$Cuts", 51, ⟨"CloudDepth", "bit", "(II)I"⟩, "CloudDepth"), ("CloudDepth$Shapes", 36, ⟨"CloudDepth", "bit", "(II)I"⟩, "CloudDepth"), ("CloudDepth$Shapes", 99, ⟨"CloudDepth", "signOf", "(I)I"⟩, "CloudDepth")]
-- the objects of both systems, by number (printed by wip/whole/gen/tables.py)
def oTab : List (Nat × Nat × List Nat) := [(0, 11, [1, 3, 8, 11, 14, 17, 21, 24, 26, 28, 31, 73, 78, 0, 0]), (0, 9, [2, 0, 0, 0, 0, 0, 0]), (1, 2000, []), (0, 10, [4, 0, 1, 7, 0, 0, 0, 0, 0, 0]), (0, 0, [5, 6, 0, 0, 0]), (1, 12, []), (1, 12, []), (4, 12, []), (0, 0, [9, 10, 0, 0, 0]), (1, 12, []), (1, 12, []), (0, 0, [12, 13, 0, 0, 0]), (1, 12, []), (1, 12, []), (0, 4, [15, 16, 0, 0]), (1, 12, []), (1, 12, []), (0, 2, [18, 19, 20, 0, 0, 0, 0, 0, 0, 0, 0, 0, 0]), (1, 1681, []), (1, 12, []), (1, 12, []), (0, 1, [22, 0]), (0, 6, [23]), (1, 128, []), (0, 5, [25, 0]), (1, 66, []), (0, 3, [27, 0, 0, 0, 0, 0]), (1, 12, []), (0, 7, [29]), (0, 6, [30]), (1, 128, []), (0, 8, [32]), (5, 40, [33, 34, 35, 36, 37, 38, 39, 40, 41, 42, 43, 44, 45, 46, 47, 48, 49, 50, 51, 52, 53, 54, 55, 56, 57, 58, 59, 60, 61, 62, 63, 64, 65, 66, 67, 68, 69, 70, 71, 72]), (1, 26, []), (1, 26, []), (1, 26, []), (1, 26, []), (1, 26, []), (1, 26, []), (1, 26, []), (1, 26, []), (1, 26, []), (1, 26, []), (1, 26, []), (1, 26, []), (1, 26, []), (1, 26, []), (1, 26, []), (1, 26, []), (1, 26, []), (1, 26, []), (1, 26, []), (1, 26, []), (1, 26, []), (1, 26, []), (1, 26, []), (1, 26, []), (1, 26, []), (1, 26, []), (1, 26, []), (1, 26, []), (1, 26, []), (1, 26, []), (1, 26, []), (1, 26, []), (1, 26, []), (1, 26, []), (1, 26, []), (1, 26, []), (1, 26, []), (1, 26, []), (1, 26, []), (1, 26, []), (0, 8, [74]), (5, 3, [75, 76, 77]), (1, 26, []), (1, 26, []), (1, 26, []), (3, 3, []), (0, 12, [0, 80, 0, 81, 0, 82, 83, 84, 85, 86, 0, 0, 0, 0, 0, 0, 0, 87, 88, 89, 90, 0, 91, 0, 0, 92, 93, 94, 95, 96, 97, 0, 0, 0, 0, 98, 99, 100, 101, 102]), (2, 2000, []), (2, 2000, []), (1, 403, []), (1, 403, []), (1, 403, []), (4, 403, []), (4, 2, []), (1, 28, []), (1, 28, []), (4, 12, []), (3, 12, []), (1, 1040, []), (1, 78, []), (3, 3, []), (1, 13, []), (1, 13, []), (1, 900, []), (1, 900, []), (1, 66, []), (1, 66, []), (1, 66, []), (1, 66, []), (1, 12, [])]
def NO : Nat := 103
def ob (o : Nat) : Nat × Nat × List Nat := oTab.getD o (9, 0, [])
def ak (o : Nat) : Nat := (ob o).1
def cx (o : Nat) : Nat := (ob o).2.1
def rf (o k : Nat) : Nat := (ob o).2.2.getD k 33
def R_0 : String := "CloudDepth$Cloud"
def F_0 : u_T := fun k => match k with
  | 0 => ("CloudDepth$Cloud", "xs", "[I", true)
  | 1 => ("CloudDepth$Cloud", "ys", "[I", true)
  | 2 => ("CloudDepth$Cloud", "size", "I", false)
  | 3 => ("CloudDepth$Cloud", "grid", "I", false)
  | _ => ("CloudDepth$Cloud", "stamp", "I", false)
def t_0 : Nat → FieldType := fun k => match k with
  | 0 => (.array .int)
  | 1 => (.array .int)
  | 2 => .int
  | 3 => .int
  | _ => .int
def R_1 : String := "CloudDepth$Cuts"
def F_1 : u_T := fun k => match k with
  | 0 => ("CloudDepth$Cuts", "found", "LCloudDepth$SetMarks;", true)
  | _ => ("CloudDepth$Cuts", "stamp", "I", false)
def t_1 : Nat → FieldType := fun k => match k with
  | 0 => (.object "CloudDepth$SetMarks")
  | _ => .int
def R_2 : String := "CloudDepth$Depths"
def F_2 : u_T := fun k => match k with
  | 0 => ("CloudDepth$Depths", "values", "[I", true)
  | 1 => ("CloudDepth$Depths", "dx", "[I", true)
  | 2 => ("CloudDepth$Depths", "dy", "[I", true)
  | 3 => ("CloudDepth$Depths", "stamp", "I", false)
  | 4 => ("CloudDepth$Depths", "greatest", "I", false)
  | 5 => ("CloudDepth$Depths", "greatestCount", "I", false)
  | 6 => ("CloudDepth$Depths", "firstX", "I", false)
  | 7 => ("CloudDepth$Depths", "firstY", "I", false)
  | 8 => ("CloudDepth$Depths", "regionCount", "I", false)
  | 9 => ("CloudDepth$Depths", "leastX", "I", false)
  | 10 => ("CloudDepth$Depths", "mostX", "I", false)
  | 11 => ("CloudDepth$Depths", "leastY", "I", false)
  | _ => ("CloudDepth$Depths", "mostY", "I", false)
def t_2 : Nat → FieldType := fun k => match k with
  | 0 => (.array .int)
  | 1 => (.array .int)
  | 2 => (.array .int)
  | 3 => .int
  | 4 => .int
  | 5 => .int
  | 6 => .int
  | 7 => .int
  | 8 => .int
  | 9 => .int
  | 10 => .int
  | 11 => .int
  | _ => .int
def R_3 : String := "CloudDepth$Fits"
def F_3 : u_T := fun k => match k with
  | 0 => ("CloudDepth$Fits", "byX", "[I", true)
  | 1 => ("CloudDepth$Fits", "stamp", "I", false)
  | 2 => ("CloudDepth$Fits", "greatest", "I", false)
  | 3 => ("CloudDepth$Fits", "greatestCount", "I", false)
  | 4 => ("CloudDepth$Fits", "firstA", "I", false)
  | _ => ("CloudDepth$Fits", "firstB", "I", false)
def t_3 : Nat → FieldType := fun k => match k with
  | 0 => (.array .int)
  | 1 => .int
  | 2 => .int
  | 3 => .int
  | 4 => .int
  | _ => .int
def R_4 : String := "CloudDepth$Hulls"
def F_4 : u_T := fun k => match k with
  | 0 => ("CloudDepth$Hulls", "layers", "[I", true)
  | 1 => ("CloudDepth$Hulls", "corners", "[I", true)
  | 2 => ("CloudDepth$Hulls", "layerCount", "I", false)
  | _ => ("CloudDepth$Hulls", "cornerCount", "I", false)
def t_4 : Nat → FieldType := fun k => match k with
  | 0 => (.array .int)
  | 1 => (.array .int)
  | 2 => .int
  | _ => .int
def R_5 : String := "CloudDepth$Lines"
def F_5 : u_T := fun k => match k with
  | 0 => ("CloudDepth$Lines", "pairs", "[I", true)
  | _ => ("CloudDepth$Lines", "crossings", "I", false)
def t_5 : Nat → FieldType := fun k => match k with
  | 0 => (.array .int)
  | _ => .int
def R_6 : String := "CloudDepth$SetMarks"
def F_6 : u_T := fun k => match k with
  | _ => ("CloudDepth$SetMarks", "words", "[I", true)
def t_6 : Nat → FieldType := fun k => match k with
  | _ => (.array .int)
def R_7 : String := "CloudDepth$Shapes"
def F_7 : u_T := fun k => match k with
  | _ => ("CloudDepth$Shapes", "convex", "LCloudDepth$SetMarks;", true)
def t_7 : Nat → FieldType := fun k => match k with
  | _ => (.object "CloudDepth$SetMarks")
def R_8 : String := "CloudDepth$Shelf"
def F_8 : u_T := fun k => match k with
  | _ => ("CloudDepth$Shelf", "rows", "[[I", true)
def t_8 : Nat → FieldType := fun k => match k with
  | _ => (.array (.array .int))
def R_9 : String := "CloudDepth$Tape"
def F_9 : u_T := fun k => match k with
  | 0 => ("CloudDepth$Tape", "bytes", "[I", true)
  | 1 => ("CloudDepth$Tape", "length", "I", false)
  | 2 => ("CloudDepth$Tape", "start", "I", false)
  | 3 => ("CloudDepth$Tape", "kind", "I", false)
  | 4 => ("CloudDepth$Tape", "number", "I", false)
  | 5 => ("CloudDepth$Tape", "name", "J", false)
  | _ => ("CloudDepth$Tape", "next", "I", false)
def t_9 : Nat → FieldType := fun k => match k with
  | 0 => (.array .int)
  | 1 => .int
  | 2 => .int
  | 3 => .int
  | 4 => .int
  | 5 => .long
  | _ => .int
def R_10 : String := "CloudDepth$TextReader"
def F_10 : u_T := fun k => match k with
  | 0 => ("CloudDepth$TextReader", "told", "LCloudDepth$Cloud;", true)
  | 1 => ("CloudDepth$TextReader", "faultPlace", "I", false)
  | 2 => ("CloudDepth$TextReader", "tape", "LCloudDepth$Tape;", true)
  | 3 => ("CloudDepth$TextReader", "names", "[J", true)
  | 4 => ("CloudDepth$TextReader", "fault", "I", false)
  | 5 => ("CloudDepth$TextReader", "state", "I", false)
  | 6 => ("CloudDepth$TextReader", "tokenCount", "I", false)
  | 7 => ("CloudDepth$TextReader", "pointLines", "I", false)
  | 8 => ("CloudDepth$TextReader", "x", "I", false)
  | _ => ("CloudDepth$TextReader", "minus", "Z", false)
def t_10 : Nat → FieldType := fun k => match k with
  | 0 => (.object "CloudDepth$Cloud")
  | 1 => .int
  | 2 => (.object "CloudDepth$Tape")
  | 3 => (.array .long)
  | 4 => .int
  | 5 => .int
  | 6 => .int
  | 7 => .int
  | 8 => .int
  | _ => .boolean
def R_11 : String := "CloudDepth"
def F_11 : u_T := fun k => match k with
  | 0 => ("CloudDepth", "tape", "LCloudDepth$Tape;", true)
  | 1 => ("CloudDepth", "reader", "LCloudDepth$TextReader;", true)
  | 2 => ("CloudDepth", "cloud", "LCloudDepth$Cloud;", true)
  | 3 => ("CloudDepth", "trial", "LCloudDepth$Cloud;", true)
  | 4 => ("CloudDepth", "hulls", "LCloudDepth$Hulls;", true)
  | 5 => ("CloudDepth", "depths", "LCloudDepth$Depths;", true)
  | 6 => ("CloudDepth", "cuts", "LCloudDepth$Cuts;", true)
  | 7 => ("CloudDepth", "lines", "LCloudDepth$Lines;", true)
  | 8 => ("CloudDepth", "fits", "LCloudDepth$Fits;", true)
  | 9 => ("CloudDepth", "shapes", "LCloudDepth$Shapes;", true)
  | 10 => ("CloudDepth", "past", "LCloudDepth$Shelf;", true)
  | 11 => ("CloudDepth", "slots", "LCloudDepth$Shelf;", true)
  | 12 => ("CloudDepth", "slotHolds", "[Z", true)
  | 13 => ("CloudDepth", "undoable", "I", false)
  | _ => ("CloudDepth", "nextPast", "I", false)
def t_11 : Nat → FieldType := fun k => match k with
  | 0 => (.object "CloudDepth$Tape")
  | 1 => (.object "CloudDepth$TextReader")
  | 2 => (.object "CloudDepth$Cloud")
  | 3 => (.object "CloudDepth$Cloud")
  | 4 => (.object "CloudDepth$Hulls")
  | 5 => (.object "CloudDepth$Depths")
  | 6 => (.object "CloudDepth$Cuts")
  | 7 => (.object "CloudDepth$Lines")
  | 8 => (.object "CloudDepth$Fits")
  | 9 => (.object "CloudDepth$Shapes")
  | 10 => (.object "CloudDepth$Shelf")
  | 11 => (.object "CloudDepth$Shelf")
  | 12 => (.array .boolean)
  | 13 => .int
  | _ => .int
def R_12 : String := "CloudDepthModel"
def F_12 : u_T := fun k => match k with
  | 0 => ("CloudDepthModel", "thrown", "I", false)
  | 1 => ("CloudDepthModel", "tape", "[B", true)
  | 2 => ("CloudDepthModel", "taped", "I", false)
  | 3 => ("CloudDepthModel", "text", "[B", true)
  | 4 => ("CloudDepthModel", "size", "I", false)
  | 5 => ("CloudDepthModel", "tKind", "[I", true)
  | 6 => ("CloudDepthModel", "tPlace", "[I", true)
  | 7 => ("CloudDepthModel", "tValue", "[I", true)
  | 8 => ("CloudDepthModel", "tName", "[J", true)
  | 9 => ("CloudDepthModel", "keys", "[J", true)
  | 10 => ("CloudDepthModel", "tokens", "I", false)
  | 11 => ("CloudDepthModel", "t", "I", false)
  | 12 => ("CloudDepthModel", "fault", "I", false)
  | 13 => ("CloudDepthModel", "faultPlace", "I", false)
  | 14 => ("CloudDepthModel", "worst", "I", false)
  | 15 => ("CloudDepthModel", "worstPlace", "I", false)
  | 16 => ("CloudDepthModel", "place", "I", false)
  | 17 => ("CloudDepthModel", "now", "[I", true)
  | 18 => ("CloudDepthModel", "draft", "[I", true)
  | 19 => ("CloudDepthModel", "names", "[J", true)
  | 20 => ("CloudDepthModel", "isGood", "[Z", true)
  | 21 => ("CloudDepthModel", "newPoints", "I", false)
  | 22 => ("CloudDepthModel", "earlier", "[I", true)
  | 23 => ("CloudDepthModel", "earliest", "I", false)
  | 24 => ("CloudDepthModel", "undos", "I", false)
  | 25 => ("CloudDepthModel", "held", "[I", true)
  | 26 => ("CloudDepthModel", "isHeld", "[Z", true)
  | 27 => ("CloudDepthModel", "layers", "[I", true)
  | 28 => ("CloudDepthModel", "cornerAt", "[I", true)
  | 29 => ("CloudDepthModel", "oneOf", "[I", true)
  | 30 => ("CloudDepthModel", "otherOf", "[I", true)
  | 31 => ("CloudDepthModel", "meetings", "I", false)
  | 32 => ("CloudDepthModel", "deepX", "I", false)
  | 33 => ("CloudDepthModel", "deepY", "I", false)
  | 34 => ("CloudDepthModel", "deepMany", "I", false)
  | 35 => ("CloudDepthModel", "overs", "[I", true)
  | 36 => ("CloudDepthModel", "unders", "[I", true)
  | 37 => ("CloudDepthModel", "lowers", "[I", true)
  | 38 => ("CloudDepthModel", "uppers", "[I", true)
  | _ => ("CloudDepthModel", "restOf", "[I", true)
def t_12 : Nat → FieldType := fun k => match k with
  | 0 => .int
  | 1 => (.array .byte)
  | 2 => .int
  | 3 => (.array .byte)
  | 4 => .int
  | 5 => (.array .int)
  | 6 => (.array .int)
  | 7 => (.array .int)
  | 8 => (.array .long)
  | 9 => (.array .long)
  | 10 => .int
  | 11 => .int
  | 12 => .int
  | 13 => .int
  | 14 => .int
  | 15 => .int
  | 16 => .int
  | 17 => (.array .int)
  | 18 => (.array .int)
  | 19 => (.array .long)
  | 20 => (.array .boolean)
  | 21 => .int
  | 22 => (.array .int)
  | 23 => .int
  | 24 => .int
  | 25 => (.array .int)
  | 26 => (.array .boolean)
  | 27 => (.array .int)
  | 28 => (.array .int)
  | 29 => (.array .int)
  | 30 => (.array .int)
  | 31 => .int
  | 32 => .int
  | 33 => .int
  | 34 => .int
  | 35 => (.array .int)
  | 36 => (.array .int)
  | 37 => (.array .int)
  | 38 => (.array .int)
  | _ => (.array .int)
def classes : List vw_C := [(R_0, F_0, 5), (R_1, F_1, 2), (R_2, F_2, 13), (R_3, F_3, 6), (R_4, F_4, 4), (R_5, F_5, 2), (R_6, F_6, 1), (R_7, F_7, 1), (R_8, F_8, 1), (R_9, F_9, 7), (R_10, F_10, 10), (R_11, F_11, 15), (R_12, F_12, 40)]
def KF : List (List Nat) := [[2, 2, 0, 0, 0], [2, 0], [2, 2, 2, 0, 0, 0, 0, 0, 0, 0, 0, 0, 0], [2, 0, 0, 0, 0, 0], [2, 2, 0, 0], [2, 0], [2], [2], [2], [2, 0, 0, 0, 0, 1, 0], [2, 0, 2, 2, 0, 0, 0, 0, 0, 3], [2, 2, 2, 2, 2, 2, 2, 2, 2, 2, 2, 2, 2, 0, 0], [0, 2, 0, 2, 0, 2, 2, 2, 2, 2, 0, 0, 0, 0, 0, 0, 0, 2, 2, 2, 2, 0, 2, 0, 0, 2, 2, 2, 2, 2, 2, 0, 0, 0, 0, 2, 2, 2, 2, 2]]
def TF : List (Nat → FieldType) := [t_0, t_1, t_2, t_3, t_4, t_5, t_6, t_7, t_8, t_9, t_10, t_11, t_12]
theorem n_0 : ∀ a, a < 5 → ∀ b, b < 5 → a ≠ b → (F_0 a).2.1 ≠ (F_0 b).2.1 := by decide +kernel
theorem t_0_ok : ∀ k, k < 5 → parseFieldDescriptor (F_0 k).2.2.1 = some (t_0 k) := by decide +kernel
theorem k_0 : ∀ k, k < 5 → ((KF.getD 0 []).getD k 9 = 0 → t_0 k = .int ∧ (F_0 k).2.2.2 = false) ∧ ((KF.getD 0 []).getD k 9 = 1 → t_0 k = .long ∧ (F_0 k).2.2.2 = false) ∧ ((KF.getD 0 []).getD k 9 = 3 → t_0 k = .boolean ∧ (F_0 k).2.2.2 = false) := by decide +kernel
theorem i_0 : ∀ w ∈ u_ws R_0 F_0 5, w ∈ LT := by
  intro w hw
  obtain ⟨k, hk, rfl⟩ := List.mem_map.mp hw
  have hk := List.mem_range.mp hk
  match k, hk with
  | 0, _ => exact mG (List.mem_append_right _ (List.mem_append_left _ (List.mem_of_getElem? (l := tables_1_1) (i := 112) rfl))) rfl
  | 1, _ => exact mG (List.mem_append_right _ (List.mem_append_left _ (List.mem_of_getElem? (l := tables_1_1) (i := 114) rfl))) rfl
  | 2, _ => exact mG (List.mem_append_right _ (List.mem_append_left _ (List.mem_of_getElem? (l := tables_1_1) (i := 116) rfl))) rfl
  | 3, _ => exact mG (List.mem_append_right _ (List.mem_append_left _ (List.mem_of_getElem? (l := tables_1_1) (i := 118) rfl))) rfl
  | 4, _ => exact mG (List.mem_append_right _ (List.mem_append_left _ (List.mem_of_getElem? (l := tables_1_1) (i := 120) rfl))) rfl
  | k + 5, h => exact absurd h (by omega)
theorem n_1 : ∀ a, a < 2 → ∀ b, b < 2 → a ≠ b → (F_1 a).2.1 ≠ (F_1 b).2.1 := by decide +kernel
theorem t_1_ok : ∀ k, k < 2 → parseFieldDescriptor (F_1 k).2.2.1 = some (t_1 k) := by decide +kernel
theorem k_1 : ∀ k, k < 2 → ((KF.getD 1 []).getD k 9 = 0 → t_1 k = .int ∧ (F_1 k).2.2.2 = false) ∧ ((KF.getD 1 []).getD k 9 = 1 → t_1 k = .long ∧ (F_1 k).2.2.2 = false) ∧ ((KF.getD 1 []).getD k 9 = 3 → t_1 k = .boolean ∧ (F_1 k).2.2.2 = false) := by decide +kernel
theorem i_1 : ∀ w ∈ u_ws R_1 F_1 2, w ∈ LT := by
  intro w hw
  obtain ⟨k, hk, rfl⟩ := List.mem_map.mp hw
  have hk := List.mem_range.mp hk
  match k, hk with
  | 0, _ => exact mG (List.mem_append_right _ (List.mem_append_right _ (List.mem_append_left _ (List.mem_of_getElem? (l := tables_1_2) (i := 14) rfl)))) rfl
  | 1, _ => exact mG (List.mem_append_right _ (List.mem_append_right _ (List.mem_append_left _ (List.mem_of_getElem? (l := tables_1_2) (i := 16) rfl)))) rfl
  | k + 2, h => exact absurd h (by omega)
theorem n_2 : ∀ a, a < 13 → ∀ b, b < 13 → a ≠ b → (F_2 a).2.1 ≠ (F_2 b).2.1 := by decide +kernel
theorem t_2_ok : ∀ k, k < 13 → parseFieldDescriptor (F_2 k).2.2.1 = some (t_2 k) := by decide +kernel
theorem k_2 : ∀ k, k < 13 → ((KF.getD 2 []).getD k 9 = 0 → t_2 k = .int ∧ (F_2 k).2.2.2 = false) ∧ ((KF.getD 2 []).getD k 9 = 1 → t_2 k = .long ∧ (F_2 k).2.2.2 = false) ∧ ((KF.getD 2 []).getD k 9 = 3 → t_2 k = .boolean ∧ (F_2 k).2.2.2 = false) := by decide +kernel
theorem i_2 : ∀ w ∈ u_ws R_2 F_2 13, w ∈ LT := by
  intro w hw
  obtain ⟨k, hk, rfl⟩ := List.mem_map.mp hw
  have hk := List.mem_range.mp hk
  match k, hk with
  | 0, _ => exact mG (List.mem_append_right _ (List.mem_append_left _ (List.mem_of_getElem? (l := tables_1_1) (i := 208) rfl))) rfl
  | 1, _ => exact mG (List.mem_append_right _ (List.mem_append_left _ (List.mem_of_getElem? (l := tables_1_1) (i := 210) rfl))) rfl
  | 2, _ => exact mG (List.mem_append_right _ (List.mem_append_left _ (List.mem_of_getElem? (l := tables_1_1) (i := 212) rfl))) rfl
  | 3, _ => exact mG (List.mem_append_right _ (List.mem_append_left _ (List.mem_of_getElem? (l := tables_1_1) (i := 214) rfl))) rfl
  | 4, _ => exact mG (List.mem_append_right _ (List.mem_append_left _ (List.mem_of_getElem? (l := tables_1_1) (i := 216) rfl))) rfl
  | 5, _ => exact mG (List.mem_append_right _ (List.mem_append_left _ (List.mem_of_getElem? (l := tables_1_1) (i := 218) rfl))) rfl
  | 6, _ => exact mG (List.mem_append_right _ (List.mem_append_left _ (List.mem_of_getElem? (l := tables_1_1) (i := 220) rfl))) rfl
  | 7, _ => exact mG (List.mem_append_right _ (List.mem_append_left _ (List.mem_of_getElem? (l := tables_1_1) (i := 222) rfl))) rfl
  | 8, _ => exact mG (List.mem_append_right _ (List.mem_append_left _ (List.mem_of_getElem? (l := tables_1_1) (i := 224) rfl))) rfl
  | 9, _ => exact mG (List.mem_append_right _ (List.mem_append_left _ (List.mem_of_getElem? (l := tables_1_1) (i := 226) rfl))) rfl
  | 10, _ => exact mG (List.mem_append_right _ (List.mem_append_left _ (List.mem_of_getElem? (l := tables_1_1) (i := 228) rfl))) rfl
  | 11, _ => exact mG (List.mem_append_right _ (List.mem_append_left _ (List.mem_of_getElem? (l := tables_1_1) (i := 230) rfl))) rfl
  | 12, _ => exact mG (List.mem_append_right _ (List.mem_append_left _ (List.mem_of_getElem? (l := tables_1_1) (i := 232) rfl))) rfl
  | k + 13, h => exact absurd h (by omega)
theorem n_3 : ∀ a, a < 6 → ∀ b, b < 6 → a ≠ b → (F_3 a).2.1 ≠ (F_3 b).2.1 := by decide +kernel
theorem t_3_ok : ∀ k, k < 6 → parseFieldDescriptor (F_3 k).2.2.1 = some (t_3 k) := by decide +kernel
theorem k_3 : ∀ k, k < 6 → ((KF.getD 3 []).getD k 9 = 0 → t_3 k = .int ∧ (F_3 k).2.2.2 = false) ∧ ((KF.getD 3 []).getD k 9 = 1 → t_3 k = .long ∧ (F_3 k).2.2.2 = false) ∧ ((KF.getD 3 []).getD k 9 = 3 → t_3 k = .boolean ∧ (F_3 k).2.2.2 = false) := by decide +kernel
theorem i_3 : ∀ w ∈ u_ws R_3 F_3 6, w ∈ LT := by
  intro w hw
  obtain ⟨k, hk, rfl⟩ := List.mem_map.mp hw
  have hk := List.mem_range.mp hk
  match k, hk with
  | 0, _ => exact mG (List.mem_append_right _ (List.mem_append_right _ (List.mem_append_left _ (List.mem_of_getElem? (l := tables_1_2) (i := 49) rfl)))) rfl
  | 1, _ => exact mG (List.mem_append_right _ (List.mem_append_right _ (List.mem_append_left _ (List.mem_of_getElem? (l := tables_1_2) (i := 51) rfl)))) rfl
  | 2, _ => exact mG (List.mem_append_right _ (List.mem_append_right _ (List.mem_append_left _ (List.mem_of_getElem? (l := tables_1_2) (i := 53) rfl)))) rfl
  | 3, _ => exact mG (List.mem_append_right _ (List.mem_append_right _ (List.mem_append_left _ (List.mem_of_getElem? (l := tables_1_2) (i := 55) rfl)))) rfl
  | 4, _ => exact mG (List.mem_append_right _ (List.mem_append_right _ (List.mem_append_left _ (List.mem_of_getElem? (l := tables_1_2) (i := 57) rfl)))) rfl
  | 5, _ => exact mG (List.mem_append_right _ (List.mem_append_right _ (List.mem_append_left _ (List.mem_of_getElem? (l := tables_1_2) (i := 59) rfl)))) rfl
  | k + 6, h => exact absurd h (by omega)
theorem n_4 : ∀ a, a < 4 → ∀ b, b < 4 → a ≠ b → (F_4 a).2.1 ≠ (F_4 b).2.1 := by decide +kernel
theorem t_4_ok : ∀ k, k < 4 → parseFieldDescriptor (F_4 k).2.2.1 = some (t_4 k) := by decide +kernel
theorem k_4 : ∀ k, k < 4 → ((KF.getD 4 []).getD k 9 = 0 → t_4 k = .int ∧ (F_4 k).2.2.2 = false) ∧ ((KF.getD 4 []).getD k 9 = 1 → t_4 k = .long ∧ (F_4 k).2.2.2 = false) ∧ ((KF.getD 4 []).getD k 9 = 3 → t_4 k = .boolean ∧ (F_4 k).2.2.2 = false) := by decide +kernel
theorem i_4 : ∀ w ∈ u_ws R_4 F_4 4, w ∈ LT := by
  intro w hw
  obtain ⟨k, hk, rfl⟩ := List.mem_map.mp hw
  have hk := List.mem_range.mp hk
  match k, hk with
  | 0, _ => exact mG (List.mem_append_right _ (List.mem_append_left _ (List.mem_of_getElem? (l := tables_1_1) (i := 171) rfl))) rfl
  | 1, _ => exact mG (List.mem_append_right _ (List.mem_append_left _ (List.mem_of_getElem? (l := tables_1_1) (i := 173) rfl))) rfl
  | 2, _ => exact mG (List.mem_append_right _ (List.mem_append_left _ (List.mem_of_getElem? (l := tables_1_1) (i := 175) rfl))) rfl
  | 3, _ => exact mG (List.mem_append_right _ (List.mem_append_left _ (List.mem_of_getElem? (l := tables_1_1) (i := 177) rfl))) rfl
  | k + 4, h => exact absurd h (by omega)
theorem n_5 : ∀ a, a < 2 → ∀ b, b < 2 → a ≠ b → (F_5 a).2.1 ≠ (F_5 b).2.1 := by decide +kernel
theorem t_5_ok : ∀ k, k < 2 → parseFieldDescriptor (F_5 k).2.2.1 = some (t_5 k) := by decide +kernel
theorem k_5 : ∀ k, k < 2 → ((KF.getD 5 []).getD k 9 = 0 → t_5 k = .int ∧ (F_5 k).2.2.2 = false) ∧ ((KF.getD 5 []).getD k 9 = 1 → t_5 k = .long ∧ (F_5 k).2.2.2 = false) ∧ ((KF.getD 5 []).getD k 9 = 3 → t_5 k = .boolean ∧ (F_5 k).2.2.2 = false) := by decide +kernel
theorem i_5 : ∀ w ∈ u_ws R_5 F_5 2, w ∈ LT := by
  intro w hw
  obtain ⟨k, hk, rfl⟩ := List.mem_map.mp hw
  have hk := List.mem_range.mp hk
  match k, hk with
  | 0, _ => exact mG (List.mem_append_right _ (List.mem_append_right _ (List.mem_append_left _ (List.mem_of_getElem? (l := tables_1_2) (i := 28) rfl)))) rfl
  | 1, _ => exact mG (List.mem_append_right _ (List.mem_append_right _ (List.mem_append_left _ (List.mem_of_getElem? (l := tables_1_2) (i := 30) rfl)))) rfl
  | k + 2, h => exact absurd h (by omega)
theorem n_6 : ∀ a, a < 1 → ∀ b, b < 1 → a ≠ b → (F_6 a).2.1 ≠ (F_6 b).2.1 := by decide +kernel
theorem t_6_ok : ∀ k, k < 1 → parseFieldDescriptor (F_6 k).2.2.1 = some (t_6 k) := by decide +kernel
theorem k_6 : ∀ k, k < 1 → ((KF.getD 6 []).getD k 9 = 0 → t_6 k = .int ∧ (F_6 k).2.2.2 = false) ∧ ((KF.getD 6 []).getD k 9 = 1 → t_6 k = .long ∧ (F_6 k).2.2.2 = false) ∧ ((KF.getD 6 []).getD k 9 = 3 → t_6 k = .boolean ∧ (F_6 k).2.2.2 = false) := by decide +kernel
theorem i_6 : ∀ w ∈ u_ws R_6 F_6 1, w ∈ LT := by
  intro w hw
  obtain ⟨k, hk, rfl⟩ := List.mem_map.mp hw
  have hk := List.mem_range.mp hk
  match k, hk with
  | 0, _ => exact mG (List.mem_append_right _ (List.mem_append_right _ (List.mem_append_left _ (List.mem_of_getElem? (l := tables_1_2) (i := 8) rfl)))) rfl
  | k + 1, h => exact absurd h (by omega)
theorem n_7 : ∀ a, a < 1 → ∀ b, b < 1 → a ≠ b → (F_7 a).2.1 ≠ (F_7 b).2.1 := by decide +kernel
theorem t_7_ok : ∀ k, k < 1 → parseFieldDescriptor (F_7 k).2.2.1 = some (t_7 k) := by decide +kernel
theorem k_7 : ∀ k, k < 1 → ((KF.getD 7 []).getD k 9 = 0 → t_7 k = .int ∧ (F_7 k).2.2.2 = false) ∧ ((KF.getD 7 []).getD k 9 = 1 → t_7 k = .long ∧ (F_7 k).2.2.2 = false) ∧ ((KF.getD 7 []).getD k 9 = 3 → t_7 k = .boolean ∧ (F_7 k).2.2.2 = false) := by decide +kernel
theorem i_7 : ∀ w ∈ u_ws R_7 F_7 1, w ∈ LT := by
  intro w hw
  obtain ⟨k, hk, rfl⟩ := List.mem_map.mp hw
  have hk := List.mem_range.mp hk
  match k, hk with
  | 0, _ => exact mG (List.mem_append_right _ (List.mem_append_right _ (List.mem_append_left _ (List.mem_of_getElem? (l := tables_1_2) (i := 71) rfl)))) rfl
  | k + 1, h => exact absurd h (by omega)
theorem n_8 : ∀ a, a < 1 → ∀ b, b < 1 → a ≠ b → (F_8 a).2.1 ≠ (F_8 b).2.1 := by decide +kernel
theorem t_8_ok : ∀ k, k < 1 → parseFieldDescriptor (F_8 k).2.2.1 = some (t_8 k) := by decide +kernel
theorem k_8 : ∀ k, k < 1 → ((KF.getD 8 []).getD k 9 = 0 → t_8 k = .int ∧ (F_8 k).2.2.2 = false) ∧ ((KF.getD 8 []).getD k 9 = 1 → t_8 k = .long ∧ (F_8 k).2.2.2 = false) ∧ ((KF.getD 8 []).getD k 9 = 3 → t_8 k = .boolean ∧ (F_8 k).2.2.2 = false) := by decide +kernel
theorem i_8 : ∀ w ∈ u_ws R_8 F_8 1, w ∈ LT := by
  intro w hw
  obtain ⟨k, hk, rfl⟩ := List.mem_map.mp hw
  have hk := List.mem_range.mp hk
  match k, hk with
  | 0, _ => exact mG (List.mem_append_right _ (List.mem_append_right _ (List.mem_append_left _ (List.mem_of_getElem? (l := tables_1_2) (i := 86) rfl)))) rfl
  | k + 1, h => exact absurd h (by omega)
theorem n_9 : ∀ a, a < 7 → ∀ b, b < 7 → a ≠ b → (F_9 a).2.1 ≠ (F_9 b).2.1 := by decide +kernel
theorem t_9_ok : ∀ k, k < 7 → parseFieldDescriptor (F_9 k).2.2.1 = some (t_9 k) := by decide +kernel
theorem k_9 : ∀ k, k < 7 → ((KF.getD 9 []).getD k 9 = 0 → t_9 k = .int ∧ (F_9 k).2.2.2 = false) ∧ ((KF.getD 9 []).getD k 9 = 1 → t_9 k = .long ∧ (F_9 k).2.2.2 = false) ∧ ((KF.getD 9 []).getD k 9 = 3 → t_9 k = .boolean ∧ (F_9 k).2.2.2 = false) := by decide +kernel
theorem i_9 : ∀ w ∈ u_ws R_9 F_9 7, w ∈ LT := by
  intro w hw
  obtain ⟨k, hk, rfl⟩ := List.mem_map.mp hw
  have hk := List.mem_range.mp hk
  match k, hk with
  | 0, _ => exact mG (List.mem_append_right _ (List.mem_append_left _ (List.mem_of_getElem? (l := tables_1_1) (i := 48) rfl))) rfl
  | 1, _ => exact mG (List.mem_append_right _ (List.mem_append_left _ (List.mem_of_getElem? (l := tables_1_1) (i := 50) rfl))) rfl
  | 2, _ => exact mG (List.mem_append_right _ (List.mem_append_left _ (List.mem_of_getElem? (l := tables_1_1) (i := 52) rfl))) rfl
  | 3, _ => exact mG (List.mem_append_right _ (List.mem_append_left _ (List.mem_of_getElem? (l := tables_1_1) (i := 54) rfl))) rfl
  | 4, _ => exact mG (List.mem_append_right _ (List.mem_append_left _ (List.mem_of_getElem? (l := tables_1_1) (i := 56) rfl))) rfl
  | 5, _ => exact mG (List.mem_append_right _ (List.mem_append_left _ (List.mem_of_getElem? (l := tables_1_1) (i := 58) rfl))) rfl
  | 6, _ => exact mG (List.mem_append_right _ (List.mem_append_left _ (List.mem_of_getElem? (l := tables_1_1) (i := 60) rfl))) rfl
  | k + 7, h => exact absurd h (by omega)
theorem n_10 : ∀ a, a < 10 → ∀ b, b < 10 → a ≠ b → (F_10 a).2.1 ≠ (F_10 b).2.1 := by decide +kernel
theorem t_10_ok : ∀ k, k < 10 → parseFieldDescriptor (F_10 k).2.2.1 = some (t_10 k) := by decide +kernel
theorem k_10 : ∀ k, k < 10 → ((KF.getD 10 []).getD k 9 = 0 → t_10 k = .int ∧ (F_10 k).2.2.2 = false) ∧ ((KF.getD 10 []).getD k 9 = 1 → t_10 k = .long ∧ (F_10 k).2.2.2 = false) ∧ ((KF.getD 10 []).getD k 9 = 3 → t_10 k = .boolean ∧ (F_10 k).2.2.2 = false) := by decide +kernel
theorem i_10 : ∀ w ∈ u_ws R_10 F_10 10, w ∈ LT := by
  intro w hw
  obtain ⟨k, hk, rfl⟩ := List.mem_map.mp hw
  have hk := List.mem_range.mp hk
  match k, hk with
  | 0, _ => exact mG (List.mem_append_right _ (List.mem_append_left _ (List.mem_of_getElem? (l := tables_1_1) (i := 135) rfl))) rfl
  | 1, _ => exact mG (List.mem_append_right _ (List.mem_append_left _ (List.mem_of_getElem? (l := tables_1_1) (i := 137) rfl))) rfl
  | 2, _ => exact mG (List.mem_append_right _ (List.mem_append_left _ (List.mem_of_getElem? (l := tables_1_1) (i := 139) rfl))) rfl
  | 3, _ => exact mG (List.mem_append_right _ (List.mem_append_left _ (List.mem_of_getElem? (l := tables_1_1) (i := 141) rfl))) rfl
  | 4, _ => exact mG (List.mem_append_right _ (List.mem_append_left _ (List.mem_of_getElem? (l := tables_1_1) (i := 143) rfl))) rfl
  | 5, _ => exact mG (List.mem_append_right _ (List.mem_append_left _ (List.mem_of_getElem? (l := tables_1_1) (i := 145) rfl))) rfl
  | 6, _ => exact mG (List.mem_append_right _ (List.mem_append_left _ (List.mem_of_getElem? (l := tables_1_1) (i := 147) rfl))) rfl
  | 7, _ => exact mG (List.mem_append_right _ (List.mem_append_left _ (List.mem_of_getElem? (l := tables_1_1) (i := 149) rfl))) rfl
  | 8, _ => exact mG (List.mem_append_right _ (List.mem_append_left _ (List.mem_of_getElem? (l := tables_1_1) (i := 151) rfl))) rfl
  | 9, _ => exact mG (List.mem_append_right _ (List.mem_append_left _ (List.mem_of_getElem? (l := tables_1_1) (i := 153) rfl))) rfl
  | k + 10, h => exact absurd h (by omega)
theorem n_11 : ∀ a, a < 15 → ∀ b, b < 15 → a ≠ b → (F_11 a).2.1 ≠ (F_11 b).2.1 := by decide +kernel
theorem t_11_ok : ∀ k, k < 15 → parseFieldDescriptor (F_11 k).2.2.1 = some (t_11 k) := by decide +kernel
theorem k_11 : ∀ k, k < 15 → ((KF.getD 11 []).getD k 9 = 0 → t_11 k = .int ∧ (F_11 k).2.2.2 = false) ∧ ((KF.getD 11 []).getD k 9 = 1 → t_11 k = .long ∧ (F_11 k).2.2.2 = false) ∧ ((KF.getD 11 []).getD k 9 = 3 → t_11 k = .boolean ∧ (F_11 k).2.2.2 = false) := by decide +kernel
theorem i_11 : ∀ w ∈ u_ws R_11 F_11 15, w ∈ LT := by
  intro w hw
  obtain ⟨k, hk, rfl⟩ := List.mem_map.mp hw
  have hk := List.mem_range.mp hk
  match k, hk with
  | 0, _ => exact mG (List.mem_append_right _ (List.mem_append_right _ (List.mem_append_left _ (List.mem_of_getElem? (l := tables_1_2) (i := 104) rfl)))) rfl
  | 1, _ => exact mG (List.mem_append_right _ (List.mem_append_right _ (List.mem_append_left _ (List.mem_of_getElem? (l := tables_1_2) (i := 106) rfl)))) rfl
  | 2, _ => exact mG (List.mem_append_right _ (List.mem_append_right _ (List.mem_append_left _ (List.mem_of_getElem? (l := tables_1_2) (i := 108) rfl)))) rfl
  | 3, _ => exact mG (List.mem_append_right _ (List.mem_append_right _ (List.mem_append_left _ (List.mem_of_getElem? (l := tables_1_2) (i := 110) rfl)))) rfl
  | 4, _ => exact mG (List.mem_append_right _ (List.mem_append_right _ (List.mem_append_left _ (List.mem_of_getElem? (l := tables_1_2) (i := 112) rfl)))) rfl
  | 5, _ => exact mG (List.mem_append_right _ (List.mem_append_right _ (List.mem_append_left _ (List.mem_of_getElem? (l := tables_1_2) (i := 114) rfl)))) rfl
  | 6, _ => exact mG (List.mem_append_right _ (List.mem_append_right _ (List.mem_append_left _ (List.mem_of_getElem? (l := tables_1_2) (i := 116) rfl)))) rfl
  | 7, _ => exact mG (List.mem_append_right _ (List.mem_append_right _ (List.mem_append_left _ (List.mem_of_getElem? (l := tables_1_2) (i := 118) rfl)))) rfl
  | 8, _ => exact mG (List.mem_append_right _ (List.mem_append_right _ (List.mem_append_left _ (List.mem_of_getElem? (l := tables_1_2) (i := 120) rfl)))) rfl
  | 9, _ => exact mG (List.mem_append_right _ (List.mem_append_right _ (List.mem_append_left _ (List.mem_of_getElem? (l := tables_1_2) (i := 122) rfl)))) rfl
  | 10, _ => exact mG (List.mem_append_right _ (List.mem_append_right _ (List.mem_append_left _ (List.mem_of_getElem? (l := tables_1_2) (i := 124) rfl)))) rfl
  | 11, _ => exact mG (List.mem_append_right _ (List.mem_append_right _ (List.mem_append_left _ (List.mem_of_getElem? (l := tables_1_2) (i := 126) rfl)))) rfl
  | 12, _ => exact mG (List.mem_append_right _ (List.mem_append_right _ (List.mem_append_left _ (List.mem_of_getElem? (l := tables_1_2) (i := 128) rfl)))) rfl
  | 13, _ => exact mG (List.mem_append_right _ (List.mem_append_right _ (List.mem_append_left _ (List.mem_of_getElem? (l := tables_1_2) (i := 130) rfl)))) rfl
  | 14, _ => exact mG (List.mem_append_right _ (List.mem_append_right _ (List.mem_append_left _ (List.mem_of_getElem? (l := tables_1_2) (i := 132) rfl)))) rfl
  | k + 15, h => exact absurd h (by omega)
theorem n_12 : ∀ a, a < 40 → ∀ b, b < 40 → a ≠ b → (F_12 a).2.1 ≠ (F_12 b).2.1 := by decide +kernel
theorem t_12_ok : ∀ k, k < 40 → parseFieldDescriptor (F_12 k).2.2.1 = some (t_12 k) := by decide +kernel
theorem k_12 : ∀ k, k < 40 → ((KF.getD 12 []).getD k 9 = 0 → t_12 k = .int ∧ (F_12 k).2.2.2 = false) ∧ ((KF.getD 12 []).getD k 9 = 1 → t_12 k = .long ∧ (F_12 k).2.2.2 = false) ∧ ((KF.getD 12 []).getD k 9 = 3 → t_12 k = .boolean ∧ (F_12 k).2.2.2 = false) := by decide +kernel
theorem i_12 : ∀ w ∈ u_ws R_12 F_12 40, w ∈ LT := by
  intro w hw
  obtain ⟨k, hk, rfl⟩ := List.mem_map.mp hw
  have hk := List.mem_range.mp hk
  match k, hk with
  | 0, _ => exact mG (List.mem_append_right _ (List.mem_append_right _ (List.mem_append_right _ (List.mem_append_right _ (List.mem_append_right _ (List.mem_append_left _ (List.mem_of_getElem? (l := tables_1_5) (i := 150) rfl))))))) rfl
  | 1, _ => exact mG (List.mem_append_right _ (List.mem_append_right _ (List.mem_append_right _ (List.mem_append_right _ (List.mem_append_right _ (List.mem_append_left _ (List.mem_of_getElem? (l := tables_1_5) (i := 152) rfl))))))) rfl
  | 2, _ => exact mG (List.mem_append_right _ (List.mem_append_right _ (List.mem_append_right _ (List.mem_append_right _ (List.mem_append_right _ (List.mem_append_left _ (List.mem_of_getElem? (l := tables_1_5) (i := 154) rfl))))))) rfl
  | 3, _ => exact mG (List.mem_append_right _ (List.mem_append_right _ (List.mem_append_right _ (List.mem_append_right _ (List.mem_append_right _ (List.mem_append_left _ (List.mem_of_getElem? (l := tables_1_5) (i := 156) rfl))))))) rfl
  | 4, _ => exact mG (List.mem_append_right _ (List.mem_append_right _ (List.mem_append_right _ (List.mem_append_right _ (List.mem_append_right _ (List.mem_append_left _ (List.mem_of_getElem? (l := tables_1_5) (i := 158) rfl))))))) rfl
  | 5, _ => exact mG (List.mem_append_right _ (List.mem_append_right _ (List.mem_append_right _ (List.mem_append_right _ (List.mem_append_right _ (List.mem_append_left _ (List.mem_of_getElem? (l := tables_1_5) (i := 160) rfl))))))) rfl
  | 6, _ => exact mG (List.mem_append_right _ (List.mem_append_right _ (List.mem_append_right _ (List.mem_append_right _ (List.mem_append_right _ (List.mem_append_left _ (List.mem_of_getElem? (l := tables_1_5) (i := 162) rfl))))))) rfl
  | 7, _ => exact mG (List.mem_append_right _ (List.mem_append_right _ (List.mem_append_right _ (List.mem_append_right _ (List.mem_append_right _ (List.mem_append_left _ (List.mem_of_getElem? (l := tables_1_5) (i := 164) rfl))))))) rfl
  | 8, _ => exact mG (List.mem_append_right _ (List.mem_append_right _ (List.mem_append_right _ (List.mem_append_right _ (List.mem_append_right _ (List.mem_append_left _ (List.mem_of_getElem? (l := tables_1_5) (i := 166) rfl))))))) rfl
  | 9, _ => exact mG (List.mem_append_right _ (List.mem_append_right _ (List.mem_append_right _ (List.mem_append_right _ (List.mem_append_right _ (List.mem_append_left _ (List.mem_of_getElem? (l := tables_1_5) (i := 168) rfl))))))) rfl
  | 10, _ => exact mG (List.mem_append_right _ (List.mem_append_right _ (List.mem_append_right _ (List.mem_append_right _ (List.mem_append_right _ (List.mem_append_left _ (List.mem_of_getElem? (l := tables_1_5) (i := 170) rfl))))))) rfl
  | 11, _ => exact mG (List.mem_append_right _ (List.mem_append_right _ (List.mem_append_right _ (List.mem_append_right _ (List.mem_append_right _ (List.mem_append_left _ (List.mem_of_getElem? (l := tables_1_5) (i := 172) rfl))))))) rfl
  | 12, _ => exact mG (List.mem_append_right _ (List.mem_append_right _ (List.mem_append_right _ (List.mem_append_right _ (List.mem_append_right _ (List.mem_append_left _ (List.mem_of_getElem? (l := tables_1_5) (i := 174) rfl))))))) rfl
  | 13, _ => exact mG (List.mem_append_right _ (List.mem_append_right _ (List.mem_append_right _ (List.mem_append_right _ (List.mem_append_right _ (List.mem_append_left _ (List.mem_of_getElem? (l := tables_1_5) (i := 176) rfl))))))) rfl
  | 14, _ => exact mG (List.mem_append_right _ (List.mem_append_right _ (List.mem_append_right _ (List.mem_append_right _ (List.mem_append_right _ (List.mem_append_left _ (List.mem_of_getElem? (l := tables_1_5) (i := 178) rfl))))))) rfl
  | 15, _ => exact mG (List.mem_append_right _ (List.mem_append_right _ (List.mem_append_right _ (List.mem_append_right _ (List.mem_append_right _ (List.mem_append_left _ (List.mem_of_getElem? (l := tables_1_5) (i := 180) rfl))))))) rfl
  | 16, _ => exact mG (List.mem_append_right _ (List.mem_append_right _ (List.mem_append_right _ (List.mem_append_right _ (List.mem_append_right _ (List.mem_append_left _ (List.mem_of_getElem? (l := tables_1_5) (i := 182) rfl))))))) rfl
  | 17, _ => exact mG (List.mem_append_right _ (List.mem_append_right _ (List.mem_append_right _ (List.mem_append_right _ (List.mem_append_right _ (List.mem_append_left _ (List.mem_of_getElem? (l := tables_1_5) (i := 184) rfl))))))) rfl
  | 18, _ => exact mG (List.mem_append_right _ (List.mem_append_right _ (List.mem_append_right _ (List.mem_append_right _ (List.mem_append_right _ (List.mem_append_left _ (List.mem_of_getElem? (l := tables_1_5) (i := 186) rfl))))))) rfl
  | 19, _ => exact mG (List.mem_append_right _ (List.mem_append_right _ (List.mem_append_right _ (List.mem_append_right _ (List.mem_append_right _ (List.mem_append_left _ (List.mem_of_getElem? (l := tables_1_5) (i := 188) rfl))))))) rfl
  | 20, _ => exact mG (List.mem_append_right _ (List.mem_append_right _ (List.mem_append_right _ (List.mem_append_right _ (List.mem_append_right _ (List.mem_append_left _ (List.mem_of_getElem? (l := tables_1_5) (i := 190) rfl))))))) rfl
  | 21, _ => exact mG (List.mem_append_right _ (List.mem_append_right _ (List.mem_append_right _ (List.mem_append_right _ (List.mem_append_right _ (List.mem_append_left _ (List.mem_of_getElem? (l := tables_1_5) (i := 192) rfl))))))) rfl
  | 22, _ => exact mG (List.mem_append_right _ (List.mem_append_right _ (List.mem_append_right _ (List.mem_append_right _ (List.mem_append_right _ (List.mem_append_left _ (List.mem_of_getElem? (l := tables_1_5) (i := 194) rfl))))))) rfl
  | 23, _ => exact mG (List.mem_append_right _ (List.mem_append_right _ (List.mem_append_right _ (List.mem_append_right _ (List.mem_append_right _ (List.mem_append_left _ (List.mem_of_getElem? (l := tables_1_5) (i := 196) rfl))))))) rfl
  | 24, _ => exact mG (List.mem_append_right _ (List.mem_append_right _ (List.mem_append_right _ (List.mem_append_right _ (List.mem_append_right _ (List.mem_append_left _ (List.mem_of_getElem? (l := tables_1_5) (i := 198) rfl))))))) rfl
  | 25, _ => exact mG (List.mem_append_right _ (List.mem_append_right _ (List.mem_append_right _ (List.mem_append_right _ (List.mem_append_right _ (List.mem_append_left _ (List.mem_of_getElem? (l := tables_1_5) (i := 200) rfl))))))) rfl
  | 26, _ => exact mG (List.mem_append_right _ (List.mem_append_right _ (List.mem_append_right _ (List.mem_append_right _ (List.mem_append_right _ (List.mem_append_left _ (List.mem_of_getElem? (l := tables_1_5) (i := 202) rfl))))))) rfl
  | 27, _ => exact mG (List.mem_append_right _ (List.mem_append_right _ (List.mem_append_right _ (List.mem_append_right _ (List.mem_append_right _ (List.mem_append_left _ (List.mem_of_getElem? (l := tables_1_5) (i := 204) rfl))))))) rfl
  | 28, _ => exact mG (List.mem_append_right _ (List.mem_append_right _ (List.mem_append_right _ (List.mem_append_right _ (List.mem_append_right _ (List.mem_append_left _ (List.mem_of_getElem? (l := tables_1_5) (i := 206) rfl))))))) rfl
  | 29, _ => exact mG (List.mem_append_right _ (List.mem_append_right _ (List.mem_append_right _ (List.mem_append_right _ (List.mem_append_right _ (List.mem_append_left _ (List.mem_of_getElem? (l := tables_1_5) (i := 208) rfl))))))) rfl
  | 30, _ => exact mG (List.mem_append_right _ (List.mem_append_right _ (List.mem_append_right _ (List.mem_append_right _ (List.mem_append_right _ (List.mem_append_left _ (List.mem_of_getElem? (l := tables_1_5) (i := 210) rfl))))))) rfl
  | 31, _ => exact mG (List.mem_append_right _ (List.mem_append_right _ (List.mem_append_right _ (List.mem_append_right _ (List.mem_append_right _ (List.mem_append_left _ (List.mem_of_getElem? (l := tables_1_5) (i := 212) rfl))))))) rfl
  | 32, _ => exact mG (List.mem_append_right _ (List.mem_append_right _ (List.mem_append_right _ (List.mem_append_right _ (List.mem_append_right _ (List.mem_append_left _ (List.mem_of_getElem? (l := tables_1_5) (i := 214) rfl))))))) rfl
  | 33, _ => exact mG (List.mem_append_right _ (List.mem_append_right _ (List.mem_append_right _ (List.mem_append_right _ (List.mem_append_right _ (List.mem_append_left _ (List.mem_of_getElem? (l := tables_1_5) (i := 216) rfl))))))) rfl
  | 34, _ => exact mG (List.mem_append_right _ (List.mem_append_right _ (List.mem_append_right _ (List.mem_append_right _ (List.mem_append_right _ (List.mem_append_left _ (List.mem_of_getElem? (l := tables_1_5) (i := 218) rfl))))))) rfl
  | 35, _ => exact mG (List.mem_append_right _ (List.mem_append_right _ (List.mem_append_right _ (List.mem_append_right _ (List.mem_append_right _ (List.mem_append_left _ (List.mem_of_getElem? (l := tables_1_5) (i := 220) rfl))))))) rfl
  | 36, _ => exact mG (List.mem_append_right _ (List.mem_append_right _ (List.mem_append_right _ (List.mem_append_right _ (List.mem_append_right _ (List.mem_append_left _ (List.mem_of_getElem? (l := tables_1_5) (i := 222) rfl))))))) rfl
  | 37, _ => exact mG (List.mem_append_right _ (List.mem_append_right _ (List.mem_append_right _ (List.mem_append_right _ (List.mem_append_right _ (List.mem_append_left _ (List.mem_of_getElem? (l := tables_1_5) (i := 224) rfl))))))) rfl
  | 38, _ => exact mG (List.mem_append_right _ (List.mem_append_right _ (List.mem_append_right _ (List.mem_append_right _ (List.mem_append_right _ (List.mem_append_left _ (List.mem_of_getElem? (l := tables_1_5) (i := 226) rfl))))))) rfl
  | 39, _ => exact mG (List.mem_append_right _ (List.mem_append_right _ (List.mem_append_right _ (List.mem_append_right _ (List.mem_append_right _ (List.mem_append_left _ (List.mem_of_getElem? (l := tables_1_5) (i := 228) rfl))))))) rfl
  | k + 40, h => exact absurd h (by omega)
end
section
/-! the pure machine: heaps as functions of (object, slot), frames as lists; what it says holds of the machine -/
abbrev pH : Type := (Nat → Nat → Int32) × (Nat → Nat → Int64)
def hI (h : pH) (o k : Nat) : Int32 := h.1 o k
def hL (h : pH) (o k : Nat) : Int64 := h.2 o k
def sI (h : pH) (o k : Nat) (v : Int32) : pH := (fun a => if a = o then upd (h.1 o) k v else h.1 a, h.2)
def sL (h : pH) (o k : Nat) (v : Int64) : pH := (h.1, fun a => if a = o then vp_updL (h.2 o) k v else h.2 a)
abbrev pE : Type := Launch × (Nat → Nat) × va_G × (Nat → ClassId)
abbrev eL (E : pE) : Launch := E.1
abbrev eA (E : pE) : Nat → Nat := E.2.1
abbrev eD (E : pE) : va_G := E.2.2.1
abbrev eC (E : pE) : Nat → ClassId := E.2.2.2
def fv (ad : Nat → Nat) (h : pH) (o k kd : Nat) : Value := match kd with
  | 2 => .ref (ad (rf o k))
  | 1 => .long (hL h o k)
  | _ => .int (hI h o k)
def fvs (ad : Nat → Nat) (h : pH) (o c : Nat) : List Value := (KF.getD c []).mapIdx (fun k kd => fv ad h o k kd)
def cellE (ad : Nat → Nat) (tc : Nat → ClassId) (h : pH) (o : Nat) : va_E := match ak o with
  | 0 => .inr (cx o, fvs ad h o (cx o))
  | 4 => .inl (tc 4, cx o, .inr (.inl (h.2 o)))
  | 5 => .inl (tc 5, cx o, .inr (.inr (.inr (.inr (fun i => if i < cx o then some (ad (rf o i)) else none)))))
  | k => .inl (tc k, cx o, .inl (h.1 o))
def wl (ad : Nat → Nat) (tc : Nat → ClassId) (h : pH) : va_W := (List.range NO).map (fun o => (ad o, cellE ad tc h o))
theorem wl_at {ad : Nat → Nat} {tc : Nat → ClassId} {h : pH} {o : Nat} (ho : o < NO) : (wl ad tc h)[o]? = some (ad o, cellE ad tc h o) := by
  simp [wl, ho]
theorem wl_set {ad : Nat → Nat} {tc : Nat → ClassId} {h h' : pH} {o : Nat} {e : va_E} (he : cellE ad tc h' o = e) (hn : ∀ a, a ≠ o → cellE ad tc h' a = cellE ad tc h a) : (wl ad tc h).set o (ad o, e) = wl ad tc h' := by
  apply List.ext_getElem?
  intro i
  by_cases hi : i < NO
  · rw [wl_at hi]
    by_cases hio : i = o
    · subst hio
      rw [List.getElem?_set_self (by simp [wl, hi]), he]
    · rw [List.getElem?_set_ne (fun q => hio q.symm), wl_at hi, hn i hio]
  · rw [List.getElem?_eq_none (by simp [wl]; omega), List.getElem?_eq_none (by simp [wl]; omega)]
theorem oTab_len : oTab.length = NO := by decide +kernel
theorem ob_lt {o : Nat} (h : ak o ≠ 9) : o < NO := by
  rcases Nat.lt_or_ge o NO with q | q
  · exact q
  · exfalso
    apply h
    show (oTab.getD o (9, 0, [])).1 = 9
    rw [List.getD_eq_getElem?_getD, List.getElem?_eq_none (by rw [oTab_len]; exact q)]
    rfl
theorem cellE_0 {ad : Nat → Nat} {tc : Nat → ClassId} {h : pH} {o : Nat} (k : ak o = 0) : cellE ad tc h o = .inr (cx o, fvs ad h o (cx o)) := by simp only [cellE, k]
theorem cellE_1 {ad : Nat → Nat} {tc : Nat → ClassId} {h : pH} {o : Nat} (k : ak o = 1) : cellE ad tc h o = .inl (tc 1, cx o, .inl (h.1 o)) := by simp only [cellE, k]
theorem cellE_2 {ad : Nat → Nat} {tc : Nat → ClassId} {h : pH} {o : Nat} (k : ak o = 2) : cellE ad tc h o = .inl (tc 2, cx o, .inl (h.1 o)) := by simp only [cellE, k]
theorem cellE_3 {ad : Nat → Nat} {tc : Nat → ClassId} {h : pH} {o : Nat} (k : ak o = 3) : cellE ad tc h o = .inl (tc 3, cx o, .inl (h.1 o)) := by simp only [cellE, k]
theorem cellE_4 {ad : Nat → Nat} {tc : Nat → ClassId} {h : pH} {o : Nat} (k : ak o = 4) : cellE ad tc h o = .inl (tc 4, cx o, .inr (.inl (h.2 o))) := by simp only [cellE, k]
theorem cellE_5 {ad : Nat → Nat} {tc : Nat → ClassId} {h : pH} {o : Nat} (k : ak o = 5) : cellE ad tc h o = .inl (tc 5, cx o, .inr (.inr (.inr (.inr (fun i => if i < cx o then some (ad (rf o i)) else none))))) := by simp only [cellE, k]
theorem sI_ne {h : pH} {o k : Nat} {v : Int32} {a : Nat} (q : a ≠ o) : (sI h o k v).1 a = h.1 a := if_neg q
theorem sL_ne {h : pH} {o k : Nat} {v : Int64} {a : Nat} (q : a ≠ o) : (sL h o k v).2 a = h.2 a := if_neg q
theorem cellE_cong {ad : Nat → Nat} {tc : Nat → ClassId} {h h' : pH} {o : Nat} (h1 : h'.1 o = h.1 o) (h2 : h'.2 o = h.2 o) : cellE ad tc h' o = cellE ad tc h o := by
  have e : ∀ k kd, fv ad h' o k kd = fv ad h o k kd := fun k kd => by
    unfold fv hI hL
    rw [h1, h2]
  unfold cellE fvs
  simp only [e, h1, h2]
theorem wl_sI {ad : Nat → Nat} {tc : Nat → ClassId} {h : pH} {o k : Nat} {v : Int32} {e : va_E} (he : cellE ad tc (sI h o k v) o = e) : (wl ad tc h).set o (ad o, e) = wl ad tc (sI h o k v) :=
  wl_set he (fun _ q => cellE_cong (sI_ne q) rfl)
theorem wl_sL {ad : Nat → Nat} {tc : Nat → ClassId} {h : pH} {o k : Nat} {v : Int64} {e : va_E} (he : cellE ad tc (sL h o k v) o = e) : (wl ad tc h).set o (ad o, e) = wl ad tc (sL h o k v) :=
  wl_set he (fun _ q => cellE_cong rfl (sL_ne q))
theorem fvs_at {ad : Nat → Nat} {h : pH} {o c k : Nat} (hk : (KF.getD c []).getD k 9 ≠ 9) : (fvs ad h o c)[k]? = some (fv ad h o k ((KF.getD c []).getD k 9)) := by
  unfold fvs
  rw [List.getElem?_mapIdx]
  generalize hL0 : KF.getD c [] = L at hk ⊢
  rw [List.getD_eq_getElem?_getD] at hk ⊢
  cases hq : L[k]? with
  | none => rw [hq] at hk; exact absurd rfl hk
  | some x => rfl
theorem fvs_setI {ad : Nat → Nat} {h : pH} {o c k : Nat} {v : Int32} (h1 : (KF.getD c []).getD k 9 ≠ 9) (h2 : (KF.getD c []).getD k 9 ≠ 1) (h3 : (KF.getD c []).getD k 9 ≠ 2) : (fvs ad h o c).set k (.int v) = fvs ad (sI h o k v) o c := by
  unfold fvs
  apply List.ext_getElem?
  intro i
  rw [List.getElem?_mapIdx]
  generalize hL0 : KF.getD c [] = L at h1 h2 h3 ⊢
  by_cases hik : i = k
  · subst hik
    rw [List.getD_eq_getElem?_getD] at h1 h2 h3
    cases hq : L[i]? with
    | none => rw [hq] at h1; exact absurd rfl h1
    | some x =>
      have hlt : i < L.length := (List.getElem?_eq_some_iff.mp hq).1
      rw [hq] at h2 h3
      rw [List.getElem?_set_self (by simpa using hlt)]
      show some (Value.int v) = some (fv ad (sI h o i v) o i x)
      have e : fv ad (sI h o i v) o i x = .int (hI (sI h o i v) o i) := by
        unfold fv
        split
        · exact absurd rfl h3
        · exact absurd rfl h2
        · rfl
      rw [e]
      simp [hI, sI, upd]
  · rw [List.getElem?_set_ne (fun q => hik q.symm), List.getElem?_mapIdx]
    congr 1
    funext x
    unfold fv hI hL sI upd
    simp [hik]
theorem fvs_setL {ad : Nat → Nat} {h : pH} {o c k : Nat} {v : Int64} (h1 : (KF.getD c []).getD k 9 = 1) : (fvs ad h o c).set k (.long v) = fvs ad (sL h o k v) o c := by
  unfold fvs
  apply List.ext_getElem?
  intro i
  rw [List.getElem?_mapIdx]
  generalize hL0 : KF.getD c [] = L at h1 ⊢
  by_cases hik : i = k
  · subst hik
    rw [List.getD_eq_getElem?_getD] at h1
    cases hq : L[i]? with
    | none => rw [hq] at h1; exact absurd h1 (by decide)
    | some x =>
      have hlt : i < L.length := (List.getElem?_eq_some_iff.mp hq).1
      rw [hq] at h1
      have hx : x = 1 := h1
      subst hx
      rw [List.getElem?_set_self (by simpa using hlt)]
      show some (Value.long v) = some (fv ad (sL h o i v) o i 1)
      show some (Value.long v) = some (Value.long (hL (sL h o i v) o i))
      simp [hL, sL, vp_updL]
  · rw [List.getElem?_set_ne (fun q => hik q.symm), List.getElem?_mapIdx]
    congr 1
    funext x
    unfold fv hI hL sL vp_updL
    simp [hik]
/-- the classes as the tables have them -/
theorem cl_ok {c : Nat} {q : vw_C} (hc : classes[c]? = some q) : ∃ ty : Nat → FieldType, (∀ w ∈ u_ws q.1 q.2.1 q.2.2, w ∈ LT) ∧ (∀ k, k < q.2.2 → parseFieldDescriptor (q.2.1 k).2.2.1 = some (ty k)) ∧ (∀ a, a < q.2.2 → ∀ b, b < q.2.2 → a ≠ b → (q.2.1 a).2.1 ≠ (q.2.1 b).2.1) ∧
    (KF.getD c []).length = q.2.2 ∧ ∀ k, k < q.2.2 → ((KF.getD c []).getD k 9 = 0 → ty k = .int ∧ (q.2.1 k).2.2.2 = false) ∧ ((KF.getD c []).getD k 9 = 1 → ty k = .long ∧ (q.2.1 k).2.2.2 = false) ∧ ((KF.getD c []).getD k 9 = 3 → ty k = .boolean ∧ (q.2.1 k).2.2.2 = false) := by
  match c, hc with
  | 0, hc => cases hc; exact ⟨t_0, i_0, t_0_ok, n_0, rfl, k_0⟩
  | 1, hc => cases hc; exact ⟨t_1, i_1, t_1_ok, n_1, rfl, k_1⟩
  | 2, hc => cases hc; exact ⟨t_2, i_2, t_2_ok, n_2, rfl, k_2⟩
  | 3, hc => cases hc; exact ⟨t_3, i_3, t_3_ok, n_3, rfl, k_3⟩
  | 4, hc => cases hc; exact ⟨t_4, i_4, t_4_ok, n_4, rfl, k_4⟩
  | 5, hc => cases hc; exact ⟨t_5, i_5, t_5_ok, n_5, rfl, k_5⟩
  | 6, hc => cases hc; exact ⟨t_6, i_6, t_6_ok, n_6, rfl, k_6⟩
  | 7, hc => cases hc; exact ⟨t_7, i_7, t_7_ok, n_7, rfl, k_7⟩
  | 8, hc => cases hc; exact ⟨t_8, i_8, t_8_ok, n_8, rfl, k_8⟩
  | 9, hc => cases hc; exact ⟨t_9, i_9, t_9_ok, n_9, rfl, k_9⟩
  | 10, hc => cases hc; exact ⟨t_10, i_10, t_10_ok, n_10, rfl, k_10⟩
  | 11, hc => cases hc; exact ⟨t_11, i_11, t_11_ok, n_11, rfl, k_11⟩
  | 12, hc => cases hc; exact ⟨t_12, i_12, t_12_ok, n_12, rfl, k_12⟩
  | c + 13, hc => simp [classes] at hc
/-! locals -/
def vm (ad : Nat → Nat) : Value → Value
  | .ref o => .ref (ad o)
  | v => v
theorem vm_cat (ad : Nat → Nat) (v : Value) : (vm ad v).category = v.category := by cases v <;> rfl
def pairs (ad : Nat → Nat) : Nat → List (Option Value) → List (Nat × Value)
  | _, [] => []
  | k, some v :: t => (k, vm ad v) :: pairs ad (k + 1) t
  | k, none :: t => pairs ad (k + 1) t
theorem pairs_mem {ad : Nat → Nat} {ls : List (Option Value)} : ∀ {k i : Nat} {v : Value}, (i, v) ∈ pairs ad k ls ↔ ∃ j u, ls[j]? = some (some u) ∧ i = k + j ∧ v = vm ad u := by
  induction ls with
  | nil => intro k i v; simp [pairs]
  | cons a t ih =>
    intro k i v
    cases a with
    | none =>
      show (i, v) ∈ pairs ad (k + 1) t ↔ _
      rw [ih]
      constructor
      · rintro ⟨j, u, h1, h2, h3⟩
        exact ⟨j + 1, u, by simpa using h1, by omega, h3⟩
      · rintro ⟨j, u, h1, h2, h3⟩
        cases j with
        | zero => simp at h1
        | succ j => exact ⟨j, u, by simpa using h1, by omega, h3⟩
    | some a =>
      show (i, v) ∈ (k, vm ad a) :: pairs ad (k + 1) t ↔ _
      rw [List.mem_cons, ih]
      constructor
      · rintro (h | ⟨j, u, h1, h2, h3⟩)
        · cases h
          exact ⟨0, a, rfl, rfl, rfl⟩
        · exact ⟨j + 1, u, by simpa using h1, by omega, h3⟩
      · rintro ⟨j, u, h1, h2, h3⟩
        cases j with
        | zero =>
          simp at h1
          subst h1
          left
          rw [h2, h3]
          rfl
        | succ j => exact Or.inr ⟨j, u, by simpa using h1, by omega, h3⟩
def LR (ad : Nat → Nat) (n : Nat) (ls : List (Option Value)) (L : Array Slot) : Prop := lv_has L n (pairs ad 0 ls)
theorem LR.get {ad : Nat → Nat} {n : Nat} {ls : List (Option Value)} {L : Array Slot} (h : LR ad n ls L) {i : Nat} {v : Value} (hi : ls[i]? = some (some v)) : L[i]? = some (.val (vm ad v)) :=
  h.2.2 (i, vm ad v) (pairs_mem.mpr ⟨i, v, hi, by omega, rfl⟩)
theorem LR.sub {ad : Nat → Nat} {n : Nat} {ls ls' : List (Option Value)} {L : Array Slot} (h : LR ad n ls L) (hs : ∀ (i : Nat) (v : Value), ls'[i]? = some (some v) → ls[i]? = some (some v)) : LR ad n ls' L :=
  ⟨h.1, h.2.1, fun q hq => by
    obtain ⟨i, v⟩ := q
    obtain ⟨j, u, h1, h2, h3⟩ := pairs_mem.mp hq
    have e := h.get (hs j u h1)
    have hj : i = j := by omega
    subst hj
    rw [h3]
    exact e⟩
/-- what is on top of a local of two words -/
def wide (ls : List (Option Value)) (i : Nat) : Bool := match i with
  | 0 => false
  | j + 1 => match ls[j]? with
    | some (some v) => v.category == 2
    | _ => false
theorem LR.set1 {ad : Nat → Nat} {n : Nat} {ls : List (Option Value)} {L : Array Slot} {i : Nat} {v : Value} (hw : wide ls i = false) (q : lv_has L n ((i, vm ad v) :: (pairs ad 0 ls).filter (fun q => !(q.1 == i) && !(q.1 + 1 == i && q.2.category == 2)))) : LR ad n (ls.set i (some v)) L := by
  refine ⟨q.1, q.2.1, fun p hp => q.2.2 p ?_⟩
  obtain ⟨a, b⟩ := p
  obtain ⟨j, u, h1, h2, h3⟩ := pairs_mem.mp hp
  have haj : a = j := by omega
  subst haj
  by_cases haiq : a = i
  · subst haiq
    rw [List.getElem?_set] at h1
    simp only [if_pos] at h1
    split at h1
    · cases h1
      rw [h3]
      exact List.mem_cons_self
    · cases h1
  · rw [List.getElem?_set_ne (fun z => haiq z.symm)] at h1
    refine List.mem_cons_of_mem _ (List.mem_filter.mpr ⟨pairs_mem.mpr ⟨a, u, h1, by omega, h3⟩, ?_⟩)
    have e1 : (a == i) = false := by simpa using haiq
    by_cases e2 : a + 1 = i
    · subst e2
      have e3 : (u.category == 2) = false := by
        have := hw
        simp only [wide, h1] at this
        exact this
      simp only [e1, h3, vm_cat]
      simp [e3]
    · simp [e1, e2]
theorem LR.set2 {ad : Nat → Nat} {n : Nat} {ls : List (Option Value)} {L : Array Slot} {i : Nat} {v : Value} (hw : wide ls i = false) (q : lv_has L n ((i, vm ad v) :: (pairs ad 0 ls).filter (fun q => !(q.1 == i) && (!(q.1 == i + 1) && !(q.1 + 1 == i && q.2.category == 2))))) : LR ad n ((ls.set i (some v)).set (i + 1) none) L := by
  refine ⟨q.1, q.2.1, fun p hp => q.2.2 p ?_⟩
  obtain ⟨a, b⟩ := p
  obtain ⟨j, u, h1, h2, h3⟩ := pairs_mem.mp hp
  have haj : a = j := by omega
  subst haj
  by_cases hai1 : a = i + 1
  · subst hai1
    rw [List.getElem?_set] at h1
    simp only [if_pos] at h1
    split at h1 <;> cases h1
  rw [List.getElem?_set_ne (fun z => hai1 z.symm)] at h1
  by_cases haiq : a = i
  · subst haiq
    rw [List.getElem?_set] at h1
    simp only [if_pos] at h1
    split at h1
    · cases h1
      rw [h3]
      exact List.mem_cons_self
    · cases h1
  · rw [List.getElem?_set_ne (fun z => haiq z.symm)] at h1
    refine List.mem_cons_of_mem _ (List.mem_filter.mpr ⟨pairs_mem.mpr ⟨a, u, h1, by omega, h3⟩, ?_⟩)
    have e1 : (a == i) = false := by simpa using haiq
    have e4 : (a == i + 1) = false := by simpa using hai1
    by_cases e2 : a + 1 = i
    · subst e2
      have e3 : (u.category == 2) = false := by
        have := hw
        simp only [wide, h1] at this
        exact this
      simp only [e1, e4, h3, vm_cat]
      simp [e3]
    · simp [e1, e4, e2]
end
section
/-! a method, its context, and what it means to go on from a frame -/
abbrev MI : Type := MethodName × ByteArray × Nat × Option FieldType × String × (Nat → Option (Nat × Nat)) × (Nat → Option Int32) × Room
abbrev mY (M : MI) : MethodName := M.1
abbrev mB (M : MI) : ByteArray := M.2.1
abbrev mL (M : MI) : Nat := M.2.2.1
abbrev mR (M : MI) : Option FieldType := M.2.2.2.1
abbrev mO (M : MI) : String := M.2.2.2.2.1
abbrev mF (M : MI) : Nat → Option (Nat × Nat) := M.2.2.2.2.2.1
abbrev mK (M : MI) : Nat → Option Int32 := M.2.2.2.2.2.2.1
abbrev mRm (M : MI) : Room := M.2.2.2.2.2.2.2
abbrev wsM (M : MI) : List Cond := Cond.code (mY M) (mB M) (mL M) (mR M) :: LT
/-- what a method's tables say is so -/
def MOK (M : MI) : Prop := plainName (mY M).cls = true ∧ Cond.code (mY M) (mB M) (mL M) (mR M) ∈ LT ∧ (mY M).cls = mO M ∧ (mRm M).cells = 0 ∧ (mRm M).slots = 0 ∧
  (∀ i c k, mF M i = some (c, k) → ∃ q : vw_C, classes[c]? = some q ∧ k < q.2.2 ∧ Cond.fieldLink (mO M) i (q.2.1 k).1 (q.2.1 k).2.1 (q.2.1 k).2.2.1 ∈ LT) ∧
  (∀ i v, mK M i = some v → Cond.constant (mO M) i v ∈ LT)
def wA (ad : Nat → Nat) : Nat → Prop := fun q => ∃ o, o < NO ∧ q = ad o
def tysE (tc : Nat → ClassId) : List (ClassId × FieldType) := [(tc 1, .int), (tc 2, .byte), (tc 3, .boolean), (tc 4, .long), (tc 5, .array .int)]
def sLen : List Nat := [5, 4]
def sByt : List (List Int32) := [[112, 111, 105, 110, 116], [103, 114, 105, 100]]
/-- the texts of the class -/
def ZC (ad : Nat → Nat) (U : State) : Prop := vk_S 2 sLen sByt (fun i => ad (200 + i)) (fun i => ad (210 + i)) (wA ad) U U.heap ∧ vk_R "CloudDepth$Tape" 54 "point" (ad 200) U ∧ vk_R "CloudDepth$Tape" 60 "grid" (ad 201) U
def NK (U : State) : Prop := ∀ q ∈ NL, va_Nw (Cond.methodLinkNest q.1 q.2.1 q.2.2.1 q.2.2.2) U
def GE (E : pE) (U : State) : Prop := va_K (eD E) classes (tysE (eC E)) U ∧ ZC (eA E) U ∧ (∀ i j, i < NO → j < NO → eA E i = eA E j → i = j) ∧ NK U
def CX (E : pE) (M : MI) (p : Program) (s : State) (m : MethodId) (args : Array Value) (meth : Method) (c : Code) : Prop :=
  p.tables.exec = Jvm.exec ∧ c.code = mB M ∧ meth.sig.returnType = mR M ∧ c.maxLocals = mL M ∧ s.vm.findClass (mO M) = some m.cls ∧ (∀ w ∈ wsM M, w.before args s = true) ∧ meth.locks = false ∧ GE E s
def PP (E : pE) (h : pH) (H : Heap) : Prop := va_P (eD E) classes (wl (eA E) (eC E) h) H
def QQ (E : pE) (r : Option Value) (h : pH) : Array Value → State → Outcome → State → Prop := fun _ st o t => (o = .returned r ∧ PP E h t.heap) ∧ va_F (wA (eA E)) st t
/-- the method, called with these, answers r and leaves h' -/
def Ct (E : pE) (M : MI) (as : List Value) (h : pH) (r : Option Value) (h' : pH) : Prop :=
  Met (eL E) (mY M) (wsM M) (mRm M) (fun v U => v = (as.map (vm (eA E))).toArray ∧ PP E h U.heap ∧ GE E U) (QQ E r h') 0 0 (wA (eA E))
/-- from this frame on the method answers r and leaves h' -/
def Go (E : pE) (M : MI) (pc : Nat) (ls : List (Option Value)) (st : List Value) (h : pH) (r : Option Value) (h' : pH) : Prop :=
  ∀ (p : Program) (e : Env) (s : State) (m : MethodId) (args : Array Value) (below : List Frame) (meth : Method) (c : Code) (H : Heap) (locs : List Loc) (L : Array Slot),
    CX E M p s m args meth c → va_S (wA (eA E)) s.heap H locs → PP E h H → LR (eA E) (mL M) ls L → W p (eL E) e (mRm M) s m args below meth c H locs 0 0 (MQ below (QQ E r h') args s 0 0 (wA (eA E))) (F0 m pc L (st.map (vm (eA E))))
theorem wl_D {E : pE} {s : State} (g : GE E s) (h : pH) : va_D (wA (eA E)) (wl (eA E) (eC E) h) := by
  have key : ∀ (i : Nat) (p : Nat × va_E), (wl (eA E) (eC E) h)[i]? = some p → i < NO ∧ p.1 = eA E i := by
    intro i p hi
    have hl : i < NO := by
      have := (List.getElem?_eq_some_iff.mp hi).1
      simpa [wl] using this
    rw [wl_at hl] at hi
    cases hi
    exact ⟨hl, rfl⟩
  refine ⟨fun i j p q hi hj e => ?_, fun k q hk => ?_⟩
  · obtain ⟨a1, a2⟩ := key i p hi
    obtain ⟨b1, b2⟩ := key j q hj
    exact g.2.2.1 i j a1 b1 (by rw [← a2, ← b2, e])
  · obtain ⟨a1, a2⟩ := key k q hk
    exact ⟨k, a1, a2⟩
theorem ZC.moved {ad : Nat → Nat} {s U : State} (h : ZC ad s) (hW : s.WarmedH U.vm) (hq : ∀ a : Nat, a < s.heap.size → ¬ wA ad a → U.heap[a]? = s.heap[a]?) : ZC ad U :=
  ⟨(h.1.kept hq).moved hW.alike, h.2.1.warm hW, h.2.2.warm hW⟩
theorem GE.moved {E : pE} {s U : State} (h : GE E s) (hW : s.WarmedH U.vm) (hq : ∀ a : Nat, a < s.heap.size → ¬ wA (eA E) a → U.heap[a]? = s.heap[a]?) : GE E U :=
  ⟨va_K.moved hW.alike h.1, h.2.1.moved hW hq, h.2.2.1, fun q hq' => (h.2.2.2 q hq').warmM hW⟩
theorem Ct_of {E : pE} {M : MI} {as : List Value} {h h' : pH} {r : Option Value} (hM : MOK M) (ls : List (Option Value)) (hn : (lg_sl (as.map (vm (eA E)))).length ≤ mL M) (hls : pairs (eA E) 0 ls = lv_args 0 (as.map (vm (eA E)))) (k : Go E M 0 ls [] h r h') : Ct E M as h r h' := by
  refine Met.ofW (cc := mB M) (maxL := mL M) (ret := mR M) hM.1 rfl ?_
  intro p e s m args below meth c s₁ B hml hv
  obtain ⟨rfl, hP, hG⟩ := hv
  have hl := lv_entry (as.map (vm (eA E))) (n := mL M) hn
  rw [lg_entry_eq]
  refine k p e s m _ below meth c s.heap [] _ ⟨B.exec, B.bytes, B.returns, hml, ?_, atoms_spec (ws := wsM M) B.pre, B.notSynchronized, hG⟩ va_S.rf hP ?_
  · have e := findClass_of_methodNamed B.named
    rw [hM.2.2.1] at e
    exact e
  · unfold LR
    rw [hls]
    exact hl
section GO
variable {E : pE} {M : MI} {pc : Nat} {ls : List (Option Value)} {st : List Value} {h h' hr : pH} {r : Option Value}
theorem Go.sub (ls' : List (Option Value)) (hs : ∀ (i : Nat) (v : Value), ls'[i]? = some (some v) → ls[i]? = some (some v)) (k : Go E M pc ls' st h r hr) : Go E M pc ls st h r hr :=
  fun p e s m args below meth c H locs L C hS hP hL => k p e s m args below meth c H locs L C hS hP (hL.sub hs)
theorem q_iconst {n : Int} (hd : decode (mB M) pc = .ok (.iconst n, 1)) (k : Go E M (pc + 1) ls (.int (Int32.ofInt n) :: st) h r hr) : Go E M pc ls st h r hr :=
  fun p e s m args below meth c H locs L C hS hP hL => lv_iconst C.1 C.2.1 hd rfl (k p e s m args below meth c H locs L C hS hP hL)
theorem q_bipush {n : Int} (hd : decode (mB M) pc = .ok (.bipush n, 2)) (k : Go E M (pc + 2) ls (.int (Int8.ofInt n).toInt32 :: st) h r hr) : Go E M pc ls st h r hr :=
  fun p e s m args below meth c H locs L C hS hP hL => lv_bipush C.1 C.2.1 hd rfl (k p e s m args below meth c H locs L C hS hP hL)
theorem q_sipush {n : Int} (hd : decode (mB M) pc = .ok (.sipush n, 3)) (k : Go E M (pc + 3) ls (.int (Int16.ofInt n).toInt32 :: st) h r hr) : Go E M pc ls st h r hr :=
  fun p e s m args below meth c H locs L C hS hP hL => lv_sipush C.1 C.2.1 hd rfl (k p e s m args below meth c H locs L C hS hP hL)
theorem q_lconst {n : Fin 2} (hd : decode (mB M) pc = .ok (.lconst n, 1)) (k : Go E M (pc + 1) ls (.long (Int64.ofNat n) :: st) h r hr) : Go E M pc ls st h r hr :=
  fun p e s m args below meth c H locs L C hS hP hL => lv_lconst C.1 C.2.1 hd rfl (k p e s m args below meth c H locs L C hS hP hL)
theorem q_ldc (hM : MOK M) {i : Nat} {v : Int32} (hv : mK M i = some v) (hd : decode (mB M) pc = .ok (.ldc i, 2)) (k : Go E M (pc + 2) ls (.int v :: st) h r hr) : Go E M pc ls st h r hr :=
  fun p e s m args below meth c H locs L C hS hP hL => lv_ldc C.1 C.2.1 C.2.2.2.2.1 (C.2.2.2.2.2.1 _ (List.mem_cons_of_mem _ (hM.2.2.2.2.2.2 i v hv))) hd (k p e s m args below meth c H locs L C hS hP hL)
theorem q_ldcw (hM : MOK M) {i : Nat} {v : Int32} (hv : mK M i = some v) (hd : decode (mB M) pc = .ok (.ldc_w i, 3)) (k : Go E M (pc + 3) ls (.int v :: st) h r hr) : Go E M pc ls st h r hr :=
  fun p e s m args below meth c H locs L C hS hP hL => lv_ldcw C.1 C.2.1 C.2.2.2.2.1 (C.2.2.2.2.2.1 _ (List.mem_cons_of_mem _ (hM.2.2.2.2.2.2 i v hv))) hd (k p e s m args below meth c H locs L C hS hP hL)
theorem q_ldc2 {i : Nat} {v : Int64} (hv : Cond.constantLong (mO M) i v ∈ LT) (hd : decode (mB M) pc = .ok (.ldc2_w i, 3)) (k : Go E M (pc + 3) ls (.long v :: st) h r hr) : Go E M pc ls st h r hr :=
  fun p e s m args below meth c H locs L C hS hP hL => lv_ldc2 C.1 C.2.1 C.2.2.2.2.1 (C.2.2.2.2.2.1 _ (List.mem_cons_of_mem _ hv)) hd (k p e s m args below meth c H locs L C hS hP hL)
theorem q_iload_n {i : Fin 4} {x : Int32} (hl : ls[i.val]? = some (some (.int x))) (hd : decode (mB M) pc = .ok (.iload_n i, 1)) (k : Go E M (pc + 1) ls (.int x :: st) h r hr) : Go E M pc ls st h r hr :=
  fun p e s m args below meth c H locs L C hS hP hL => lv_iload_n C.1 C.2.1 hd rfl (hL.get hl) (k p e s m args below meth c H locs L C hS hP hL)
theorem q_iload {i : Nat} {x : Int32} (hl : ls[i]? = some (some (.int x))) (hd : decode (mB M) pc = .ok (.iload i, 2)) (k : Go E M (pc + 2) ls (.int x :: st) h r hr) : Go E M pc ls st h r hr :=
  fun p e s m args below meth c H locs L C hS hP hL => lv_iload C.1 C.2.1 hd (hL.get hl) (k p e s m args below meth c H locs L C hS hP hL)
theorem q_lload_n {i : Fin 4} {x : Int64} (hl : ls[i.val]? = some (some (.long x))) (hd : decode (mB M) pc = .ok (.lload_n i, 1)) (k : Go E M (pc + 1) ls (.long x :: st) h r hr) : Go E M pc ls st h r hr :=
  fun p e s m args below meth c H locs L C hS hP hL => lv_lload_n C.1 C.2.1 hd rfl (hL.get hl) (k p e s m args below meth c H locs L C hS hP hL)
theorem q_lload {i : Nat} {x : Int64} (hl : ls[i]? = some (some (.long x))) (hd : decode (mB M) pc = .ok (.lload i, 2)) (k : Go E M (pc + 2) ls (.long x :: st) h r hr) : Go E M pc ls st h r hr :=
  fun p e s m args below meth c H locs L C hS hP hL => lv_lload C.1 C.2.1 hd (hL.get hl) (k p e s m args below meth c H locs L C hS hP hL)
theorem q_aload_n {i : Fin 4} {x : Nat} (hl : ls[i.val]? = some (some (.ref x))) (hd : decode (mB M) pc = .ok (.aload_n i, 1)) (k : Go E M (pc + 1) ls (.ref x :: st) h r hr) : Go E M pc ls st h r hr :=
  fun p e s m args below meth c H locs L C hS hP hL => lv_aload_n C.1 C.2.1 hd rfl (hL.get hl) (k p e s m args below meth c H locs L C hS hP hL)
theorem q_aload {i : Nat} {x : Nat} (hl : ls[i]? = some (some (.ref x))) (hd : decode (mB M) pc = .ok (.aload i, 2)) (k : Go E M (pc + 2) ls (.ref x :: st) h r hr) : Go E M pc ls st h r hr :=
  fun p e s m args below meth c H locs L C hS hP hL => lv_aload C.1 C.2.1 hd (hL.get hl) (k p e s m args below meth c H locs L C hS hP hL)
theorem q_istore_n {i : Fin 4} {x : Int32} (hi : i.val < mL M) (hw : wide ls i.val = false) (hd : decode (mB M) pc = .ok (.istore_n i, 1)) (k : Go E M (pc + 1) (ls.set i.val (some (.int x))) st h r hr) : Go E M pc ls (.int x :: st) h r hr :=
  fun p e s m args below meth c H locs L C hS hP hL => lv_istore_n C.1 C.2.1 hd rfl hL hi rfl (fun L' hL' => k p e s m args below meth c H locs L' C hS hP (LR.set1 (v := .int x) hw hL'))
theorem q_istore {i : Nat} {x : Int32} (hi : i < mL M) (hw : wide ls i = false) (hd : decode (mB M) pc = .ok (.istore i, 2)) (k : Go E M (pc + 2) (ls.set i (some (.int x))) st h r hr) : Go E M pc ls (.int x :: st) h r hr :=
  fun p e s m args below meth c H locs L C hS hP hL => lv_istore C.1 C.2.1 hd hL hi rfl (fun L' hL' => k p e s m args below meth c H locs L' C hS hP (LR.set1 (v := .int x) hw hL'))
theorem q_astore_n {i : Fin 4} {x : Nat} (hi : i.val < mL M) (hw : wide ls i.val = false) (hd : decode (mB M) pc = .ok (.astore_n i, 1)) (k : Go E M (pc + 1) (ls.set i.val (some (.ref x))) st h r hr) : Go E M pc ls (.ref x :: st) h r hr :=
  fun p e s m args below meth c H locs L C hS hP hL => lv_astore_n C.1 C.2.1 hd rfl hL hi rfl (fun L' hL' => k p e s m args below meth c H locs L' C hS hP (LR.set1 (v := .ref x) hw hL'))
theorem q_astore {i : Nat} {x : Nat} (hi : i < mL M) (hw : wide ls i = false) (hd : decode (mB M) pc = .ok (.astore i, 2)) (k : Go E M (pc + 2) (ls.set i (some (.ref x))) st h r hr) : Go E M pc ls (.ref x :: st) h r hr :=
  fun p e s m args below meth c H locs L C hS hP hL => lv_astore C.1 C.2.1 hd hL hi rfl (fun L' hL' => k p e s m args below meth c H locs L' C hS hP (LR.set1 (v := .ref x) hw hL'))
theorem q_lstore_n {i : Fin 4} {x : Int64} (hi : i.val + 1 < mL M) (hw : wide ls i.val = false) (hd : decode (mB M) pc = .ok (.lstore_n i, 1)) (k : Go E M (pc + 1) ((ls.set i.val (some (.long x))).set (i.val + 1) none) st h r hr) : Go E M pc ls (.long x :: st) h r hr :=
  fun p e s m args below meth c H locs L C hS hP hL => lv_lstore_n C.1 C.2.1 hd rfl hL hi rfl (fun L' hL' => k p e s m args below meth c H locs L' C hS hP (LR.set2 (v := .long x) hw hL'))
theorem q_lstore {i : Nat} {x : Int64} (hi : i + 1 < mL M) (hw : wide ls i = false) (hd : decode (mB M) pc = .ok (.lstore i, 2)) (k : Go E M (pc + 2) ((ls.set i (some (.long x))).set (i + 1) none) st h r hr) : Go E M pc ls (.long x :: st) h r hr :=
  fun p e s m args below meth c H locs L C hS hP hL => lv_lstore C.1 C.2.1 hd hL hi rfl (fun L' hL' => k p e s m args below meth c H locs L' C hS hP (LR.set2 (v := .long x) hw hL'))
theorem q_iinc {i : Nat} {n : Int} {x : Int32} (hl : ls[i]? = some (some (.int x))) (hi : i < mL M) (hw : wide ls i = false) (hd : decode (mB M) pc = .ok (.iinc i n, 3)) (k : Go E M (pc + 3) (ls.set i (some (.int (x + Int32.ofInt n)))) st h r hr) : Go E M pc ls st h r hr := by
  intro p e s m args below meth c H locs L C hS hP hL
  obtain ⟨k0, hk0⟩ := List.getElem?_of_mem (pairs_mem (ad := eA E) (k := 0) (i := i) (v := .int x) |>.mpr ⟨i, .int x, hl, by omega, rfl⟩)
  exact lv_iinc C.1 C.2.1 hd hL hk0 rfl hi rfl (fun L' hL' => k p e s m args below meth c H locs L' C hS hP (LR.set1 (v := .int (x + Int32.ofInt n)) hw hL'))
theorem q_iadd {x y : Int32} (hd : decode (mB M) pc = .ok (.iadd, 1)) (k : Go E M (pc + 1) ls (.int (x + y) :: st) h r hr) : Go E M pc ls (.int y :: .int x :: st) h r hr :=
  fun p e s m args below meth c H locs L C hS hP hL => lv_iadd C.1 C.2.1 hd (k p e s m args below meth c H locs L C hS hP hL)
theorem q_isub {x y : Int32} (hd : decode (mB M) pc = .ok (.isub, 1)) (k : Go E M (pc + 1) ls (.int (x - y) :: st) h r hr) : Go E M pc ls (.int y :: .int x :: st) h r hr :=
  fun p e s m args below meth c H locs L C hS hP hL => lv_isub C.1 C.2.1 hd (k p e s m args below meth c H locs L C hS hP hL)
theorem q_imul {x y : Int32} (hd : decode (mB M) pc = .ok (.imul, 1)) (k : Go E M (pc + 1) ls (.int (x * y) :: st) h r hr) : Go E M pc ls (.int y :: .int x :: st) h r hr :=
  fun p e s m args below meth c H locs L C hS hP hL => lv_imul C.1 C.2.1 hd (k p e s m args below meth c H locs L C hS hP hL)
theorem q_iand {x y : Int32} (hd : decode (mB M) pc = .ok (.iand, 1)) (k : Go E M (pc + 1) ls (.int (x &&& y) :: st) h r hr) : Go E M pc ls (.int y :: .int x :: st) h r hr :=
  fun p e s m args below meth c H locs L C hS hP hL => lv_iand C.1 C.2.1 hd (k p e s m args below meth c H locs L C hS hP hL)
theorem q_ior {x y : Int32} (hd : decode (mB M) pc = .ok (.ior, 1)) (k : Go E M (pc + 1) ls (.int (x ||| y) :: st) h r hr) : Go E M pc ls (.int y :: .int x :: st) h r hr :=
  fun p e s m args below meth c H locs L C hS hP hL => lv_ior C.1 C.2.1 hd (k p e s m args below meth c H locs L C hS hP hL)
theorem q_ixor {x y : Int32} (hd : decode (mB M) pc = .ok (.ixor, 1)) (k : Go E M (pc + 1) ls (.int (x ^^^ y) :: st) h r hr) : Go E M pc ls (.int y :: .int x :: st) h r hr :=
  fun p e s m args below meth c H locs L C hS hP hL => lv_ixor C.1 C.2.1 hd (k p e s m args below meth c H locs L C hS hP hL)
theorem q_ishl {x y : Int32} (hd : decode (mB M) pc = .ok (.ishl, 1)) (k : Go E M (pc + 1) ls (.int (x <<< (y &&& 31)) :: st) h r hr) : Go E M pc ls (.int y :: .int x :: st) h r hr :=
  fun p e s m args below meth c H locs L C hS hP hL => lv_ishl C.1 C.2.1 hd (k p e s m args below meth c H locs L C hS hP hL)
theorem q_ishr {x y : Int32} (hd : decode (mB M) pc = .ok (.ishr, 1)) (k : Go E M (pc + 1) ls (.int (x >>> (y &&& 31)) :: st) h r hr) : Go E M pc ls (.int y :: .int x :: st) h r hr :=
  fun p e s m args below meth c H locs L C hS hP hL => lv_ishr C.1 C.2.1 hd (k p e s m args below meth c H locs L C hS hP hL)
theorem q_idiv {x y : Int32} (hne : ¬ y = 0) (hd : decode (mB M) pc = .ok (.idiv, 1)) (k : Go E M (pc + 1) ls (.int (x / y) :: st) h r hr) : Go E M pc ls (.int y :: .int x :: st) h r hr :=
  fun p e s m args below meth c H locs L C hS hP hL => lv_idiv C.1 C.2.1 hd hne (k p e s m args below meth c H locs L C hS hP hL)
theorem q_irem {x y : Int32} (hne : ¬ y = 0) (hd : decode (mB M) pc = .ok (.irem, 1)) (k : Go E M (pc + 1) ls (.int (x - x / y * y) :: st) h r hr) : Go E M pc ls (.int y :: .int x :: st) h r hr :=
  fun p e s m args below meth c H locs L C hS hP hL => lv_irem C.1 C.2.1 hd hne (k p e s m args below meth c H locs L C hS hP hL)
theorem q_ladd {x y : Int64} (hd : decode (mB M) pc = .ok (.ladd, 1)) (k : Go E M (pc + 1) ls (.long (x + y) :: st) h r hr) : Go E M pc ls (.long y :: .long x :: st) h r hr :=
  fun p e s m args below meth c H locs L C hS hP hL => lv_ladd C.1 C.2.1 hd (k p e s m args below meth c H locs L C hS hP hL)
theorem q_lmul {x y : Int64} (hd : decode (mB M) pc = .ok (.lmul, 1)) (k : Go E M (pc + 1) ls (.long (x * y) :: st) h r hr) : Go E M pc ls (.long y :: .long x :: st) h r hr :=
  fun p e s m args below meth c H locs L C hS hP hL => lv_lmul C.1 C.2.1 hd (k p e s m args below meth c H locs L C hS hP hL)
theorem q_ineg {x : Int32} (hd : decode (mB M) pc = .ok (.ineg, 1)) (k : Go E M (pc + 1) ls (.int (-x) :: st) h r hr) : Go E M pc ls (.int x :: st) h r hr :=
  fun p e s m args below meth c H locs L C hS hP hL => lv_ineg C.1 C.2.1 hd (k p e s m args below meth c H locs L C hS hP hL)
theorem q_iushr {x y : Int32} (hd : decode (mB M) pc = .ok (.iushr, 1)) (k : Go E M (pc + 1) ls (.int ((x.toUInt32 >>> (y.toUInt32 &&& Int32.toUInt32 31)).toInt32) :: st) h r hr) : Go E M pc ls (.int y :: .int x :: st) h r hr :=
  fun p e s m args below meth c H locs L C hS hP hL => lv_iushr C.1 C.2.1 hd rfl (k p e s m args below meth c H locs L C hS hP hL)
theorem q_i2l {x : Int32} (hd : decode (mB M) pc = .ok (.i2l, 1)) (k : Go E M (pc + 1) ls (.long x.toInt64 :: st) h r hr) : Go E M pc ls (.int x :: st) h r hr :=
  fun p e s m args below meth c H locs L C hS hP hL => lv_i2l C.1 C.2.1 hd rfl (k p e s m args below meth c H locs L C hS hP hL)
theorem q_i2b {x : Int32} (hd : decode (mB M) pc = .ok (.i2b, 1)) (k : Go E M (pc + 1) ls (.int x.toInt8.toInt32 :: st) h r hr) : Go E M pc ls (.int x :: st) h r hr :=
  fun p e s m args below meth c H locs L C hS hP hL => lv_i2b C.1 C.2.1 hd rfl (k p e s m args below meth c H locs L C hS hP hL)
theorem q_lcmp {x y : Int64} (hd : decode (mB M) pc = .ok (.lcmp, 1)) (k : Go E M (pc + 1) ls (.int (lg_cmp x y) :: st) h r hr) : Go E M pc ls (.long y :: .long x :: st) h r hr :=
  fun p e s m args below meth c H locs L C hS hP hL => W.lcmp C.1 C.2.1 hd (k p e s m args below meth c H locs L C hS hP hL)
theorem q_dup {x : Value} (hx : x.category = 1) (hd : decode (mB M) pc = .ok (.dup, 1)) (k : Go E M (pc + 1) ls (x :: x :: st) h r hr) : Go E M pc ls (x :: st) h r hr :=
  fun p e s m args below meth c H locs L C hS hP hL => lv_dup C.1 C.2.1 hd (by rw [vm_cat]; exact hx) (k p e s m args below meth c H locs L C hS hP hL)
theorem q_pop {x : Value} (hx : x.category = 1) (hd : decode (mB M) pc = .ok (.pop, 1)) (k : Go E M (pc + 1) ls st h r hr) : Go E M pc ls (x :: st) h r hr :=
  fun p e s m args below meth c H locs L C hS hP hL => lv_pop C.1 C.2.1 hd (by rw [vm_cat]; exact hx) (k p e s m args below meth c H locs L C hS hP hL)
theorem q_dup2 {x y : Value} (hx : x.category = 1) (hy : y.category = 1) (hd : decode (mB M) pc = .ok (.dup2, 1)) (k : Go E M (pc + 1) ls (x :: y :: x :: y :: st) h r hr) : Go E M pc ls (x :: y :: st) h r hr :=
  fun p e s m args below meth c H locs L C hS hP hL => lv_dup2_11 C.1 C.2.1 hd (by rw [vm_cat]; exact hx) (by rw [vm_cat]; exact hy) (k p e s m args below meth c H locs L C hS hP hL)
theorem q_goto {off : Int} {tgt : Nat} (ht : (pc : Int) + off = (tgt : Int)) (hd : decode (mB M) pc = .ok (.goto off, 3)) (k : Go E M tgt ls st h r hr) : Go E M pc ls st h r hr :=
  fun p e s m args below meth c H locs L C hS hP hL => lv_goto C.1 C.2.1 hd ht (k p e s m args below meth c H locs L C hS hP hL)
theorem q_icmp_eq {x y : Int32} {off : Int} {tgt : Nat} (hd : decode (mB M) pc = .ok (.if_icmp .eq off, 3)) (ht : (pc : Int) + off = (tgt : Int)) (kt : x = y → Go E M tgt ls st h r hr) (kf : ¬ x = y → Go E M (pc + 3) ls st h r hr) : Go E M pc ls (.int y :: .int x :: st) h r hr :=
  fun p e s m args below meth c H locs L C hS hP hL => lv_icmp_eq C.1 C.2.1 hd ht (fun q => kt q p e s m args below meth c H locs L C hS hP hL) (fun q => kf q p e s m args below meth c H locs L C hS hP hL)
theorem q_if_eq {x : Int32} {off : Int} {tgt : Nat} (hd : decode (mB M) pc = .ok (.ifCond .eq off, 3)) (ht : (pc : Int) + off = (tgt : Int)) (kt : x = 0 → Go E M tgt ls st h r hr) (kf : ¬ x = 0 → Go E M (pc + 3) ls st h r hr) : Go E M pc ls (.int x :: st) h r hr :=
  fun p e s m args below meth c H locs L C hS hP hL => lv_if_eq C.1 C.2.1 hd ht (fun q => kt q p e s m args below meth c H locs L C hS hP hL) (fun q => kf q p e s m args below meth c H locs L C hS hP hL)
theorem q_icmp_ne {x y : Int32} {off : Int} {tgt : Nat} (hd : decode (mB M) pc = .ok (.if_icmp .ne off, 3)) (ht : (pc : Int) + off = (tgt : Int)) (kt : ¬ x = y → Go E M tgt ls st h r hr) (kf : x = y → Go E M (pc + 3) ls st h r hr) : Go E M pc ls (.int y :: .int x :: st) h r hr :=
  fun p e s m args below meth c H locs L C hS hP hL => lv_icmp_ne C.1 C.2.1 hd ht (fun q => kt q p e s m args below meth c H locs L C hS hP hL) (fun q => kf q p e s m args below meth c H locs L C hS hP hL)
theorem q_if_ne {x : Int32} {off : Int} {tgt : Nat} (hd : decode (mB M) pc = .ok (.ifCond .ne off, 3)) (ht : (pc : Int) + off = (tgt : Int)) (kt : ¬ x = 0 → Go E M tgt ls st h r hr) (kf : x = 0 → Go E M (pc + 3) ls st h r hr) : Go E M pc ls (.int x :: st) h r hr :=
  fun p e s m args below meth c H locs L C hS hP hL => lv_if_ne C.1 C.2.1 hd ht (fun q => kt q p e s m args below meth c H locs L C hS hP hL) (fun q => kf q p e s m args below meth c H locs L C hS hP hL)
theorem q_icmp_lt {x y : Int32} {off : Int} {tgt : Nat} (hd : decode (mB M) pc = .ok (.if_icmp .lt off, 3)) (ht : (pc : Int) + off = (tgt : Int)) (kt : x < y → Go E M tgt ls st h r hr) (kf : ¬ x < y → Go E M (pc + 3) ls st h r hr) : Go E M pc ls (.int y :: .int x :: st) h r hr :=
  fun p e s m args below meth c H locs L C hS hP hL => lv_icmp_lt C.1 C.2.1 hd ht (fun q => kt q p e s m args below meth c H locs L C hS hP hL) (fun q => kf q p e s m args below meth c H locs L C hS hP hL)
theorem q_if_lt {x : Int32} {off : Int} {tgt : Nat} (hd : decode (mB M) pc = .ok (.ifCond .lt off, 3)) (ht : (pc : Int) + off = (tgt : Int)) (kt : x < 0 → Go E M tgt ls st h r hr) (kf : ¬ x < 0 → Go E M (pc + 3) ls st h r hr) : Go E M pc ls (.int x :: st) h r hr :=
  fun p e s m args below meth c H locs L C hS hP hL => lv_if_lt C.1 C.2.1 hd ht (fun q => kt q p e s m args below meth c H locs L C hS hP hL) (fun q => kf q p e s m args below meth c H locs L C hS hP hL)
theorem q_icmp_ge {x y : Int32} {off : Int} {tgt : Nat} (hd : decode (mB M) pc = .ok (.if_icmp .ge off, 3)) (ht : (pc : Int) + off = (tgt : Int)) (kt : y ≤ x → Go E M tgt ls st h r hr) (kf : ¬ y ≤ x → Go E M (pc + 3) ls st h r hr) : Go E M pc ls (.int y :: .int x :: st) h r hr :=
  fun p e s m args below meth c H locs L C hS hP hL => lv_icmp_ge C.1 C.2.1 hd ht (fun q => kt q p e s m args below meth c H locs L C hS hP hL) (fun q => kf q p e s m args below meth c H locs L C hS hP hL)
theorem q_if_ge {x : Int32} {off : Int} {tgt : Nat} (hd : decode (mB M) pc = .ok (.ifCond .ge off, 3)) (ht : (pc : Int) + off = (tgt : Int)) (kt : 0 ≤ x → Go E M tgt ls st h r hr) (kf : ¬ 0 ≤ x → Go E M (pc + 3) ls st h r hr) : Go E M pc ls (.int x :: st) h r hr :=
  fun p e s m args below meth c H locs L C hS hP hL => lv_if_ge C.1 C.2.1 hd ht (fun q => kt q p e s m args below meth c H locs L C hS hP hL) (fun q => kf q p e s m args below meth c H locs L C hS hP hL)
theorem q_icmp_gt {x y : Int32} {off : Int} {tgt : Nat} (hd : decode (mB M) pc = .ok (.if_icmp .gt off, 3)) (ht : (pc : Int) + off = (tgt : Int)) (kt : y < x → Go E M tgt ls st h r hr) (kf : ¬ y < x → Go E M (pc + 3) ls st h r hr) : Go E M pc ls (.int y :: .int x :: st) h r hr :=
  fun p e s m args below meth c H locs L C hS hP hL => lv_icmp_gt C.1 C.2.1 hd ht (fun q => kt q p e s m args below meth c H locs L C hS hP hL) (fun q => kf q p e s m args below meth c H locs L C hS hP hL)
theorem q_if_gt {x : Int32} {off : Int} {tgt : Nat} (hd : decode (mB M) pc = .ok (.ifCond .gt off, 3)) (ht : (pc : Int) + off = (tgt : Int)) (kt : 0 < x → Go E M tgt ls st h r hr) (kf : ¬ 0 < x → Go E M (pc + 3) ls st h r hr) : Go E M pc ls (.int x :: st) h r hr :=
  fun p e s m args below meth c H locs L C hS hP hL => lv_if_gt C.1 C.2.1 hd ht (fun q => kt q p e s m args below meth c H locs L C hS hP hL) (fun q => kf q p e s m args below meth c H locs L C hS hP hL)
theorem q_icmp_le {x y : Int32} {off : Int} {tgt : Nat} (hd : decode (mB M) pc = .ok (.if_icmp .le off, 3)) (ht : (pc : Int) + off = (tgt : Int)) (kt : x ≤ y → Go E M tgt ls st h r hr) (kf : ¬ x ≤ y → Go E M (pc + 3) ls st h r hr) : Go E M pc ls (.int y :: .int x :: st) h r hr :=
  fun p e s m args below meth c H locs L C hS hP hL => lv_icmp_le C.1 C.2.1 hd ht (fun q => kt q p e s m args below meth c H locs L C hS hP hL) (fun q => kf q p e s m args below meth c H locs L C hS hP hL)
theorem q_if_le {x : Int32} {off : Int} {tgt : Nat} (hd : decode (mB M) pc = .ok (.ifCond .le off, 3)) (ht : (pc : Int) + off = (tgt : Int)) (kt : x ≤ 0 → Go E M tgt ls st h r hr) (kf : ¬ x ≤ 0 → Go E M (pc + 3) ls st h r hr) : Go E M pc ls (.int x :: st) h r hr :=
  fun p e s m args below meth c H locs L C hS hP hL => lv_if_le C.1 C.2.1 hd ht (fun q => kt q p e s m args below meth c H locs L C hS hP hL) (fun q => kf q p e s m args below meth c H locs L C hS hP hL)
end GO
end
section
/-! fields, arrays, returns, calls -/
section GO
variable {E : pE} {M : MI} {pc : Nat} {ls : List (Option Value)} {st : List Value} {h h' hr : pH} {r : Option Value}
theorem q_getf (hM : MOK M) {i c k o : Nat} (hf : mF M i = some (c, k)) (ho : ak o = 0 ∧ cx o = c) {v : Value} (hv : fv (eA E) h o k ((KF.getD c []).getD k 9) = vm (eA E) v) (h9 : (KF.getD c []).getD k 9 ≠ 9)
    (hd : decode (mB M) pc = .ok (.getfield i, 3)) (kk : Go E M (pc + 3) ls (v :: st) h r hr) : Go E M pc ls (.ref o :: st) h r hr := by
  intro p e s m args below meth cc H locs L C hS hP hL
  obtain ⟨q, hc, hk, hl⟩ := hM.2.2.2.2.2.1 i c k hf
  obtain ⟨ty, hi, -, -, -, -⟩ := cl_ok hc
  have hlt : o < NO := ob_lt (by rw [ho.1]; decide)
  have he := wl_at (ad := eA E) (tc := eC E) (h := h) hlt
  rw [cellE_0 ho.1, ho.2] at he
  have hfv := fvs_at (ad := eA E) (h := h) (o := o) h9
  rw [hv] at hfv
  exact va_get (D := eD E) (ci := c) (v := vm (eA E) v) (C := q.1) (T := q.2.1) (N := q.2.2) C.1 C.2.1 C.2.2.2.2.2.1 (fun w hw => List.mem_cons_of_mem _ (hi w hw)) C.2.2.2.2.1 C.2.2.2.2.2.2.2.1 hP o he hc k hk (C.2.2.2.2.2.1 _ (List.mem_cons_of_mem _ hl)) (fun _ h9 => h9) hfv hd
    (kk p e s m args below meth cc H locs L C hS hP hL)
theorem q_getI (hM : MOK M) {i c k o : Nat} (hf : mF M i = some (c, k)) (hk : (KF.getD c []).getD k 9 = 0 ∨ (KF.getD c []).getD k 9 = 3) (ho : ak o = 0 ∧ cx o = c) (hd : decode (mB M) pc = .ok (.getfield i, 3)) (kk : Go E M (pc + 3) ls (.int (hI h o k) :: st) h r hr) : Go E M pc ls (.ref o :: st) h r hr :=
  q_getf hM hf ho (by rcases hk with q | q <;> rw [q] <;> rfl) (by rcases hk with q | q <;> rw [q] <;> decide) hd kk
theorem q_getL (hM : MOK M) {i c k o : Nat} (hf : mF M i = some (c, k)) (hk : (KF.getD c []).getD k 9 = 1) (ho : ak o = 0 ∧ cx o = c) (hd : decode (mB M) pc = .ok (.getfield i, 3)) (kk : Go E M (pc + 3) ls (.long (hL h o k) :: st) h r hr) : Go E M pc ls (.ref o :: st) h r hr :=
  q_getf hM hf ho (by rw [hk]; rfl) (by rw [hk]; decide) hd kk
theorem q_getR (hM : MOK M) {i c k o : Nat} (hf : mF M i = some (c, k)) (hk : (KF.getD c []).getD k 9 = 2) (ho : ak o = 0 ∧ cx o = c) (hd : decode (mB M) pc = .ok (.getfield i, 3)) (kk : Go E M (pc + 3) ls (.ref (rf o k) :: st) h r hr) : Go E M pc ls (.ref o :: st) h r hr :=
  q_getf hM hf ho (by rw [hk]; rfl) (by rw [hk]; decide) hd kk
theorem q_putf (hM : MOK M) {i c k o : Nat} (hf : mF M i = some (c, k)) (ho : ak o = 0 ∧ cx o = c) {v : Value} {h1 : pH} (hset : (fvs (eA E) h o c).set k v = fvs (eA E) h1 o c) (hwl : ∀ e, cellE (eA E) (eC E) h1 o = e → (wl (eA E) (eC E) h).set o (eA E o, e) = wl (eA E) (eC E) h1)
    (hty : ∀ (q : vw_C) (ty : Nat → FieldType), classes[c]? = some q → (∀ k, k < q.2.2 → ((KF.getD c []).getD k 9 = 0 → ty k = .int ∧ (q.2.1 k).2.2.2 = false) ∧ ((KF.getD c []).getD k 9 = 1 → ty k = .long ∧ (q.2.1 k).2.2.2 = false) ∧ ((KF.getD c []).getD k 9 = 3 → ty k = .boolean ∧ (q.2.1 k).2.2.2 = false)) → k < q.2.2 → (q.2.1 k).2.2.2 = false ∧ narrow (ty k) v = v ∧ fits (ty k) v = true) (hvm : vm (eA E) v = v)
    (hd : decode (mB M) pc = .ok (.putfield i, 3)) (kk : Go E M (pc + 3) ls st h1 r hr) : Go E M pc ls (v :: .ref o :: st) h r hr := by
  intro p e s m args below meth cc H locs L C hS hP hL
  obtain ⟨q, hc, hk, hl⟩ := hM.2.2.2.2.2.1 i c k hf
  obtain ⟨ty, hi, hty0, hnm, hlen, hkk⟩ := cl_ok hc
  obtain ⟨hfin, hn, hfit⟩ := hty q ty hc hkk hk
  have hlt : o < NO := ob_lt (by rw [ho.1]; decide)
  have he := wl_at (ad := eA E) (tc := eC E) (h := h) hlt
  rw [cellE_0 ho.1, ho.2] at he
  show W _ _ _ _ _ _ _ _ _ _ _ _ _ _ _ (F0 m pc L (vm (eA E) v :: .ref (eA E o) :: st.map (vm (eA E))))
  rw [hvm]
  refine va_put (D := eD E) (ci := c) (v := v) (ty := ty k) (C := q.1) (T := q.2.1) (N := q.2.2) C.1 C.2.1 C.2.2.2.2.2.1 (fun w hw => List.mem_cons_of_mem _ (hi w hw)) ty hty0 hnm C.2.2.2.2.1 C.2.2.2.2.2.2.2.1 hP (wl_D C.2.2.2.2.2.2.2 h) hS o he hc k hk (C.2.2.2.2.2.1 _ (List.mem_cons_of_mem _ hl)) (fun _ h9 => h9) hfin (hty0 k hk) hn hfit (by rw [fvs, List.length_mapIdx, hlen]; exact hk) hd (fun H1 locs1 hP1 hD1 hS1 => ?_)
  rw [hset] at hP1
  have e2 : cellE (eA E) (eC E) h1 o = .inr (c, fvs (eA E) h1 o c) := by rw [cellE_0 ho.1, ho.2]
  rw [hwl _ e2] at hP1
  exact kk p e s m args below meth cc H1 locs1 L C hS1 hP1 hL
theorem q_putI (hM : MOK M) {i c k o : Nat} {v : Int32} (hf : mF M i = some (c, k)) (hk : (KF.getD c []).getD k 9 = 0) (ho : ak o = 0 ∧ cx o = c) (hd : decode (mB M) pc = .ok (.putfield i, 3)) (kk : Go E M (pc + 3) ls st (sI h o k v) r hr) : Go E M pc ls (.int v :: .ref o :: st) h r hr :=
  q_putf hM hf ho (fvs_setI (by rw [hk]; decide) (by rw [hk]; decide) (by rw [hk]; decide)) (fun e he => wl_sI he) (fun q ty hc hkk hlt => by
    obtain ⟨e1, e2⟩ := (hkk k hlt).1 hk
    rw [e1]
    exact ⟨e2, rfl, rfl⟩) rfl hd kk
theorem q_putZ (hM : MOK M) {i c k o : Nat} {v : Int32} (hv : v = 0 ∨ v = 1) (hf : mF M i = some (c, k)) (hk : (KF.getD c []).getD k 9 = 3) (ho : ak o = 0 ∧ cx o = c) (hd : decode (mB M) pc = .ok (.putfield i, 3)) (kk : Go E M (pc + 3) ls st (sI h o k v) r hr) : Go E M pc ls (.int v :: .ref o :: st) h r hr :=
  q_putf hM hf ho (fvs_setI (by rw [hk]; decide) (by rw [hk]; decide) (by rw [hk]; decide)) (fun e he => wl_sI he) (fun q ty hc hkk hlt => by
    obtain ⟨e1, e2⟩ := (hkk k hlt).2.2 hk
    rw [e1]
    rcases hv with rfl | rfl <;> exact ⟨e2, by decide +kernel, by decide +kernel⟩) rfl hd kk
theorem q_putL (hM : MOK M) {i c k o : Nat} {v : Int64} (hf : mF M i = some (c, k)) (hk : (KF.getD c []).getD k 9 = 1) (ho : ak o = 0 ∧ cx o = c) (hd : decode (mB M) pc = .ok (.putfield i, 3)) (kk : Go E M (pc + 3) ls st (sL h o k v) r hr) : Go E M pc ls (.long v :: .ref o :: st) h r hr :=
  q_putf hM hf ho (fvs_setL hk) (fun e he => wl_sL he) (fun q ty hc hkk hlt => by
    obtain ⟨e1, e2⟩ := (hkk k hlt).2.1 hk
    rw [e1]
    exact ⟨e2, rfl, rfl⟩) rfl hd kk
theorem q_iald {o : Nat} {i : Int32} (ho : ak o = 1) (hin : ¬ (i < 0 ∨ cx o ≤ i.toNatClampNeg)) (hd : decode (mB M) pc = .ok (.iaload, 1)) (kk : Go E M (pc + 1) ls (.int (hI h o i.toNatClampNeg) :: st) h r hr) : Go E M pc ls (.int i :: .ref o :: st) h r hr := by
  intro p e s m args below meth cc H locs L C hS hP hL
  have he := wl_at (ad := eA E) (tc := eC E) (h := h) (ob_lt (by rw [ho]; decide))
  rw [cellE_1 ho] at he
  exact va_iald C.1 C.2.1 C.2.2.2.2.2.2.2.1 hP o 0 he rfl hin hd (kk p e s m args below meth cc H locs L C hS hP hL)
theorem q_bald {o : Nat} {i : Int32} (ho : ak o = 2) (hin : ¬ (i < 0 ∨ cx o ≤ i.toNatClampNeg)) (hd : decode (mB M) pc = .ok (.baload, 1)) (kk : Go E M (pc + 1) ls (.int (hI h o i.toNatClampNeg) :: st) h r hr) : Go E M pc ls (.int i :: .ref o :: st) h r hr := by
  intro p e s m args below meth cc H locs L C hS hP hL
  have he := wl_at (ad := eA E) (tc := eC E) (h := h) (ob_lt (by rw [ho]; decide))
  rw [cellE_2 ho] at he
  exact va_bald C.1 C.2.1 C.2.2.2.2.2.2.2.1 hP o 1 he rfl hin hd (kk p e s m args below meth cc H locs L C hS hP hL)
theorem q_zald {o : Nat} {i : Int32} (ho : ak o = 3) (hin : ¬ (i < 0 ∨ cx o ≤ i.toNatClampNeg)) (hd : decode (mB M) pc = .ok (.baload, 1)) (kk : Go E M (pc + 1) ls (.int (hI h o i.toNatClampNeg) :: st) h r hr) : Go E M pc ls (.int i :: .ref o :: st) h r hr := by
  intro p e s m args below meth cc H locs L C hS hP hL
  have he := wl_at (ad := eA E) (tc := eC E) (h := h) (ob_lt (by rw [ho]; decide))
  rw [cellE_3 ho] at he
  exact va_zald C.1 C.2.1 C.2.2.2.2.2.2.2.1 hP o 2 he rfl hin hd (kk p e s m args below meth cc H locs L C hS hP hL)
theorem q_lald {o : Nat} {i : Int32} (ho : ak o = 4) (hin : ¬ (i < 0 ∨ cx o ≤ i.toNatClampNeg)) (hd : decode (mB M) pc = .ok (.laload, 1)) (kk : Go E M (pc + 1) ls (.long (hL h o i.toNatClampNeg) :: st) h r hr) : Go E M pc ls (.int i :: .ref o :: st) h r hr := by
  intro p e s m args below meth cc H locs L C hS hP hL
  have he := wl_at (ad := eA E) (tc := eC E) (h := h) (ob_lt (by rw [ho]; decide))
  rw [cellE_4 ho] at he
  exact va_lald C.1 C.2.1 C.2.2.2.2.2.2.2.1 hP o 3 he rfl hin hd (kk p e s m args below meth cc H locs L C hS hP hL)
theorem q_aald {o : Nat} {i : Int32} (ho : ak o = 5) (hin : ¬ (i < 0 ∨ cx o ≤ i.toNatClampNeg)) (hd : decode (mB M) pc = .ok (.aaload, 1)) (kk : Go E M (pc + 1) ls (.ref (rf o i.toNatClampNeg) :: st) h r hr) : Go E M pc ls (.int i :: .ref o :: st) h r hr := by
  intro p e s m args below meth cc H locs L C hS hP hL
  have he := wl_at (ad := eA E) (tc := eC E) (h := h) (ob_lt (by rw [ho]; decide))
  rw [cellE_5 ho] at he
  have hlt : i.toNatClampNeg < cx o := Nat.not_le.mp fun q => hin (Or.inr q)
  have hK := C.2.2.2.2.2.2.2.1
  refine W.aald (v := .ref (eA E (rf o i.toNatClampNeg))) (ty := .array .int) C.1 C.2.1 (hP o _ he) ((hK.2 4 (eC E 5, .array .int) rfl).1 (cx o) (fun j => va_rf (if j < cx o then some (eA E (rf o j)) else none))) rfl (fun q => by cases q) ?_ ?_ rfl rfl hd (kk p e s m args below meth cc H locs L C hS hP hL)
  · show ¬ (i < 0 ∨ (arrV _ _ _).slots.size ≤ _)
    rw [arrV_size]
    exact hin
  · show (arrV _ _ _).slots[_]? = _
    rw [arrV_read _ _ hlt]
    simp only [if_pos hlt]
    rfl
theorem q_alen {o : Nat} {v : Int32} (ho : ak o = 1 ∨ ak o = 5) (hv : Int32.ofNat (cx o) = v) (hd : decode (mB M) pc = .ok (.arraylength, 1)) (kk : Go E M (pc + 1) ls (.int v :: st) h r hr) : Go E M pc ls (.ref o :: st) h r hr := by
  intro p e s m args below meth cc H locs L C hS hP hL
  rcases ho with ho | ho
  · have he := wl_at (ad := eA E) (tc := eC E) (h := h) (ob_lt (by rw [ho]; decide))
    rw [cellE_1 ho] at he
    exact va_alen C.1 C.2.1 C.2.2.2.2.2.2.2.1 hP o 0 he rfl hv hd (kk p e s m args below meth cc H locs L C hS hP hL)
  · have he := wl_at (ad := eA E) (tc := eC E) (h := h) (ob_lt (by rw [ho]; decide))
    rw [cellE_5 ho] at he
    exact va_alen C.1 C.2.1 C.2.2.2.2.2.2.2.1 hP o 4 he rfl hv hd (kk p e s m args below meth cc H locs L C hS hP hL)
theorem sI_self {h : pH} {o k : Nat} {v : Int32} : (sI h o k v).1 o = upd (h.1 o) k v := if_pos rfl
theorem sL_self {h : pH} {o k : Nat} {v : Int64} : (sL h o k v).2 o = vp_updL (h.2 o) k v := if_pos rfl
theorem q_iast {o : Nat} {i x : Int32} (ho : ak o = 1) (hin : ¬ (i < 0 ∨ cx o ≤ i.toNatClampNeg)) (hd : decode (mB M) pc = .ok (.iastore, 1)) (kk : Go E M (pc + 1) ls st (sI h o i.toNatClampNeg x) r hr) : Go E M pc ls (.int x :: .int i :: .ref o :: st) h r hr := by
  intro p e s m args below meth cc H locs L C hS hP hL
  have he := wl_at (ad := eA E) (tc := eC E) (h := h) (ob_lt (by rw [ho]; decide))
  rw [cellE_1 ho] at he
  refine va_iast C.1 C.2.1 C.2.2.2.2.2.2.2.1 hP (wl_D C.2.2.2.2.2.2.2 h) hS o 0 he rfl hin hd (fun H1 locs1 hP1 hD1 hS1 => ?_)
  rw [wl_sI (k := i.toNatClampNeg) (v := x) (by rw [cellE_1 ho, sI_self])] at hP1
  exact kk p e s m args below meth cc H1 locs1 L C hS1 hP1 hL
theorem q_bast {o : Nat} {i x : Int32} (ho : ak o = 2) (hin : ¬ (i < 0 ∨ cx o ≤ i.toNatClampNeg)) (hd : decode (mB M) pc = .ok (.bastore, 1)) (kk : Go E M (pc + 1) ls st (sI h o i.toNatClampNeg (vp_nar .byte x)) r hr) : Go E M pc ls (.int x :: .int i :: .ref o :: st) h r hr := by
  intro p e s m args below meth cc H locs L C hS hP hL
  have he := wl_at (ad := eA E) (tc := eC E) (h := h) (ob_lt (by rw [ho]; decide))
  rw [cellE_2 ho] at he
  refine va_bast C.1 C.2.1 C.2.2.2.2.2.2.2.1 hP (wl_D C.2.2.2.2.2.2.2 h) hS o 1 he rfl hin hd (fun H1 locs1 hP1 hD1 hS1 => ?_)
  rw [wl_sI (k := i.toNatClampNeg) (v := vp_nar .byte x) (by rw [cellE_2 ho, sI_self])] at hP1
  exact kk p e s m args below meth cc H1 locs1 L C hS1 hP1 hL
theorem q_zast {o : Nat} {i x : Int32} (ho : ak o = 3) (hin : ¬ (i < 0 ∨ cx o ≤ i.toNatClampNeg)) (hd : decode (mB M) pc = .ok (.bastore, 1)) (kk : Go E M (pc + 1) ls st (sI h o i.toNatClampNeg (vp_nar .boolean x)) r hr) : Go E M pc ls (.int x :: .int i :: .ref o :: st) h r hr := by
  intro p e s m args below meth cc H locs L C hS hP hL
  have he := wl_at (ad := eA E) (tc := eC E) (h := h) (ob_lt (by rw [ho]; decide))
  rw [cellE_3 ho] at he
  refine va_zast C.1 C.2.1 C.2.2.2.2.2.2.2.1 hP (wl_D C.2.2.2.2.2.2.2 h) hS o 2 he rfl hin hd (fun H1 locs1 hP1 hD1 hS1 => ?_)
  rw [wl_sI (k := i.toNatClampNeg) (v := vp_nar .boolean x) (by rw [cellE_3 ho, sI_self])] at hP1
  exact kk p e s m args below meth cc H1 locs1 L C hS1 hP1 hL
theorem q_last {o : Nat} {i : Int32} {x : Int64} (ho : ak o = 4) (hin : ¬ (i < 0 ∨ cx o ≤ i.toNatClampNeg)) (hd : decode (mB M) pc = .ok (.lastore, 1)) (kk : Go E M (pc + 1) ls st (sL h o i.toNatClampNeg x) r hr) : Go E M pc ls (.long x :: .int i :: .ref o :: st) h r hr := by
  intro p e s m args below meth cc H locs L C hS hP hL
  have he := wl_at (ad := eA E) (tc := eC E) (h := h) (ob_lt (by rw [ho]; decide))
  rw [cellE_4 ho] at he
  refine va_last C.1 C.2.1 C.2.2.2.2.2.2.2.1 hP (wl_D C.2.2.2.2.2.2.2 h) hS o 3 he rfl hin hd (fun H1 locs1 hP1 hD1 hS1 => ?_)
  rw [wl_sL (k := i.toNatClampNeg) (v := x) (by rw [cellE_4 ho, sL_self])] at hP1
  exact kk p e s m args below meth cc H1 locs1 L C hS1 hP1 hL
/-! returns -/
theorem q_iret {v : Int32} (hr0 : mR M = some .int) (hv : r = some (.int v)) (hh : hr = h) (hd : decode (mB M) pc = .ok (.ireturn, 1)) : Go E M pc ls [.int v] h r hr := by
  subst hv; subst hh
  intro p e s m args below meth cc H locs L C hS hP hL
  have hlocks := C.2.2.2.2.2.2.1
  exact W.iret C.1 C.2.1 (C.2.2.1.trans hr0) (fun t ht hW => ⟨⟨rfl, by rw [PP, ht]; exact hP⟩, hS.F ht⟩) hS.2.2 hd
theorem q_zret {v : Int32} (hr0 : mR M = some .boolean) (hb : v = 0 ∨ v = 1) (hv : r = some (.int v)) (hh : hr = h) (hd : decode (mB M) pc = .ok (.ireturn, 1)) : Go E M pc ls [.int v] h r hr := by
  subst hv; subst hh
  intro p e s m args below meth cc H locs L C hS hP hL
  have hlocks := C.2.2.2.2.2.2.1
  exact W.zret (ty := .boolean) C.1 C.2.1 (C.2.2.1.trans hr0) (by rcases hb with rfl | rfl <;> decide +kernel) (fun t ht hW => ⟨⟨rfl, by rw [PP, ht]; exact hP⟩, hS.F ht⟩) hS.2.2 hd
theorem q_lret {v : Int64} (hr0 : mR M = some .long) (hv : r = some (.long v)) (hh : hr = h) (hd : decode (mB M) pc = .ok (.lreturn, 1)) : Go E M pc ls [.long v] h r hr := by
  subst hv; subst hh
  intro p e s m args below meth cc H locs L C hS hP hL
  have hlocks := C.2.2.2.2.2.2.1
  exact W.lret C.1 C.2.1 (C.2.2.1.trans hr0) (fun t ht hW => ⟨⟨rfl, by rw [PP, ht]; exact hP⟩, hS.F ht⟩) hS.2.2 hd
theorem q_vret (hr0 : mR M = none) (hv : r = none) (hh : hr = h) (hd : decode (mB M) pc = .ok (.return_, 1)) : Go E M pc ls [] h r hr := by
  subst hv; subst hh
  intro p e s m args below meth cc H locs L C hS hP hL
  have hlocks := C.2.2.2.2.2.2.1
  exact W.vret C.1 C.2.1 (C.2.2.1.trans hr0) (fun t ht hW => ⟨⟨rfl, by rw [PP, ht]; exact hP⟩, hS.F ht⟩) hS.2.2 hd
end GO
end
section
/-! calls -/
/-- the words of a call -/
def LkV (M M' : MI) (i n : Nat) : Prop := Cond.methodLink (mO M) i (mY M') ∈ LT ∧ Cond.instanceMethod (mY M') ∈ LT ∧ Cond.selects (mO M') (mY M') (mY M') ∈ LT ∧ Cond.initialized (mO M') ∈ LT ∧ ((mY M').cls ≠ "java/lang/invoke/MethodHandle" ∧ (mY M').cls ≠ "java/lang/invoke/VarHandle" ∧ (parseMethodDescriptor (mY M').desc).map (fun d => d.parameters.length) = some n) ∧ (mRm M').frames + 1 ≤ (mRm M).frames ∧ 8 + (mL M' + 11) + (mRm M').locals ≤ (mRm M).locals
def LkS (M M' : MI) (i n : Nat) : Prop := Cond.methodLink (mO M) i (mY M') ∈ LT ∧ Cond.static (mY M') ∈ LT ∧ Cond.initialized (mO M') ∈ LT ∧ ((mY M').cls ≠ "java/lang/invoke/MethodHandle" ∧ (mY M').cls ≠ "java/lang/invoke/VarHandle" ∧ (parseMethodDescriptor (mY M').desc).map (fun d => d.parameters.length) = some n) ∧ (mRm M').frames + 1 ≤ (mRm M).frames ∧ 8 + (mL M' + 11) + (mRm M').locals ≤ (mRm M).locals
def LkSN (M M' : MI) (i n : Nat) (host : String) : Prop := (mO M, i, mY M', host) ∈ NL ∧ Cond.static (mY M') ∈ LT ∧ Cond.initialized (mO M') ∈ LT ∧ ((mY M').cls ≠ "java/lang/invoke/MethodHandle" ∧ (mY M').cls ≠ "java/lang/invoke/VarHandle" ∧ (parseMethodDescriptor (mY M').desc).map (fun d => d.parameters.length) = some n) ∧ (mRm M').frames + 1 ≤ (mRm M).frames ∧ 8 + (mL M' + 11) + (mRm M').locals ≤ (mRm M).locals
theorem goodM {M M' : MI} (hM' : MOK M') : GoodIn (wsM M) (wsM M') := fun w hw => by
  rcases List.mem_cons.mp hw with rfl | hw
  · exact ⟨List.mem_cons_of_mem _ hM'.2.1, LT_good _ hM'.2.1⟩
  · exact ⟨List.mem_cons_of_mem _ hw, LT_good _ hw⟩
section GO
variable {E : pE} {M M' : MI} {pc : Nat} {ls : List (Option Value)} {st : List Value} {h h' hr h1 : pH} {r rv : Option Value}
theorem pc_blind {as : List Value} : FrameBlind (fun v U => v = (as.map (vm (eA E))).toArray ∧ PP E h U.heap ∧ GE E U) := by
  intro a U g mk q
  obtain ⟨q1, q2, q3, q4, q5, q6⟩ := q
  exact ⟨q1, q2, va_K.moved (u := U) (U := U.calling g mk a) (Vm.Alike.refl U.vm) q3, ⟨q4.1.moved (Vm.Alike.refl U.vm), q4.2.1.same rfl, q4.2.2.same rfl⟩, q5, fun w hw => va_tabs rfl (rfl : U.vm = (U.calling g mk a).vm) (q6 w hw)⟩
theorem run_W {p : Program} {e : Env} {s : State} {m : MethodId} {args a : Array Value} {below : List Frame} {meth : Method} {c : Code} {H : Heap} {locs : List Loc} {L : Array Slot} {st0 rest : List Value} {l : Launch} {R : Room} {Q : State → Prop}
    (hrun : va_Run p l e R s m args below meth c H locs 0 0 0 0 (F0 m pc L st0) rest (QQ E rv h1 a) (wA (eA E))) (hS : va_S (wA (eA E)) s.heap H locs)
    (kk : ∀ (H1 : Heap) (locs1 : List Loc), va_S (wA (eA E)) s.heap H1 locs1 → PP E h1 H1 → W p l e R s m args below meth c H1 locs1 0 0 Q (F0 m (pc + 3) L (rv.toList ++ rest))) : W p l e R s m args below meth c H locs 0 0 Q (F0 m pc L st0) := by
  intro T hT X
  obtain ⟨v, st₀, t, T', L1, h0, X', hL, e1, e2, ⟨⟨hv, hp⟩, hz, hk⟩, stp⟩ := hrun T hT X
  cases hv
  rw [h0] at hz hk
  obtain ⟨t2, a1, b1⟩ := kk T'.heap (locs ++ L1)
    ⟨Nat.le_trans hS.1 (by rw [e1]; exact hz), fun q h1 h2 => by rw [e1, hk q (Nat.lt_of_lt_of_le h1 hS.1) h2]; exact hS.2.1 q h1 h2, fun q hq => by
      rcases List.mem_append.mp hq with h | h
      · exact hS.2.2 q h
      · exact hL q h⟩ (by rw [PP, e1]; exact hp) T' rfl X'
  exact ⟨t2, stp t2 a1, b1⟩
theorem pre_at {p : Program} {s : State} {m : MethodId} {args : Array Value} {meth : Method} {c : Code} {H : Heap} {locs : List Loc} (C : CX E M p s m args meth c) (hS : va_S (wA (eA E)) s.heap H locs) (hP : PP E h H) (as : List Value) (U : State) (hU : U.heap = H) (hW : s.WarmedH U.vm) :
    (fun v U => v = (as.map (vm (eA E))).toArray ∧ PP E h U.heap ∧ GE E U) (as.map (vm (eA E))).toArray U :=
  ⟨rfl, by rw [PP, hU]; exact hP, C.2.2.2.2.2.2.2.moved hW (fun a ha hn => by rw [hU]; exact hS.2.1 a ha hn)⟩
theorem cat_map (ad : Nat → Nat) (st : List Value) : ((st.map (vm ad)).map fun v => v.category) = st.map fun v => v.category := by
  rw [List.map_map]
  apply List.map_congr_left
  intro v _
  exact vm_cat ad v
theorem cat_app (ad : Nat → Nat) (rv : Option Value) (hv : ∀ v, rv = some v → vm ad v = v) (st : List Value) : rv.toList ++ st.map (vm ad) = (rv.toList ++ st).map (vm ad) := by
  cases rv with
  | none => rfl
  | some v => simp [hv v rfl]
theorem q_callV (hM' : MOK M') {i n o ci : Nat} {as : List Value} (hlk : LkV M M' i n) (ct : Ct E M' (.ref o :: as) h rv h1) (hn : as.length = n) (ho : ak o = 0 ∧ cx o = ci) (hci : (classes[ci]?).map (·.1) = some (mO M')) (hv : ∀ v, rv = some v → vm (eA E) v = v) (hcat : (st.map fun v => v.category).sum ≤ 8) (hd : decode (mB M) pc = .ok (.invokevirtual i, 3)) {st0 : List Value} (hst : as.reverse ++ .ref o :: st = st0)
    (kk : Go E M (pc + 3) ls (rv.toList ++ st) h1 r hr) : Go E M pc ls st0 h r hr := by
  subst hst
  intro p e s m args below meth cc H locs L C hS hP hL
  have hts := C.2.2.2.2.2.1
  have hlt : o < NO := ob_lt (by rw [ho.1]; decide)
  have he := wl_at (ad := eA E) (tc := eC E) (h := h) hlt
  rw [cellE_0 ho.1, ho.2] at he
  obtain ⟨q, hq, hqn⟩ := Option.map_eq_some_iff.mp hci
  refine run_W (rv := rv) (h1 := h1) (a := (Value.ref (eA E o) :: as.map (vm (eA E))).toArray) (rest := st.map (vm (eA E))) (va_runV (As := as.map (vm (eA E))) (b := eA E o) (C := mO M') (n := n) (bytes := mB M') (maxL := mL M') (ret := mR M') (index := i) ⟨C.1, C.2.1, C.2.2.2.1, C.2.2.2.2.1, hts⟩ ct (cwV n hts ?_ rfl hM'.2.2.2.1 hM'.2.2.2.2.1 ⟨hM'.2.2.1, hlk.2.2.2.2.1⟩ hlk.2.2.2.2.2) ⟨pc_blind, ?_, fun U hU hW => ?_⟩ rfl (by rw [List.length_map]; exact hn) hL.1 ?_ (lv_room (by rw [cat_map]; exact hcat)) hd ⟨Nat.zero_le _, Nat.zero_le _⟩) hS (fun H1 locs1 hS1 hP1 => ?_)
  · intro w hw
    rcases List.mem_append.mp hw with hw | hw
    · have : w ∈ LT := by
        rcases List.mem_cons.mp hw with rfl | hw
        · exact hlk.1
        rcases List.mem_cons.mp hw with rfl | hw
        · exact hlk.2.1
        rcases List.mem_cons.mp hw with rfl | hw
        · exact hlk.2.2.1
        rcases List.mem_cons.mp hw with rfl | hw
        · exact hlk.2.2.2.1
        cases hw
      exact ⟨List.mem_cons_of_mem _ this, LT_good w this⟩
    · exact goodM hM' w hw
  · have := va_recv (C.2.2.2.2.2.2.2.1) hP (ci := ci) (q0 := o) hq he
    rw [hqn] at this
    exact this
  · exact pre_at C hS hP (.ref o :: as) U hU hW
  · show (as.reverse ++ .ref o :: st).map (vm (eA E)) = _
    rw [List.map_append, List.map_reverse]
    rfl
  · rw [cat_app _ _ hv]
    exact kk p e s m args below meth cc H1 locs1 L C hS1 hP1 hL
theorem q_callS (hM' : MOK M') {i n : Nat} {as : List Value} (hlk : LkS M M' i n) (ct : Ct E M' as h rv h1) (hn : as.length = n) (hv : ∀ v, rv = some v → vm (eA E) v = v) (hcat : (st.map fun v => v.category).sum ≤ 8) (hd : decode (mB M) pc = .ok (.invokestatic i, 3)) {st0 : List Value} (hst : as.reverse ++ st = st0)
    (kk : Go E M (pc + 3) ls (rv.toList ++ st) h1 r hr) : Go E M pc ls st0 h r hr := by
  subst hst
  intro p e s m args below meth cc H locs L C hS hP hL
  have hts := C.2.2.2.2.2.1
  refine run_W (rv := rv) (h1 := h1) (a := (as.map (vm (eA E))).toArray) (rest := st.map (vm (eA E))) (va_runS (As := as.map (vm (eA E))) (n := n) (bytes := mB M') (maxL := mL M') (ret := mR M') (index := i) ⟨C.1, C.2.1, C.2.2.2.1, C.2.2.2.2.1, hts⟩ ct ⟨callB_of n hts (goodM hM') rfl hM'.2.2.2.1 hM'.2.2.2.2.1 (by rw [hM'.2.2.1]; exact hts _ (List.mem_cons_of_mem _ hlk.2.2.1)) (hts _ (List.mem_cons_of_mem _ hlk.1)) hlk.2.2.2.1 hlk.2.2.2.2, hts _ (List.mem_cons_of_mem _ hlk.2.1)⟩ ⟨pc_blind, fun U hU hW => pre_at C hS hP as U hU hW⟩ rfl (by rw [List.length_map]; exact hn) hL.1 ?_ (lv_room (by rw [cat_map]; exact hcat)) hd ⟨Nat.zero_le _, Nat.zero_le _⟩) hS (fun H1 locs1 hS1 hP1 => ?_)
  · show (as.reverse ++ st).map (vm (eA E)) = _
    rw [List.map_append, List.map_reverse]
  · rw [cat_app _ _ hv]
    exact kk p e s m args below meth cc H1 locs1 L C hS1 hP1 hL
theorem q_callSN (hM' : MOK M') {i n : Nat} {host : String} {as : List Value} (hlk : LkSN M M' i n host) (ct : Ct E M' as h rv h1) (hn : as.length = n) (hv : ∀ v, rv = some v → vm (eA E) v = v) (hcat : (st.map fun v => v.category).sum ≤ 8) (hd : decode (mB M) pc = .ok (.invokestatic i, 3)) {st0 : List Value} (hst : as.reverse ++ st = st0)
    (kk : Go E M (pc + 3) ls (rv.toList ++ st) h1 r hr) : Go E M pc ls st0 h r hr := by
  subst hst
  intro p e s m args below meth cc H locs L C hS hP hL
  have hts := C.2.2.2.2.2.1
  refine run_W (rv := rv) (h1 := h1) (a := (as.map (vm (eA E))).toArray) (rest := st.map (vm (eA E))) (va_runSN (As := as.map (vm (eA E))) (n := n) (bytes := mB M') (maxL := mL M') (ret := mR M') (index := i) (host := host) ⟨C.1, C.2.1, C.2.2.2.1, C.2.2.2.2.1, hts⟩ ct ⟨va_cnB n hts (goodM hM') rfl hM'.2.2.2.1 hM'.2.2.2.2.1 ?_ (by rw [hM'.2.2.1]; exact hts _ (List.mem_cons_of_mem _ hlk.2.2.1)) hlk.2.2.2.1 hlk.2.2.2.2, hts _ (List.mem_cons_of_mem _ hlk.2.1), trivial⟩ ⟨pc_blind, fun U hU hW => pre_at C hS hP as U hU hW⟩ rfl (by rw [List.length_map]; exact hn) hL.1 ?_ (lv_room (by rw [cat_map]; exact hcat)) hd ⟨Nat.zero_le _, Nat.zero_le _⟩) hS (fun H1 locs1 hS1 hP1 => ?_)
  · exact C.2.2.2.2.2.2.2.2.2.2 _ hlk.1
  · show (as.reverse ++ st).map (vm (eA E)) = _
    rw [List.map_append, List.map_reverse]
  · rw [cat_app _ _ hv]
    exact kk p e s m args below meth cc H1 locs1 L C hS1 hP1 hL
/-! switches -/
theorem q_tableIn {d lo hi off : Int} {offs : Array Int} {len tgt : Nat} {x : Int32} (hd : decode (mB M) pc = .ok (.tableswitch d lo hi offs, len)) (h1 : ¬ x.toInt < lo) (h2 : ¬ hi < x.toInt) (ho : offs[(x.toInt - lo).toNat]? = some off) (ht : (pc : Int) + off = (tgt : Int)) (k : Go E M tgt ls st h r hr) : Go E M pc ls (.int x :: st) h r hr :=
  fun p e s m args below meth c H locs L C hS hP hL => lv_tableIn C.1 C.2.1 hd h1 h2 ho ht (k p e s m args below meth c H locs L C hS hP hL)
theorem q_tableOut {d lo hi : Int} {offs : Array Int} {len tgt : Nat} {x : Int32} (hd : decode (mB M) pc = .ok (.tableswitch d lo hi offs, len)) (h0 : x.toInt < lo ∨ hi < x.toInt) (ht : (pc : Int) + d = (tgt : Int)) (k : Go E M tgt ls st h r hr) : Go E M pc ls (.int x :: st) h r hr :=
  fun p e s m args below meth c H locs L C hS hP hL => lv_tableOut C.1 C.2.1 hd h0 ht (k p e s m args below meth c H locs L C hS hP hL)
theorem q_lookup {d off : Int} {ps : Array (Int × Int)} {len tgt : Nat} {x : Int32} (hd : decode (mB M) pc = .ok (.lookupswitch d ps, len)) (hp : (ps.toList.zip (ps.toList.drop 1)).all (fun (a, next) => a.1 < next.1) = true) (ho : Op.lookupswitch.offset ps.toList d x.toInt = off) (ht : (pc : Int) + off = (tgt : Int)) (k : Go E M tgt ls st h r hr) : Go E M pc ls (.int x :: st) h r hr :=
  fun p e s m args below meth c H locs L C hS hP hL => lv_lookup C.1 C.2.1 hd hp ho ht (k p e s m args below meth c H locs L C hS hP hL)
end GO
end
section
/-! many instructions at once -/
def ilen : Instr → Nat
  | .bipush _ => 2
  | .sipush _ => 3
  | .ldc _ => 2
  | .ldc_w _ => 3
  | .ldc2_w _ => 3
  | .iload _ => 2
  | .aload _ => 2
  | .lload _ => 2
  | .istore _ => 2
  | .astore _ => 2
  | .lstore _ => 2
  | .iinc _ _ => 3
  | .getfield _ => 3
  | .putfield _ => 3
  | .goto _ => 3
  | _ => 1
def codeB (b : ByteArray) : Nat → List Instr → Bool
  | _, [] => true
  | pc, i :: t => decide (decode b pc = .ok (i, ilen i)) && codeB b (pc + ilen i) t
def jshl (x y : Int32) : Int32 := x <<< (y &&& 31)
def jshr (x y : Int32) : Int32 := x >>> (y &&& 31)
def jushr (x y : Int32) : Int32 := (x.toUInt32 >>> (y.toUInt32 &&& Int32.toUInt32 31)).toInt32
def jrem (x y : Int32) : Int32 := x - x / y * y
def s1st (M : MI) (ls : List (Option Value)) (i : Nat) (v : Value) (r : List Value) (h : pH) : Option ((List (Option Value) × List Value × pH) × Option Prop) :=
  bif decide (i < mL M) && !wide ls i then some ((ls.set i (some v), r, h), none) else none
def s1st2 (M : MI) (ls : List (Option Value)) (i : Nat) (v : Value) (r : List Value) (h : pH) : Option ((List (Option Value) × List Value × pH) × Option Prop) :=
  bif decide (i + 1 < mL M) && !wide ls i then some (((ls.set i (some v)).set (i + 1) none, r, h), none) else none
def s1 (M : MI) (i : Instr) (ls : List (Option Value)) (st : List Value) (h : pH) : Option ((List (Option Value) × List Value × pH) × Option Prop) :=
  match i with
  | .iconst n => some ((ls, .int (Int32.ofInt n) :: st, h), none)
  | .bipush n => some ((ls, .int (Int8.ofInt n).toInt32 :: st, h), none)
  | .sipush n => some ((ls, .int (Int16.ofInt n).toInt32 :: st, h), none)
  | .lconst n => some ((ls, .long (Int64.ofNat n) :: st, h), none)
  | .ldc n => match mK M n with
    | some v => some ((ls, .int v :: st, h), none)
    | none => none
  | .ldc_w n => match mK M n with
    | some v => some ((ls, .int v :: st, h), none)
    | none => none
  | .iload_n n => match ls[n.val]? with
    | some (some (.int x)) => some ((ls, .int x :: st, h), none)
    | _ => none
  | .iload n => match ls[n]? with
    | some (some (.int x)) => some ((ls, .int x :: st, h), none)
    | _ => none
  | .aload_n n => match ls[n.val]? with
    | some (some (.ref x)) => some ((ls, .ref x :: st, h), none)
    | _ => none
  | .aload n => match ls[n]? with
    | some (some (.ref x)) => some ((ls, .ref x :: st, h), none)
    | _ => none
  | .lload_n n => match ls[n.val]? with
    | some (some (.long x)) => some ((ls, .long x :: st, h), none)
    | _ => none
  | .lload n => match ls[n]? with
    | some (some (.long x)) => some ((ls, .long x :: st, h), none)
    | _ => none
  | .istore_n n => match st with
    | .int x :: r => s1st M ls n.val (.int x) r h
    | _ => none
  | .istore n => match st with
    | .int x :: r => s1st M ls n (.int x) r h
    | _ => none
  | .astore_n n => match st with
    | .ref x :: r => s1st M ls n.val (.ref x) r h
    | _ => none
  | .astore n => match st with
    | .ref x :: r => s1st M ls n (.ref x) r h
    | _ => none
  | .lstore_n n => match st with
    | .long x :: r => s1st2 M ls n.val (.long x) r h
    | _ => none
  | .lstore n => match st with
    | .long x :: r => s1st2 M ls n (.long x) r h
    | _ => none
  | .iinc n c => match ls[n]? with
    | some (some (.int x)) => s1st M ls n (.int (x + Int32.ofInt c)) st h
    | _ => none
  | .iadd => match st with
    | .int y :: .int x :: r => some ((ls, .int (x + y) :: r, h), none)
    | _ => none
  | .isub => match st with
    | .int y :: .int x :: r => some ((ls, .int (x - y) :: r, h), none)
    | _ => none
  | .imul => match st with
    | .int y :: .int x :: r => some ((ls, .int (x * y) :: r, h), none)
    | _ => none
  | .iand => match st with
    | .int y :: .int x :: r => some ((ls, .int (x &&& y) :: r, h), none)
    | _ => none
  | .ior => match st with
    | .int y :: .int x :: r => some ((ls, .int (x ||| y) :: r, h), none)
    | _ => none
  | .ixor => match st with
    | .int y :: .int x :: r => some ((ls, .int (x ^^^ y) :: r, h), none)
    | _ => none
  | .ishl => match st with
    | .int y :: .int x :: r => some ((ls, .int (jshl x y) :: r, h), none)
    | _ => none
  | .ishr => match st with
    | .int y :: .int x :: r => some ((ls, .int (jshr x y) :: r, h), none)
    | _ => none
  | .iushr => match st with
    | .int y :: .int x :: r => some ((ls, .int (jushr x y) :: r, h), none)
    | _ => none
  | .idiv => match st with
    | .int y :: .int x :: r => some ((ls, .int (x / y) :: r, h), some (¬ y = 0))
    | _ => none
  | .irem => match st with
    | .int y :: .int x :: r => some ((ls, .int (jrem x y) :: r, h), some (¬ y = 0))
    | _ => none
  | .ineg => match st with
    | .int x :: r => some ((ls, .int (-x) :: r, h), none)
    | _ => none
  | .ladd => match st with
    | .long y :: .long x :: r => some ((ls, .long (x + y) :: r, h), none)
    | _ => none
  | .lmul => match st with
    | .long y :: .long x :: r => some ((ls, .long (x * y) :: r, h), none)
    | _ => none
  | .lcmp => match st with
    | .long y :: .long x :: r => some ((ls, .int (lg_cmp x y) :: r, h), none)
    | _ => none
  | .i2l => match st with
    | .int x :: r => some ((ls, .long x.toInt64 :: r, h), none)
    | _ => none
  | .i2b => match st with
    | .int x :: r => some ((ls, .int x.toInt8.toInt32 :: r, h), none)
    | _ => none
  | .dup => match st with
    | .int x :: r => some ((ls, .int x :: .int x :: r, h), none)
    | .ref x :: r => some ((ls, .ref x :: .ref x :: r, h), none)
    | _ => none
  | .dup2 => match st with
    | .int x :: .ref y :: r => some ((ls, .int x :: .ref y :: .int x :: .ref y :: r, h), none)
    | _ => none
  | .pop => match st with
    | .int _ :: r => some ((ls, r, h), none)
    | .ref _ :: r => some ((ls, r, h), none)
    | _ => none
  | .getfield n => match st with
    | .ref o :: r => match mF M n with
      | some (c, k) => match (KF.getD c []).getD k 9 with
        | 0 => some ((ls, .int (hI h o k) :: r, h), some (ak o = 0 ∧ cx o = c))
        | 3 => some ((ls, .int (hI h o k) :: r, h), some (ak o = 0 ∧ cx o = c))
        | 1 => some ((ls, .long (hL h o k) :: r, h), some (ak o = 0 ∧ cx o = c))
        | 2 => some ((ls, .ref (rf o k) :: r, h), some (ak o = 0 ∧ cx o = c))
        | _ => none
      | none => none
    | _ => none
  | .putfield n => match st with
    | .int v :: .ref o :: r => match mF M n with
      | some (c, k) => match (KF.getD c []).getD k 9 with
        | 0 => some ((ls, r, sI h o k v), some (ak o = 0 ∧ cx o = c))
        | 3 => some ((ls, r, sI h o k v), some ((ak o = 0 ∧ cx o = c) ∧ (v = 0 ∨ v = 1)))
        | _ => none
      | none => none
    | .long v :: .ref o :: r => match mF M n with
      | some (c, k) => match (KF.getD c []).getD k 9 with
        | 1 => some ((ls, r, sL h o k v), some (ak o = 0 ∧ cx o = c))
        | _ => none
      | none => none
    | _ => none
  | .iaload => match st with
    | .int i :: .ref o :: r => some ((ls, .int (hI h o i.toNatClampNeg) :: r, h), some (ak o = 1 ∧ ¬ (i < 0 ∨ cx o ≤ i.toNatClampNeg)))
    | _ => none
  | .baload => match st with
    | .int i :: .ref o :: r => some ((ls, .int (hI h o i.toNatClampNeg) :: r, h), some ((ak o = 2 ∨ ak o = 3) ∧ ¬ (i < 0 ∨ cx o ≤ i.toNatClampNeg)))
    | _ => none
  | .laload => match st with
    | .int i :: .ref o :: r => some ((ls, .long (hL h o i.toNatClampNeg) :: r, h), some (ak o = 4 ∧ ¬ (i < 0 ∨ cx o ≤ i.toNatClampNeg)))
    | _ => none
  | .aaload => match st with
    | .int i :: .ref o :: r => some ((ls, .ref (rf o i.toNatClampNeg) :: r, h), some (ak o = 5 ∧ ¬ (i < 0 ∨ cx o ≤ i.toNatClampNeg)))
    | _ => none
  | .arraylength => match st with
    | .ref o :: r => some ((ls, .int (Int32.ofNat (cx o)) :: r, h), some (ak o = 1 ∨ ak o = 5))
    | _ => none
  | .iastore => match st with
    | .int x :: .int i :: .ref o :: r => some ((ls, r, sI h o i.toNatClampNeg x), some (ak o = 1 ∧ ¬ (i < 0 ∨ cx o ≤ i.toNatClampNeg)))
    | _ => none
  | .bastore => match st with
    | .int x :: .int i :: .ref o :: r => match ak o with
      | 2 => some ((ls, r, sI h o i.toNatClampNeg (vp_nar .byte x)), some (¬ (i < 0 ∨ cx o ≤ i.toNatClampNeg)))
      | 3 => some ((ls, r, sI h o i.toNatClampNeg (vp_nar .boolean x)), some (¬ (i < 0 ∨ cx o ≤ i.toNatClampNeg)))
      | _ => none
    | _ => none
  | .lastore => match st with
    | .long x :: .int i :: .ref o :: r => some ((ls, r, sL h o i.toNatClampNeg x), some (ak o = 4 ∧ ¬ (i < 0 ∨ cx o ≤ i.toNatClampNeg)))
    | _ => none
  | _ => none
def gA (g : Option Prop) (P : Prop) : Prop := match g with
  | none => P
  | some q => q ∧ P
def slr (M : MI) : List Instr → Nat → List (Option Value) → List Value → pH → Option ((Nat × List (Option Value) × List Value × pH) × Prop)
  | [], pc, ls, st, h => some ((pc, ls, st, h), True)
  | i :: t, pc, ls, st, h => match s1 M i ls st h with
    | none => none
    | some ((ls1, st1, h1), g) => match slr M t (pc + ilen i) ls1 st1 h1 with
      | none => none
      | some (S, P) => some (S, gA g P)
section GO
variable {E : pE} {M : MI} {pc : Nat} {ls : List (Option Value)} {st : List Value} {h h' hr : pH} {r : Option Value}
theorem s1st_ok {i : Nat} {v : Value} {rr : List Value} {ls1 : List (Option Value)} {st1 : List Value} {h1 : pH} {g : Option Prop} (e : s1st M ls i v rr h = some ((ls1, st1, h1), g)) : i < mL M ∧ wide ls i = false ∧ ls1 = ls.set i (some v) ∧ st1 = rr ∧ h1 = h := by
  unfold s1st at e
  cases hc : (decide (i < mL M) && !wide ls i) with
  | false => rw [hc] at e; cases e
  | true =>
    rw [hc] at e
    cases e
    simp at hc
    exact ⟨hc.1, hc.2, rfl, rfl, rfl⟩
theorem s1st2_ok {i : Nat} {v : Value} {rr : List Value} {ls1 : List (Option Value)} {st1 : List Value} {h1 : pH} {g : Option Prop} (e : s1st2 M ls i v rr h = some ((ls1, st1, h1), g)) : i + 1 < mL M ∧ wide ls i = false ∧ ls1 = (ls.set i (some v)).set (i + 1) none ∧ st1 = rr ∧ h1 = h := by
  unfold s1st2 at e
  cases hc : (decide (i + 1 < mL M) && !wide ls i) with
  | false => rw [hc] at e; cases e
  | true =>
    rw [hc] at e
    cases e
    simp at hc
    exact ⟨hc.1, hc.2, rfl, rfl, rfl⟩
set_option maxHeartbeats 4000000 in
theorem s1_ok (hM : MOK M) {i : Instr} {ls1 : List (Option Value)} {st1 : List Value} {h1 : pH} {g : Option Prop} (e : s1 M i ls st h = some ((ls1, st1, h1), g)) (hd : decode (mB M) pc = .ok (i, ilen i)) {P : Prop} (hg : gA g P) (k : Go E M (pc + ilen i) ls1 st1 h1 r hr) : Go E M pc ls st h r hr := by
  unfold s1 at e
  split at e
  all_goals (try (cases e; done))
  · cases e; exact q_iconst hd k
  · cases e; exact q_bipush hd k
  · cases e; exact q_sipush hd k
  · cases e; exact q_lconst hd k
  · split at e
    · cases e; exact q_ldc hM (by assumption) hd k
    · cases e
  · split at e
    · cases e; exact q_ldcw hM (by assumption) hd k
    · cases e
  · split at e
    · cases e; exact q_iload_n (by assumption) hd k
    · cases e
  · split at e
    · cases e; exact q_iload (by assumption) hd k
    · cases e
  · split at e
    · cases e; exact q_aload_n (by assumption) hd k
    · cases e
  · split at e
    · cases e; exact q_aload (by assumption) hd k
    · cases e
  · split at e
    · cases e; exact q_lload_n (by assumption) hd k
    · cases e
  · split at e
    · cases e; exact q_lload (by assumption) hd k
    · cases e
  · split at e
    · obtain ⟨a1, a2, rfl, rfl, rfl⟩ := s1st_ok e; exact q_istore_n a1 a2 hd k
    · cases e
  · split at e
    · obtain ⟨a1, a2, rfl, rfl, rfl⟩ := s1st_ok e; exact q_istore a1 a2 hd k
    · cases e
  · split at e
    · obtain ⟨a1, a2, rfl, rfl, rfl⟩ := s1st_ok e; exact q_astore_n a1 a2 hd k
    · cases e
  · split at e
    · obtain ⟨a1, a2, rfl, rfl, rfl⟩ := s1st_ok e; exact q_astore a1 a2 hd k
    · cases e
  · split at e
    · obtain ⟨a1, a2, rfl, rfl, rfl⟩ := s1st2_ok e; exact q_lstore_n a1 a2 hd k
    · cases e
  · split at e
    · obtain ⟨a1, a2, rfl, rfl, rfl⟩ := s1st2_ok e; exact q_lstore a1 a2 hd k
    · cases e
  · split at e
    · obtain ⟨a1, a2, rfl, rfl, rfl⟩ := s1st_ok e; exact q_iinc (by assumption) a1 a2 hd k
    · cases e
  · split at e <;> cases e; exact q_iadd hd k
  · split at e <;> cases e; exact q_isub hd k
  · split at e <;> cases e; exact q_imul hd k
  · split at e <;> cases e; exact q_iand hd k
  · split at e <;> cases e; exact q_ior hd k
  · split at e <;> cases e; exact q_ixor hd k
  · split at e <;> cases e; exact q_ishl hd k
  · split at e <;> cases e; exact q_ishr hd k
  · split at e <;> cases e; exact q_iushr hd k
  · split at e <;> cases e; exact q_idiv hg.1 hd k
  · split at e <;> cases e; exact q_irem hg.1 hd k
  · split at e <;> cases e; exact q_ineg hd k
  · split at e <;> cases e; exact q_ladd hd k
  · split at e <;> cases e; exact q_lmul hd k
  · split at e <;> cases e; exact q_lcmp hd k
  · split at e <;> cases e; exact q_i2l hd k
  · split at e <;> cases e; exact q_i2b hd k
  · split at e <;> cases e <;> exact q_dup rfl hd k
  · split at e <;> cases e; exact q_dup2 rfl rfl hd k
  · split at e <;> cases e <;> exact q_pop rfl hd k
  · split at e
    · split at e
      · split at e
        · cases e; exact q_getI hM (by assumption) (Or.inl (by assumption)) hg.1 hd k
        · cases e; exact q_getI hM (by assumption) (Or.inr (by assumption)) hg.1 hd k
        · cases e; exact q_getL hM (by assumption) (by assumption) hg.1 hd k
        · cases e; exact q_getR hM (by assumption) (by assumption) hg.1 hd k
        · cases e
      · cases e
    · cases e
  · split at e
    · split at e
      · split at e
        · cases e; exact q_putI hM (by assumption) (by assumption) hg.1 hd k
        · cases e; exact q_putZ hM hg.1.2 (by assumption) (by assumption) hg.1.1 hd k
        · cases e
      · cases e
    · split at e
      · split at e
        · cases e; exact q_putL hM (by assumption) (by assumption) hg.1 hd k
        · cases e
      · cases e
    · cases e
  · split at e <;> cases e; exact q_iald hg.1.1 hg.1.2 hd k
  · split at e <;> cases e
    rcases hg.1.1 with q | q
    · exact q_bald q hg.1.2 hd k
    · exact q_zald q hg.1.2 hd k
  · split at e <;> cases e; exact q_lald hg.1.1 hg.1.2 hd k
  · split at e <;> cases e; exact q_aald hg.1.1 hg.1.2 hd k
  · split at e <;> cases e; exact q_alen hg.1 rfl hd k
  · split at e <;> cases e; exact q_iast hg.1.1 hg.1.2 hd k
  · split at e
    · split at e <;> cases e
      · exact q_bast (by assumption) hg.1 hd k
      · exact q_zast (by assumption) hg.1 hd k
    · cases e
  · split at e <;> cases e; exact q_last hg.1.1 hg.1.2 hd k
theorem gA_2 {g : Option Prop} {P : Prop} (h : gA g P) : P := by
  cases g with
  | none => exact h
  | some q => exact h.2
theorem sl_ok (hM : MOK M) : ∀ (is : List Instr) {pc : Nat} {ls : List (Option Value)} {st : List Value} {h : pH} {pc1 : Nat} {ls1 : List (Option Value)} {st1 : List Value} {h1 : pH} {P : Prop}, codeB (mB M) pc is = true → slr M is pc ls st h = some ((pc1, ls1, st1, h1), P) → P → Go E M pc1 ls1 st1 h1 r hr → Go E M pc ls st h r hr := by
  intro is
  induction is with
  | nil =>
    intro pc ls st h pc1 ls1 st1 h1 P hc e hP k
    cases e
    exact k
  | cons i t ih =>
    intro pc ls st h pc1 ls1 st1 h1 P hc e hP k
    unfold codeB at hc
    rw [Bool.and_eq_true] at hc
    unfold slr at e
    split at e
    · cases e
    · next ls2 st2 h2 g he =>
      split at e
      · cases e
      · next S P' hs =>
        cases e
        exact s1_ok hM he (of_decide_eq_true hc.1) hP (ih hc.2 hs (gA_2 hP) k)
end GO
end
section
/-! loops and the plumbing of the printed functions -/
def lp {σ ρ : Type} (f : σ → Option (σ ⊕ ρ)) : Nat → σ → Option ρ
  | 0, _ => none
  | n + 1, s => match f s with
    | none => none
    | some (.inl s') => lp f n s'
    | some (.inr r) => some r
def lpN : Nat := 20000
theorem lp_ind {σ ρ : Type} {f : σ → Option (σ ⊕ ρ)} {P : σ → Prop} {K : ρ → Prop} (hb : ∀ s b, f s = some b → Sum.elim P K b → P s) : ∀ (n : Nat) (s : σ) (r : ρ), lp f n s = some r → K r → P s
  | 0, _, _, e, _ => by cases e
  | n + 1, s, r, e, k => by
    unfold lp at e
    split at e
    · cases e
    · next s' hs => exact hb s _ hs (lp_ind hb n s' r e k)
    · next r' hs =>
      cases e
      exact hb s _ hs k
theorem lp_in {σ ρ : Type} {f : σ → Option (σ ⊕ ρ)} {n : Nat} {s : σ} {r : ρ} (e : lp f n s = some r) (P : σ → Prop) (K : ρ → Prop) (hb : ∀ s b, f s = some b → Sum.elim P K b → P s) (k : K r) : P s := lp_ind hb n s r e k
theorem it_t {α : Type} {c : Prop} [Decidable c] {a b x : α} (hc : c) (e : (if c then a else b) = x) : a = x := by rw [if_pos hc] at e; exact e
theorem it_f {α : Type} {c : Prop} [Decidable c] {a b x : α} (hc : ¬ c) (e : (if c then a else b) = x) : b = x := by rw [if_neg hc] at e; exact e
/-- a guard that held: the 'none' branch can't have answered -/
theorem it_g {α : Type} {c : Prop} [Decidable c] {a : Option α} {x : α} (e : (if c then none else a) = some x) : ¬ c ∧ a = some x := by
  by_cases hc : c
  · rw [if_pos hc] at e; cases e
  · rw [if_neg hc] at e; exact ⟨hc, e⟩
theorem bi_s {α β : Type} {o : Option α} {f : α → Option β} {x : β} (e : o.bind f = some x) : ∃ v, o = some v ∧ f v = some x := Option.bind_eq_some_iff.mp e
def mi {σ ρ : Type} (o : Option ρ) : Option (σ ⊕ ρ) := o.map Sum.inr
theorem mi_s {σ ρ : Type} {o : Option ρ} {b : σ ⊕ ρ} (e : mi o = some b) : ∃ v, o = some v ∧ b = .inr v := by
  unfold mi at e
  cases o with
  | none => cases e
  | some v => cases e; exact ⟨v, rfl, rfl⟩
def lsb : List (Option Value) → List (Option Value) → Prop
  | [], _ => True
  | none :: t, _ :: u => lsb t u
  | none :: t, [] => lsb t []
  | some v :: t, some w :: u => v = w ∧ lsb t u
  | some _ :: _, _ => False
theorem lsb_ok : ∀ {a b : List (Option Value)}, lsb a b → ∀ (i : Nat) (v : Value), a[i]? = some (some v) → b[i]? = some (some v)
  | [], _, _, i, v, h => by simp at h
  | none :: t, _ :: u, hs, i, v, h => by
    cases i with
    | zero => simp at h
    | succ i => simpa using lsb_ok (a := t) (b := u) hs i v (by simpa using h)
  | none :: t, [], hs, i, v, h => by
    cases i with
    | zero => simp at h
    | succ i => simpa using lsb_ok (a := t) (b := []) hs i v (by simpa using h)
  | some x :: t, some w :: u, hs, i, v, h => by
    cases i with
    | zero => simp at h ⊢; rw [← hs.1]; exact h
    | succ i => simpa using lsb_ok (a := t) (b := u) hs.2 i v (by simpa using h)
  | some _ :: _, [], hs, i, v, h => hs.elim
  | some _ :: _, none :: _, hs, i, v, h => hs.elim
theorem Go.sb {E : pE} {M : MI} {pc : Nat} {ls : List (Option Value)} {st : List Value} {h hr : pH} {r : Option Value} (ls' : List (Option Value)) (hs : lsb ls' ls) (k : Go E M pc ls' st h r hr) : Go E M pc ls st h r hr := Go.sub ls' (lsb_ok hs) k
/-- a loop whose states are known: s 0, s 1, .., s K, and then it ends -/
theorem lp_run {σ ρ : Type} {f : σ → Option (σ ⊕ ρ)} (s : Nat → σ) (K : Nat) {r : ρ} (hs : ∀ k, k < K → f (s k) = some (.inl (s (k + 1)))) (hx : f (s K) = some (.inr r)) : ∀ {n : Nat}, K < n → lp f n (s 0) = some r := by
  have key : ∀ (d n k : Nat), k + d = K → d < n → lp f n (s k) = some r := by
    intro d
    induction d with
    | zero =>
      intro n k hk hn
      have : k = K := by omega
      subst this
      cases n with
      | zero => omega
      | succ n => unfold lp; rw [hx]
    | succ d ih =>
      intro n k hk hn
      cases n with
      | zero => omega
      | succ n =>
        unfold lp
        rw [hs k (by omega)]
        exact ih n (k + 1) (by omega) (by omega)
  intro n hn
  exact key K n 0 (by omega) hn
end
section
theorem fo_all {T : List (Nat × Nat × Nat)} {own : String} (h : ∀ q ∈ T, ∃ c : vw_C, classes[q.2.1]? = some c ∧ q.2.2 < c.2.2 ∧ Cond.fieldLink own q.1 (c.2.1 q.2.2).1 (c.2.1 q.2.2).2.1 (c.2.1 q.2.2).2.2.1 ∈ LT) : ∀ i c k, (T.find? (fun q => q.1 == i)).map (·.2) = some (c, k) → ∃ q : vw_C, classes[c]? = some q ∧ k < q.2.2 ∧ Cond.fieldLink own i (q.2.1 k).1 (q.2.1 k).2.1 (q.2.1 k).2.2.1 ∈ LT := by
  intro i c k e
  obtain ⟨q, hq, hqe⟩ := Option.map_eq_some_iff.mp e
  have h1 := List.mem_of_find?_eq_some hq
  have h2 := List.find?_some hq
  have h3 : q.1 = i := by simpa using h2
  obtain ⟨a, b, d⟩ := q
  cases hqe
  subst h3
  exact h _ h1
/-- a number that is none of the cases' lies outside them -/
def swn : List Int → Int32 → Prop
  | [], _ => True
  | v :: t, x => ¬ x = Int32.ofInt v ∧ swn t x
theorem swn_at : ∀ {l : List Int} {x : Int32}, swn l x → ∀ v ∈ l, x ≠ Int32.ofInt v
  | [], _, _, v, hv => by cases hv
  | a :: t, x, h, v, hv => by
    rcases List.mem_cons.mp hv with rfl | hv
    · exact h.1
    · exact swn_at h.2 v hv
theorem sw_out {lo hi : Int} {x : Int32} (l : List Int) (hl : (∀ j : Nat, j < l.length → l[j]? = some (lo + j)) ∧ hi = lo + l.length - 1 ∧ -2147483648 ≤ lo ∧ hi ≤ 2147483647) (h : swn l x) : x.toInt < lo ∨ hi < x.toInt := by
  rcases Int.lt_or_le x.toInt lo with q | q
  · exact Or.inl q
  rcases Int.lt_or_le hi x.toInt with q2 | q2
  · exact Or.inr q2
  exfalso
  have hj : (x.toInt - lo).toNat < l.length := by omega
  have e := hl.1 _ hj
  have e2 : lo + ((x.toInt - lo).toNat : Int) = x.toInt := by omega
  rw [e2] at e
  exact swn_at h x.toInt (List.mem_of_getElem? e) (by simp)
theorem wm_i : Cond.initialized "java/lang/Math" ∈ LT := mG (List.mem_append_right _ (List.mem_append_left _ (List.mem_of_getElem? (l := tables_1_1) (i := 13) rfl))) rfl
theorem wm_max_s : Cond.static Lib.Math.max.name ∈ LT := mG (List.mem_append_right _ (List.mem_append_right _ (List.mem_append_left _ (List.mem_of_getElem? (l := tables_1_2) (i := 81) rfl)))) rfl
theorem wm_max_c : Cond.code Lib.Math.max.name Lib.Math.max.code 2 (some .int) ∈ LT := mG (List.mem_append_right _ (List.mem_append_right _ (List.mem_append_left _ (List.mem_of_getElem? (l := tables_1_2) (i := 82) rfl)))) rfl
theorem wm_min_s : Cond.static Lib.Math.min.name ∈ LT := mG (List.mem_append_right _ (List.mem_append_right _ (List.mem_append_right _ (List.mem_append_left _ (List.mem_of_getElem? (l := tables_1_3) (i := 84) rfl))))) rfl
theorem wm_min_c : Cond.code Lib.Math.min.name Lib.Math.min.code 2 (some .int) ∈ LT := mG (List.mem_append_right _ (List.mem_append_right _ (List.mem_append_right _ (List.mem_append_left _ (List.mem_of_getElem? (l := tables_1_3) (i := 85) rfl))))) rfl
theorem wm_abs_s : Cond.static Lib.Math.abs.name ∈ LT := mG (List.mem_append_right _ (List.mem_append_right _ (List.mem_append_right _ (List.mem_append_right _ (List.mem_append_left _ (List.mem_of_getElem? (l := tables_1_4) (i := 229) rfl)))))) rfl
theorem wm_abs_c : Cond.code Lib.Math.abs.name Lib.Math.abs.code 1 (some .int) ∈ LT := mG (List.mem_append_right _ (List.mem_append_right _ (List.mem_append_right _ (List.mem_append_right _ (List.mem_append_left _ (List.mem_of_getElem? (l := tables_1_4) (i := 230) rfl)))))) rfl
def jmax (x y : Int32) : Int32 := if x < y then y else x
def jmin (x y : Int32) : Int32 := if y < x then y else x
def jabs (x : Int32) : Int32 := if 0 ≤ x then x else 0 - x
theorem q_mmax {E : pE} {M : MI} {pc : Nat} {ls : List (Option Value)} {st : List Value} {h hr : pH} {r : Option Value} {x y : Int32} {i : Nat} (hlk : Cond.methodLink (mO M) i ⟨"java/lang/Math", "max", "(II)I"⟩ ∈ LT) (hf : 1 ≤ (mRm M).frames) (hl : (st.map fun v => v.category).sum + 13 ≤ (mRm M).locals) (hd : decode (mB M) pc = .ok (.invokestatic i, 3)) (k : Go E M (pc + 3) ls (.int (jmax x y) :: st) h r hr) : Go E M pc ls (.int y :: .int x :: st) h r hr := by
  intro p e s m args below meth c H locs L C hS hP hL
  have hts := C.2.2.2.2.2.1
  exact va_mmax C.1 C.2.1 (C.2.2.2.1.trans hL.1.symm) C.2.2.2.2.1 (hts _ (List.mem_cons_of_mem _ hlk)) (hts _ (List.mem_cons_of_mem _ wm_max_s)) (hts _ (List.mem_cons_of_mem _ wm_i)) (hts _ (List.mem_cons_of_mem _ wm_max_c)) hf (by rw [cat_map]; exact hl) (Nat.zero_le _) (Nat.zero_le _) hd (k p e s m args below meth c H locs L C hS hP hL)
theorem q_mmin {E : pE} {M : MI} {pc : Nat} {ls : List (Option Value)} {st : List Value} {h hr : pH} {r : Option Value} {x y : Int32} {i : Nat} (hlk : Cond.methodLink (mO M) i ⟨"java/lang/Math", "min", "(II)I"⟩ ∈ LT) (hf : 1 ≤ (mRm M).frames) (hl : (st.map fun v => v.category).sum + 13 ≤ (mRm M).locals) (hd : decode (mB M) pc = .ok (.invokestatic i, 3)) (k : Go E M (pc + 3) ls (.int (jmin x y) :: st) h r hr) : Go E M pc ls (.int y :: .int x :: st) h r hr := by
  intro p e s m args below meth c H locs L C hS hP hL
  have hts := C.2.2.2.2.2.1
  exact va_mmin C.1 C.2.1 (C.2.2.2.1.trans hL.1.symm) C.2.2.2.2.1 (hts _ (List.mem_cons_of_mem _ hlk)) (hts _ (List.mem_cons_of_mem _ wm_min_s)) (hts _ (List.mem_cons_of_mem _ wm_i)) (hts _ (List.mem_cons_of_mem _ wm_min_c)) hf (by rw [cat_map]; exact hl) (Nat.zero_le _) (Nat.zero_le _) hd (k p e s m args below meth c H locs L C hS hP hL)
theorem q_mabs {E : pE} {M : MI} {pc : Nat} {ls : List (Option Value)} {st : List Value} {h hr : pH} {r : Option Value} {x : Int32} {i : Nat} (hlk : Cond.methodLink (mO M) i ⟨"java/lang/Math", "abs", "(I)I"⟩ ∈ LT) (hf : 1 ≤ (mRm M).frames) (hl : (st.map fun v => v.category).sum + 13 ≤ (mRm M).locals) (hd : decode (mB M) pc = .ok (.invokestatic i, 3)) (k : Go E M (pc + 3) ls (.int (jabs x) :: st) h r hr) : Go E M pc ls (.int x :: st) h r hr := by
  intro p e s m args below meth c H locs L C hS hP hL
  have hts := C.2.2.2.2.2.1
  exact va_mabs C.1 C.2.1 (C.2.2.2.1.trans hL.1.symm) C.2.2.2.2.1 (hts _ (List.mem_cons_of_mem _ hlk)) (hts _ (List.mem_cons_of_mem _ wm_abs_s)) (hts _ (List.mem_cons_of_mem _ wm_i)) (hts _ (List.mem_cons_of_mem _ wm_abs_c)) hf (by rw [cat_map]; exact hl) (Nat.zero_le _) (Nat.zero_le _) hd (k p e s m args below meth c H locs L C hS hP hL)
theorem wd_0 : (Cond.methodLink "CloudDepth" (97 : Nat) ({ cls := "CloudDepth$Tape", name := "push", desc := "(I)V" } : MethodName)) ∈ LT := mG (List.mem_append_right _ (List.mem_append_right _ (List.mem_append_left _ (List.mem_of_getElem? (l := tables_1_2) (i := 140) rfl)))) rfl
theorem wd_1 : (Cond.instanceMethod ({ cls := "CloudDepth$Tape", name := "push", desc := "(I)V" } : MethodName)) ∈ LT := mG (List.mem_append_right _ (List.mem_append_right _ (List.mem_append_left _ (List.mem_of_getElem? (l := tables_1_2) (i := 141) rfl)))) rfl
theorem wd_2 : (Cond.selects "CloudDepth$Tape" ({ cls := "CloudDepth$Tape", name := "push", desc := "(I)V" } : MethodName) ({ cls := "CloudDepth$Tape", name := "push", desc := "(I)V" } : MethodName)) ∈ LT := mG (List.mem_append_right _ (List.mem_append_right _ (List.mem_append_left _ (List.mem_of_getElem? (l := tables_1_2) (i := 142) rfl)))) rfl
theorem wd_3 : (Cond.initialized "CloudDepth$Tape") ∈ LT := mG (List.mem_append_right _ (List.mem_append_left _ (List.mem_of_getElem? (l := tables_1_1) (i := 2) rfl))) rfl
theorem wd_4 : (Cond.methodLink "CloudDepthModel" (96 : Nat) ({ cls := "CloudDepthModel", name := "lays", desc := "(I)V" } : MethodName)) ∈ LT := mG (List.mem_append_right _ (List.mem_append_right _ (List.mem_append_right _ (List.mem_append_right _ (List.mem_append_right _ (List.mem_append_left _ (List.mem_of_getElem? (l := tables_1_5) (i := 235) rfl))))))) rfl
theorem wd_5 : (Cond.instanceMethod ({ cls := "CloudDepthModel", name := "lays", desc := "(I)V" } : MethodName)) ∈ LT := mG (List.mem_append_right _ (List.mem_append_right _ (List.mem_append_right _ (List.mem_append_right _ (List.mem_append_right _ (List.mem_append_left _ (List.mem_of_getElem? (l := tables_1_5) (i := 237) rfl))))))) rfl
theorem wd_6 : (Cond.selects "CloudDepthModel" ⟨"CloudDepthModel", "lays", "(I)V"⟩ ⟨"CloudDepthModel", "lays", "(I)V"⟩) ∈ LT := mG (List.mem_append_left _ (List.mem_of_getElem? (i := 27) rfl)) rfl
theorem wd_7 : (Cond.initialized "CloudDepthModel") ∈ LT := mG (List.mem_append_right _ (List.mem_append_left _ (List.mem_of_getElem? (l := tables_1_1) (i := 14) rfl))) rfl
theorem wd_8 : (Cond.methodLink "CloudDepth$TextReader" (68 : Nat) ({ cls := "CloudDepth$Tape", name := "rewind", desc := "()V" } : MethodName)) ∈ LT := mG (List.mem_append_right _ (List.mem_append_right _ (List.mem_append_left _ (List.mem_of_getElem? (l := tables_1_2) (i := 160) rfl)))) rfl
theorem wd_9 : (Cond.instanceMethod ({ cls := "CloudDepth$Tape", name := "rewind", desc := "()V" } : MethodName)) ∈ LT := mG (List.mem_append_right _ (List.mem_append_right _ (List.mem_append_left _ (List.mem_of_getElem? (l := tables_1_2) (i := 161) rfl)))) rfl
theorem wd_10 : (Cond.selects "CloudDepth$Tape" ({ cls := "CloudDepth$Tape", name := "rewind", desc := "()V" } : MethodName) ({ cls := "CloudDepth$Tape", name := "rewind", desc := "()V" } : MethodName)) ∈ LT := mG (List.mem_append_right _ (List.mem_append_right _ (List.mem_append_left _ (List.mem_of_getElem? (l := tables_1_2) (i := 162) rfl)))) rfl
theorem wd_11 : (Cond.methodLink "CloudDepth$TextReader" (71 : Nat) ({ cls := "CloudDepth$Cloud", name := "clear", desc := "()V" } : MethodName)) ∈ LT := mG (List.mem_append_right _ (List.mem_append_right _ (List.mem_append_left _ (List.mem_of_getElem? (l := tables_1_2) (i := 164) rfl)))) rfl
theorem wd_12 : (Cond.instanceMethod ({ cls := "CloudDepth$Cloud", name := "clear", desc := "()V" } : MethodName)) ∈ LT := mG (List.mem_append_right _ (List.mem_append_right _ (List.mem_append_left _ (List.mem_of_getElem? (l := tables_1_2) (i := 165) rfl)))) rfl
theorem wd_13 : (Cond.selects "CloudDepth$Cloud" ({ cls := "CloudDepth$Cloud", name := "clear", desc := "()V" } : MethodName) ({ cls := "CloudDepth$Cloud", name := "clear", desc := "()V" } : MethodName)) ∈ LT := mG (List.mem_append_right _ (List.mem_append_right _ (List.mem_append_left _ (List.mem_of_getElem? (l := tables_1_2) (i := 166) rfl)))) rfl
theorem wd_14 : (Cond.initialized "CloudDepth$Cloud") ∈ LT := mG (List.mem_append_right _ (List.mem_append_left _ (List.mem_of_getElem? (l := tables_1_1) (i := 4) rfl))) rfl
theorem wd_15 : (Cond.methodLink "CloudDepth$Tape" (56 : Nat) ({ cls := "CloudDepth$Tape", name := "spells", desc := "(Ljava/lang/String;)Z" } : MethodName)) ∈ LT := mG (List.mem_append_right _ (List.mem_append_right _ (List.mem_append_left _ (List.mem_of_getElem? (l := tables_1_2) (i := 188) rfl)))) rfl
theorem wd_16 : (Cond.instanceMethod ({ cls := "CloudDepth$Tape", name := "spells", desc := "(Ljava/lang/String;)Z" } : MethodName)) ∈ LT := mG (List.mem_append_right _ (List.mem_append_right _ (List.mem_append_left _ (List.mem_of_getElem? (l := tables_1_2) (i := 190) rfl)))) rfl
theorem wd_17 : (Cond.selects "CloudDepth$Tape" ⟨"CloudDepth$Tape", "spells", "(Ljava/lang/String;)Z"⟩ ⟨"CloudDepth$Tape", "spells", "(Ljava/lang/String;)Z"⟩) ∈ LT := mG (List.mem_append_left _ (List.mem_of_getElem? (i := 3) rfl)) rfl
theorem wd_18 : (Cond.methodLink "CloudDepth$Tape" (25 : Nat) ({ cls := "CloudDepth$Tape", name := "byteAt", desc := "(I)I" } : MethodName)) ∈ LT := mG (List.mem_append_right _ (List.mem_append_right _ (List.mem_append_left _ (List.mem_of_getElem? (l := tables_1_2) (i := 172) rfl)))) rfl
theorem wd_19 : (Cond.instanceMethod ({ cls := "CloudDepth$Tape", name := "byteAt", desc := "(I)I" } : MethodName)) ∈ LT := mG (List.mem_append_right _ (List.mem_append_right _ (List.mem_append_left _ (List.mem_of_getElem? (l := tables_1_2) (i := 174) rfl)))) rfl
theorem wd_20 : (Cond.selects "CloudDepth$Tape" ⟨"CloudDepth$Tape", "byteAt", "(I)I"⟩ ⟨"CloudDepth$Tape", "byteAt", "(I)I"⟩) ∈ LT := mG (List.mem_append_left _ (List.mem_of_getElem? (i := 1) rfl)) rfl
theorem wd_21 : (Cond.methodLink "CloudDepth$Tape" (33 : Nat) ({ cls := "CloudDepth$Tape", name := "isLetter", desc := "(I)Z" } : MethodName)) ∈ LT := mG (List.mem_append_right _ (List.mem_append_right _ (List.mem_append_left _ (List.mem_of_getElem? (l := tables_1_2) (i := 179) rfl)))) rfl
theorem wd_22 : (Cond.static ({ cls := "CloudDepth$Tape", name := "isLetter", desc := "(I)Z" } : MethodName)) ∈ LT := mG (List.mem_append_right _ (List.mem_append_right _ (List.mem_append_left _ (List.mem_of_getElem? (l := tables_1_2) (i := 180) rfl)))) rfl
theorem wd_23 : (Cond.constantLong "CloudDepth$Tape" (52 : Nat) (27 : Int64)) ∈ LT := mG (List.mem_append_right _ (List.mem_append_right _ (List.mem_append_left _ (List.mem_of_getElem? (l := tables_1_2) (i := 186) rfl)))) rfl
theorem wd_24 : (Cond.methodLink "CloudDepth$Tape" (39 : Nat) ({ cls := "CloudDepth$Tape", name := "isDigit", desc := "(I)Z" } : MethodName)) ∈ LT := mG (List.mem_append_right _ (List.mem_append_right _ (List.mem_append_right _ (List.mem_append_left _ (List.mem_of_getElem? (l := tables_1_3) (i := 1) rfl))))) rfl
theorem wd_25 : (Cond.static ({ cls := "CloudDepth$Tape", name := "isDigit", desc := "(I)Z" } : MethodName)) ∈ LT := mG (List.mem_append_right _ (List.mem_append_right _ (List.mem_append_right _ (List.mem_append_left _ (List.mem_of_getElem? (l := tables_1_3) (i := 2) rfl))))) rfl
theorem wd_26 : (Cond.methodLink "CloudDepth$Tape" (42 : Nat) ({ cls := "CloudDepth$Tape", name := "scanDigits", desc := "()V" } : MethodName)) ∈ LT := mG (List.mem_append_right _ (List.mem_append_right _ (List.mem_append_right _ (List.mem_append_left _ (List.mem_of_getElem? (l := tables_1_3) (i := 4) rfl))))) rfl
theorem wd_27 : (Cond.instanceMethod ({ cls := "CloudDepth$Tape", name := "scanDigits", desc := "()V" } : MethodName)) ∈ LT := mG (List.mem_append_right _ (List.mem_append_right _ (List.mem_append_right _ (List.mem_append_left _ (List.mem_of_getElem? (l := tables_1_3) (i := 6) rfl))))) rfl
theorem wd_28 : (Cond.selects "CloudDepth$Tape" ⟨"CloudDepth$Tape", "scanDigits", "()V"⟩ ⟨"CloudDepth$Tape", "scanDigits", "()V"⟩) ∈ LT := mG (List.mem_append_left _ (List.mem_of_getElem? (i := 4) rfl)) rfl
theorem wd_29 : (Cond.methodLink "CloudDepth$Tape" (36 : Nat) ({ cls := "CloudDepth$Tape", name := "scanLetters", desc := "()V" } : MethodName)) ∈ LT := mG (List.mem_append_right _ (List.mem_append_right _ (List.mem_append_left _ (List.mem_of_getElem? (l := tables_1_2) (i := 182) rfl)))) rfl
theorem wd_30 : (Cond.instanceMethod ({ cls := "CloudDepth$Tape", name := "scanLetters", desc := "()V" } : MethodName)) ∈ LT := mG (List.mem_append_right _ (List.mem_append_right _ (List.mem_append_left _ (List.mem_of_getElem? (l := tables_1_2) (i := 184) rfl)))) rfl
theorem wd_31 : (Cond.selects "CloudDepth$Tape" ⟨"CloudDepth$Tape", "scanLetters", "()V"⟩ ⟨"CloudDepth$Tape", "scanLetters", "()V"⟩) ∈ LT := mG (List.mem_append_left _ (List.mem_of_getElem? (i := 2) rfl)) rfl
theorem wd_32 : (Cond.methodLink "CloudDepth$Tape" (29 : Nat) ({ cls := "CloudDepth$Tape", name := "isBlank", desc := "(I)Z" } : MethodName)) ∈ LT := mG (List.mem_append_right _ (List.mem_append_right _ (List.mem_append_left _ (List.mem_of_getElem? (l := tables_1_2) (i := 176) rfl)))) rfl
theorem wd_33 : (Cond.static ({ cls := "CloudDepth$Tape", name := "isBlank", desc := "(I)Z" } : MethodName)) ∈ LT := mG (List.mem_append_right _ (List.mem_append_right _ (List.mem_append_left _ (List.mem_of_getElem? (l := tables_1_2) (i := 177) rfl)))) rfl
theorem wd_34 : (Cond.methodLink "CloudDepth$TextReader" (59 : Nat) ({ cls := "CloudDepth$TextReader", name := "following", desc := "(II)I" } : MethodName)) ∈ LT := mG (List.mem_append_right _ (List.mem_append_right _ (List.mem_append_right _ (List.mem_append_left _ (List.mem_of_getElem? (l := tables_1_3) (i := 12) rfl))))) rfl
theorem wd_35 : (Cond.static ({ cls := "CloudDepth$TextReader", name := "following", desc := "(II)I" } : MethodName)) ∈ LT := mG (List.mem_append_right _ (List.mem_append_right _ (List.mem_append_right _ (List.mem_append_left _ (List.mem_of_getElem? (l := tables_1_3) (i := 13) rfl))))) rfl
theorem wd_36 : (Cond.initialized "CloudDepth$TextReader") ∈ LT := mG (List.mem_append_right _ (List.mem_append_left _ (List.mem_of_getElem? (l := tables_1_1) (i := 3) rfl))) rfl
theorem wd_37 : (Cond.methodLink "CloudDepth$TextReader" (46 : Nat) ({ cls := "CloudDepth$TextReader", name := "endWith", desc := "(II)I" } : MethodName)) ∈ LT := mG (List.mem_append_right _ (List.mem_append_right _ (List.mem_append_right _ (List.mem_append_left _ (List.mem_of_getElem? (l := tables_1_3) (i := 15) rfl))))) rfl
theorem wd_38 : (Cond.instanceMethod ({ cls := "CloudDepth$TextReader", name := "endWith", desc := "(II)I" } : MethodName)) ∈ LT := mG (List.mem_append_right _ (List.mem_append_right _ (List.mem_append_right _ (List.mem_append_left _ (List.mem_of_getElem? (l := tables_1_3) (i := 17) rfl))))) rfl
theorem wd_39 : (Cond.selects "CloudDepth$TextReader" ⟨"CloudDepth$TextReader", "endWith", "(II)I"⟩ ⟨"CloudDepth$TextReader", "endWith", "(II)I"⟩) ∈ LT := mG (List.mem_append_left _ (List.mem_of_getElem? (i := 6) rfl)) rfl
theorem wd_40 : (Cond.static ({ cls := "CloudDepth", name := "isWithinReach", desc := "(I)Z" } : MethodName)) ∈ LT := mG (List.mem_append_right _ (List.mem_append_right _ (List.mem_append_right _ (List.mem_append_left _ (List.mem_of_getElem? (l := tables_1_3) (i := 36) rfl))))) rfl
theorem wd_41 : (Cond.initialized "CloudDepth") ∈ LT := mG (List.mem_append_right _ (List.mem_append_left _ (List.mem_of_getElem? (l := tables_1_1) (i := 1) rfl))) rfl
theorem wd_42 : (Cond.methodLink "CloudDepth$Cloud" (33 : Nat) ({ cls := "CloudDepth$Cloud", name := "isTaken", desc := "(II)Z" } : MethodName)) ∈ LT := mG (List.mem_append_right _ (List.mem_append_right _ (List.mem_append_right _ (List.mem_append_left _ (List.mem_of_getElem? (l := tables_1_3) (i := 43) rfl))))) rfl
theorem wd_43 : (Cond.instanceMethod ({ cls := "CloudDepth$Cloud", name := "isTaken", desc := "(II)Z" } : MethodName)) ∈ LT := mG (List.mem_append_right _ (List.mem_append_right _ (List.mem_append_right _ (List.mem_append_left _ (List.mem_of_getElem? (l := tables_1_3) (i := 44) rfl))))) rfl
theorem wd_44 : (Cond.selects "CloudDepth$Cloud" ({ cls := "CloudDepth$Cloud", name := "isTaken", desc := "(II)Z" } : MethodName) ({ cls := "CloudDepth$Cloud", name := "isTaken", desc := "(II)Z" } : MethodName)) ∈ LT := mG (List.mem_append_right _ (List.mem_append_right _ (List.mem_append_right _ (List.mem_append_left _ (List.mem_of_getElem? (l := tables_1_3) (i := 45) rfl))))) rfl
theorem wd_45 : (Cond.methodLink "CloudDepth$TextReader" (111 : Nat) ({ cls := "CloudDepth$Cloud", name := "isFree", desc := "(II)Z" } : MethodName)) ∈ LT := mG (List.mem_append_right _ (List.mem_append_right _ (List.mem_append_right _ (List.mem_append_left _ (List.mem_of_getElem? (l := tables_1_3) (i := 38) rfl))))) rfl
theorem wd_46 : (Cond.instanceMethod ({ cls := "CloudDepth$Cloud", name := "isFree", desc := "(II)Z" } : MethodName)) ∈ LT := mG (List.mem_append_right _ (List.mem_append_right _ (List.mem_append_right _ (List.mem_append_left _ (List.mem_of_getElem? (l := tables_1_3) (i := 39) rfl))))) rfl
theorem wd_47 : (Cond.selects "CloudDepth$Cloud" ({ cls := "CloudDepth$Cloud", name := "isFree", desc := "(II)Z" } : MethodName) ({ cls := "CloudDepth$Cloud", name := "isFree", desc := "(II)Z" } : MethodName)) ∈ LT := mG (List.mem_append_right _ (List.mem_append_right _ (List.mem_append_right _ (List.mem_append_left _ (List.mem_of_getElem? (l := tables_1_3) (i := 40) rfl))))) rfl
theorem wd_48 : (Cond.methodLink "CloudDepth$TextReader" (115 : Nat) ({ cls := "CloudDepth$Cloud", name := "append", desc := "(II)V" } : MethodName)) ∈ LT := mG (List.mem_append_right _ (List.mem_append_right _ (List.mem_append_right _ (List.mem_append_left _ (List.mem_of_getElem? (l := tables_1_3) (i := 47) rfl))))) rfl
theorem wd_49 : (Cond.instanceMethod ({ cls := "CloudDepth$Cloud", name := "append", desc := "(II)V" } : MethodName)) ∈ LT := mG (List.mem_append_right _ (List.mem_append_right _ (List.mem_append_right _ (List.mem_append_left _ (List.mem_of_getElem? (l := tables_1_3) (i := 48) rfl))))) rfl
theorem wd_50 : (Cond.selects "CloudDepth$Cloud" ({ cls := "CloudDepth$Cloud", name := "append", desc := "(II)V" } : MethodName) ({ cls := "CloudDepth$Cloud", name := "append", desc := "(II)V" } : MethodName)) ∈ LT := mG (List.mem_append_right _ (List.mem_append_right _ (List.mem_append_right _ (List.mem_append_left _ (List.mem_of_getElem? (l := tables_1_3) (i := 49) rfl))))) rfl
theorem wd_51 : (Cond.methodLink "CloudDepth$TextReader" (101 : Nat) ({ cls := "CloudDepth$TextReader", name := "takeGrid", desc := "(I)V" } : MethodName)) ∈ LT := mG (List.mem_append_right _ (List.mem_append_right _ (List.mem_append_right _ (List.mem_append_left _ (List.mem_of_getElem? (l := tables_1_3) (i := 31) rfl))))) rfl
theorem wd_52 : (Cond.instanceMethod ({ cls := "CloudDepth$TextReader", name := "takeGrid", desc := "(I)V" } : MethodName)) ∈ LT := mG (List.mem_append_right _ (List.mem_append_right _ (List.mem_append_right _ (List.mem_append_left _ (List.mem_of_getElem? (l := tables_1_3) (i := 33) rfl))))) rfl
theorem wd_53 : (Cond.selects "CloudDepth$TextReader" ⟨"CloudDepth$TextReader", "takeGrid", "(I)V"⟩ ⟨"CloudDepth$TextReader", "takeGrid", "(I)V"⟩) ∈ LT := mG (List.mem_append_left _ (List.mem_of_getElem? (i := 10) rfl)) rfl
theorem wd_54 : (Cond.methodLink "CloudDepth$TextReader" (90 : Nat) ({ cls := "CloudDepth$TextReader", name := "takeNumber", desc := "(I)V" } : MethodName)) ∈ LT := mG (List.mem_append_right _ (List.mem_append_right _ (List.mem_append_right _ (List.mem_append_left _ (List.mem_of_getElem? (l := tables_1_3) (i := 27) rfl))))) rfl
theorem wd_55 : (Cond.instanceMethod ({ cls := "CloudDepth$TextReader", name := "takeNumber", desc := "(I)V" } : MethodName)) ∈ LT := mG (List.mem_append_right _ (List.mem_append_right _ (List.mem_append_right _ (List.mem_append_left _ (List.mem_of_getElem? (l := tables_1_3) (i := 29) rfl))))) rfl
theorem wd_56 : (Cond.selects "CloudDepth$TextReader" ⟨"CloudDepth$TextReader", "takeNumber", "(I)V"⟩ ⟨"CloudDepth$TextReader", "takeNumber", "(I)V"⟩) ∈ LT := mG (List.mem_append_left _ (List.mem_of_getElem? (i := 9) rfl)) rfl
theorem wd_57 : (Cond.methodLink "CloudDepth$TextReader" (84 : Nat) ({ cls := "CloudDepth$TextReader", name := "takeName", desc := "()V" } : MethodName)) ∈ LT := mG (List.mem_append_right _ (List.mem_append_right _ (List.mem_append_right _ (List.mem_append_left _ (List.mem_of_getElem? (l := tables_1_3) (i := 23) rfl))))) rfl
theorem wd_58 : (Cond.instanceMethod ({ cls := "CloudDepth$TextReader", name := "takeName", desc := "()V" } : MethodName)) ∈ LT := mG (List.mem_append_right _ (List.mem_append_right _ (List.mem_append_right _ (List.mem_append_left _ (List.mem_of_getElem? (l := tables_1_3) (i := 25) rfl))))) rfl
theorem wd_59 : (Cond.selects "CloudDepth$TextReader" ⟨"CloudDepth$TextReader", "takeName", "()V"⟩ ⟨"CloudDepth$TextReader", "takeName", "()V"⟩) ∈ LT := mG (List.mem_append_left _ (List.mem_of_getElem? (i := 8) rfl)) rfl
theorem wd_60 : (Cond.methodLink "CloudDepth$TextReader" (30 : Nat) ({ cls := "CloudDepth$TextReader", name := "reset", desc := "()V" } : MethodName)) ∈ LT := mG (List.mem_append_right _ (List.mem_append_right _ (List.mem_append_left _ (List.mem_of_getElem? (l := tables_1_2) (i := 156) rfl)))) rfl
theorem wd_61 : (Cond.instanceMethod ({ cls := "CloudDepth$TextReader", name := "reset", desc := "()V" } : MethodName)) ∈ LT := mG (List.mem_append_right _ (List.mem_append_right _ (List.mem_append_left _ (List.mem_of_getElem? (l := tables_1_2) (i := 158) rfl)))) rfl
theorem wd_62 : (Cond.selects "CloudDepth$TextReader" ⟨"CloudDepth$TextReader", "reset", "()V"⟩ ⟨"CloudDepth$TextReader", "reset", "()V"⟩) ∈ LT := mG (List.mem_append_left _ (List.mem_of_getElem? (i := 0) rfl)) rfl
theorem wd_63 : (Cond.methodLink "CloudDepth$TextReader" (33 : Nat) ({ cls := "CloudDepth$Tape", name := "advance", desc := "()Z" } : MethodName)) ∈ LT := mG (List.mem_append_right _ (List.mem_append_right _ (List.mem_append_left _ (List.mem_of_getElem? (l := tables_1_2) (i := 168) rfl)))) rfl
theorem wd_64 : (Cond.instanceMethod ({ cls := "CloudDepth$Tape", name := "advance", desc := "()Z" } : MethodName)) ∈ LT := mG (List.mem_append_right _ (List.mem_append_right _ (List.mem_append_left _ (List.mem_of_getElem? (l := tables_1_2) (i := 169) rfl)))) rfl
theorem wd_65 : (Cond.selects "CloudDepth$Tape" ({ cls := "CloudDepth$Tape", name := "advance", desc := "()Z" } : MethodName) ({ cls := "CloudDepth$Tape", name := "advance", desc := "()Z" } : MethodName)) ∈ LT := mG (List.mem_append_right _ (List.mem_append_right _ (List.mem_append_left _ (List.mem_of_getElem? (l := tables_1_2) (i := 170) rfl)))) rfl
theorem wd_66 : (Cond.methodLink "CloudDepth$TextReader" (39 : Nat) ({ cls := "CloudDepth$TextReader", name := "hardFault", desc := "()I" } : MethodName)) ∈ LT := mG (List.mem_append_right _ (List.mem_append_right _ (List.mem_append_right _ (List.mem_append_left _ (List.mem_of_getElem? (l := tables_1_3) (i := 8) rfl))))) rfl
theorem wd_67 : (Cond.instanceMethod ({ cls := "CloudDepth$TextReader", name := "hardFault", desc := "()I" } : MethodName)) ∈ LT := mG (List.mem_append_right _ (List.mem_append_right _ (List.mem_append_right _ (List.mem_append_left _ (List.mem_of_getElem? (l := tables_1_3) (i := 10) rfl))))) rfl
theorem wd_68 : (Cond.selects "CloudDepth$TextReader" ⟨"CloudDepth$TextReader", "hardFault", "()I"⟩ ⟨"CloudDepth$TextReader", "hardFault", "()I"⟩) ∈ LT := mG (List.mem_append_left _ (List.mem_of_getElem? (i := 5) rfl)) rfl
theorem wd_69 : (Cond.methodLink "CloudDepth$TextReader" (50 : Nat) ({ cls := "CloudDepth$TextReader", name := "take", desc := "()V" } : MethodName)) ∈ LT := mG (List.mem_append_right _ (List.mem_append_right _ (List.mem_append_right _ (List.mem_append_left _ (List.mem_of_getElem? (l := tables_1_3) (i := 19) rfl))))) rfl
theorem wd_70 : (Cond.instanceMethod ({ cls := "CloudDepth$TextReader", name := "take", desc := "()V" } : MethodName)) ∈ LT := mG (List.mem_append_right _ (List.mem_append_right _ (List.mem_append_right _ (List.mem_append_left _ (List.mem_of_getElem? (l := tables_1_3) (i := 21) rfl))))) rfl
theorem wd_71 : (Cond.selects "CloudDepth$TextReader" ⟨"CloudDepth$TextReader", "take", "()V"⟩ ⟨"CloudDepth$TextReader", "take", "()V"⟩) ∈ LT := mG (List.mem_append_left _ (List.mem_of_getElem? (i := 7) rfl)) rfl
theorem wd_72 : (Cond.methodLink "CloudDepth$Cloud" (47 : Nat) ({ cls := "CloudDepth$Cloud", name := "clear", desc := "()V" } : MethodName)) ∈ LT := mG (List.mem_append_right _ (List.mem_append_right _ (List.mem_append_right _ (List.mem_append_left _ (List.mem_of_getElem? (l := tables_1_3) (i := 55) rfl))))) rfl
theorem wd_73 : (Cond.methodLink "CloudDepth$Cloud" (50 : Nat) ({ cls := "CloudDepth$Cloud", name := "append", desc := "(II)V" } : MethodName)) ∈ LT := mG (List.mem_append_right _ (List.mem_append_right _ (List.mem_append_right _ (List.mem_append_left _ (List.mem_of_getElem? (l := tables_1_3) (i := 56) rfl))))) rfl
theorem wd_74 : (Cond.methodLink "CloudDepth" (100 : Nat) ({ cls := "CloudDepth$TextReader", name := "parse", desc := "()I" } : MethodName)) ∈ LT := mG (List.mem_append_right _ (List.mem_append_right _ (List.mem_append_left _ (List.mem_of_getElem? (l := tables_1_2) (i := 152) rfl)))) rfl
theorem wd_75 : (Cond.instanceMethod ({ cls := "CloudDepth$TextReader", name := "parse", desc := "()I" } : MethodName)) ∈ LT := mG (List.mem_append_right _ (List.mem_append_right _ (List.mem_append_left _ (List.mem_of_getElem? (l := tables_1_2) (i := 153) rfl)))) rfl
theorem wd_76 : (Cond.selects "CloudDepth$TextReader" ({ cls := "CloudDepth$TextReader", name := "parse", desc := "()I" } : MethodName) ({ cls := "CloudDepth$TextReader", name := "parse", desc := "()I" } : MethodName)) ∈ LT := mG (List.mem_append_right _ (List.mem_append_right _ (List.mem_append_left _ (List.mem_of_getElem? (l := tables_1_2) (i := 154) rfl)))) rfl
theorem wd_77 : (Cond.methodLink "CloudDepth" (107 : Nat) ({ cls := "CloudDepth$Cloud", name := "takeFrom", desc := "(LCloudDepth$Cloud;)V" } : MethodName)) ∈ LT := mG (List.mem_append_right _ (List.mem_append_right _ (List.mem_append_right _ (List.mem_append_left _ (List.mem_of_getElem? (l := tables_1_3) (i := 51) rfl))))) rfl
theorem wd_78 : (Cond.instanceMethod ({ cls := "CloudDepth$Cloud", name := "takeFrom", desc := "(LCloudDepth$Cloud;)V" } : MethodName)) ∈ LT := mG (List.mem_append_right _ (List.mem_append_right _ (List.mem_append_right _ (List.mem_append_left _ (List.mem_of_getElem? (l := tables_1_3) (i := 52) rfl))))) rfl
theorem wd_79 : (Cond.selects "CloudDepth$Cloud" ({ cls := "CloudDepth$Cloud", name := "takeFrom", desc := "(LCloudDepth$Cloud;)V" } : MethodName) ({ cls := "CloudDepth$Cloud", name := "takeFrom", desc := "(LCloudDepth$Cloud;)V" } : MethodName)) ∈ LT := mG (List.mem_append_right _ (List.mem_append_right _ (List.mem_append_right _ (List.mem_append_left _ (List.mem_of_getElem? (l := tables_1_3) (i := 53) rfl))))) rfl
theorem wd_80 : (Cond.methodLink "CloudDepth" (111 : Nat) ({ cls := "CloudDepth", name := "forgetPast", desc := "()V" } : MethodName)) ∈ LT := mG (List.mem_append_right _ (List.mem_append_right _ (List.mem_append_right _ (List.mem_append_left _ (List.mem_of_getElem? (l := tables_1_3) (i := 57) rfl))))) rfl
theorem wd_81 : (Cond.instanceMethod ({ cls := "CloudDepth", name := "forgetPast", desc := "()V" } : MethodName)) ∈ LT := mG (List.mem_append_right _ (List.mem_append_right _ (List.mem_append_right _ (List.mem_append_left _ (List.mem_of_getElem? (l := tables_1_3) (i := 59) rfl))))) rfl
theorem wd_82 : (Cond.selects "CloudDepth" ⟨"CloudDepth", "forgetPast", "()V"⟩ ⟨"CloudDepth", "forgetPast", "()V"⟩) ∈ LT := mG (List.mem_append_left _ (List.mem_of_getElem? (i := 11) rfl)) rfl
theorem wd_83 : (Cond.methodLink "CloudDepth" (114 : Nat) ({ cls := "CloudDepth", name := "emptySlots", desc := "()V" } : MethodName)) ∈ LT := mG (List.mem_append_right _ (List.mem_append_right _ (List.mem_append_right _ (List.mem_append_left _ (List.mem_of_getElem? (l := tables_1_3) (i := 61) rfl))))) rfl
theorem wd_84 : (Cond.instanceMethod ({ cls := "CloudDepth", name := "emptySlots", desc := "()V" } : MethodName)) ∈ LT := mG (List.mem_append_right _ (List.mem_append_right _ (List.mem_append_right _ (List.mem_append_left _ (List.mem_of_getElem? (l := tables_1_3) (i := 63) rfl))))) rfl
theorem wd_85 : (Cond.selects "CloudDepth" ⟨"CloudDepth", "emptySlots", "()V"⟩ ⟨"CloudDepth", "emptySlots", "()V"⟩) ∈ LT := mG (List.mem_append_left _ (List.mem_of_getElem? (i := 12) rfl)) rfl
theorem wd_86 : (Cond.constantLong "CloudDepthModel" (103 : Nat) (27 : Int64)) ∈ LT := mG (List.mem_append_right _ (List.mem_append_right _ (List.mem_append_right _ (List.mem_append_right _ (List.mem_append_right _ (List.mem_append_left _ (List.mem_of_getElem? (l := tables_1_5) (i := 110) rfl))))))) rfl
theorem wd_87 : (Cond.methodLink "CloudDepthModel" (116 : Nat) ({ cls := "CloudDepthModel", name := "token", desc := "(IIIJ)V" } : MethodName)) ∈ LT := mG (List.mem_append_right _ (List.mem_append_right _ (List.mem_append_right _ (List.mem_append_right _ (List.mem_append_right _ (List.mem_append_right _ (List.mem_append_left _ (List.mem_of_getElem? (l := tables_1_6) (i := 15) rfl)))))))) rfl
theorem wd_88 : (Cond.instanceMethod ({ cls := "CloudDepthModel", name := "token", desc := "(IIIJ)V" } : MethodName)) ∈ LT := mG (List.mem_append_right _ (List.mem_append_right _ (List.mem_append_right _ (List.mem_append_right _ (List.mem_append_right _ (List.mem_append_right _ (List.mem_append_left _ (List.mem_of_getElem? (l := tables_1_6) (i := 17) rfl)))))))) rfl
theorem wd_89 : (Cond.selects "CloudDepthModel" ⟨"CloudDepthModel", "token", "(IIIJ)V"⟩ ⟨"CloudDepthModel", "token", "(IIIJ)V"⟩) ∈ LT := mG (List.mem_append_left _ (List.mem_of_getElem? (i := 30) rfl)) rfl
theorem wd_90 : (Cond.methodLink "CloudDepthModel" (112 : Nat) ({ cls := "CloudDepthModel", name := "byteAt", desc := "(I)I" } : MethodName)) ∈ LT := mG (List.mem_append_right _ (List.mem_append_right _ (List.mem_append_right _ (List.mem_append_right _ (List.mem_append_right _ (List.mem_append_right _ (List.mem_append_left _ (List.mem_of_getElem? (l := tables_1_6) (i := 11) rfl)))))))) rfl
theorem wd_91 : (Cond.instanceMethod ({ cls := "CloudDepthModel", name := "byteAt", desc := "(I)I" } : MethodName)) ∈ LT := mG (List.mem_append_right _ (List.mem_append_right _ (List.mem_append_right _ (List.mem_append_right _ (List.mem_append_right _ (List.mem_append_right _ (List.mem_append_left _ (List.mem_of_getElem? (l := tables_1_6) (i := 13) rfl)))))))) rfl
theorem wd_92 : (Cond.selects "CloudDepthModel" ⟨"CloudDepthModel", "byteAt", "(I)I"⟩ ⟨"CloudDepthModel", "byteAt", "(I)I"⟩) ∈ LT := mG (List.mem_append_left _ (List.mem_of_getElem? (i := 29) rfl)) rfl
theorem wd_93 : (Cond.methodLink "CloudDepthModel" (120 : Nat) ({ cls := "CloudDepthModel", name := "isLetter", desc := "(I)Z" } : MethodName)) ∈ LT := mG (List.mem_append_right _ (List.mem_append_right _ (List.mem_append_right _ (List.mem_append_right _ (List.mem_append_right _ (List.mem_append_right _ (List.mem_append_left _ (List.mem_of_getElem? (l := tables_1_6) (i := 19) rfl)))))))) rfl
theorem wd_94 : (Cond.static ({ cls := "CloudDepthModel", name := "isLetter", desc := "(I)Z" } : MethodName)) ∈ LT := mG (List.mem_append_right _ (List.mem_append_right _ (List.mem_append_right _ (List.mem_append_right _ (List.mem_append_right _ (List.mem_append_right _ (List.mem_append_left _ (List.mem_of_getElem? (l := tables_1_6) (i := 20) rfl)))))))) rfl
theorem wd_95 : (Cond.methodLink "CloudDepthModel" (124 : Nat) ({ cls := "CloudDepthModel", name := "isDigit", desc := "(I)Z" } : MethodName)) ∈ LT := mG (List.mem_append_right _ (List.mem_append_right _ (List.mem_append_right _ (List.mem_append_right _ (List.mem_append_right _ (List.mem_append_right _ (List.mem_append_left _ (List.mem_of_getElem? (l := tables_1_6) (i := 22) rfl)))))))) rfl
theorem wd_96 : (Cond.static ({ cls := "CloudDepthModel", name := "isDigit", desc := "(I)Z" } : MethodName)) ∈ LT := mG (List.mem_append_right _ (List.mem_append_right _ (List.mem_append_right _ (List.mem_append_right _ (List.mem_append_right _ (List.mem_append_right _ (List.mem_append_left _ (List.mem_of_getElem? (l := tables_1_6) (i := 23) rfl)))))))) rfl
theorem wd_97 : (Cond.methodLink "CloudDepthModel" (127 : Nat) ({ cls := "CloudDepthModel", name := "sign", desc := "(II)I" } : MethodName)) ∈ LT := mG (List.mem_append_right _ (List.mem_append_right _ (List.mem_append_right _ (List.mem_append_right _ (List.mem_append_right _ (List.mem_append_right _ (List.mem_append_left _ (List.mem_of_getElem? (l := tables_1_6) (i := 25) rfl)))))))) rfl
theorem wd_98 : (Cond.instanceMethod ({ cls := "CloudDepthModel", name := "sign", desc := "(II)I" } : MethodName)) ∈ LT := mG (List.mem_append_right _ (List.mem_append_right _ (List.mem_append_right _ (List.mem_append_right _ (List.mem_append_right _ (List.mem_append_right _ (List.mem_append_left _ (List.mem_of_getElem? (l := tables_1_6) (i := 27) rfl)))))))) rfl
theorem wd_99 : (Cond.selects "CloudDepthModel" ⟨"CloudDepthModel", "sign", "(II)I"⟩ ⟨"CloudDepthModel", "sign", "(II)I"⟩) ∈ LT := mG (List.mem_append_left _ (List.mem_of_getElem? (i := 31) rfl)) rfl
theorem wd_100 : (Cond.methodLink "CloudDepthModel" (105 : Nat) ({ cls := "CloudDepthModel", name := "appends", desc := "(JI)J" } : MethodName)) ∈ LT := mG (List.mem_append_right _ (List.mem_append_right _ (List.mem_append_right _ (List.mem_append_right _ (List.mem_append_right _ (List.mem_append_left _ (List.mem_of_getElem? (l := tables_1_5) (i := 107) rfl))))))) rfl
theorem wd_101 : (Cond.static ({ cls := "CloudDepthModel", name := "appends", desc := "(JI)J" } : MethodName)) ∈ LT := mG (List.mem_append_right _ (List.mem_append_right _ (List.mem_append_right _ (List.mem_append_right _ (List.mem_append_right _ (List.mem_append_left _ (List.mem_of_getElem? (l := tables_1_5) (i := 108) rfl))))))) rfl
theorem wd_102 : (Cond.methodLink "CloudDepthModel" (146 : Nat) ({ cls := "CloudDepthModel", name := "fail", desc := "(I)V" } : MethodName)) ∈ LT := mG (List.mem_append_right _ (List.mem_append_right _ (List.mem_append_right _ (List.mem_append_right _ (List.mem_append_right _ (List.mem_append_right _ (List.mem_append_left _ (List.mem_of_getElem? (l := tables_1_6) (i := 37) rfl)))))))) rfl
theorem wd_103 : (Cond.instanceMethod ({ cls := "CloudDepthModel", name := "fail", desc := "(I)V" } : MethodName)) ∈ LT := mG (List.mem_append_right _ (List.mem_append_right _ (List.mem_append_right _ (List.mem_append_right _ (List.mem_append_right _ (List.mem_append_right _ (List.mem_append_left _ (List.mem_of_getElem? (l := tables_1_6) (i := 39) rfl)))))))) rfl
theorem wd_104 : (Cond.selects "CloudDepthModel" ⟨"CloudDepthModel", "fail", "(I)V"⟩ ⟨"CloudDepthModel", "fail", "(I)V"⟩) ∈ LT := mG (List.mem_append_left _ (List.mem_of_getElem? (i := 34) rfl)) rfl
theorem wd_105 : (Cond.methodLink "CloudDepthModel" (149 : Nat) ({ cls := "CloudDepthModel", name := "is", desc := "(I)Z" } : MethodName)) ∈ LT := mG (List.mem_append_right _ (List.mem_append_right _ (List.mem_append_right _ (List.mem_append_right _ (List.mem_append_right _ (List.mem_append_right _ (List.mem_append_left _ (List.mem_of_getElem? (l := tables_1_6) (i := 29) rfl)))))))) rfl
theorem wd_106 : (Cond.instanceMethod ({ cls := "CloudDepthModel", name := "is", desc := "(I)Z" } : MethodName)) ∈ LT := mG (List.mem_append_right _ (List.mem_append_right _ (List.mem_append_right _ (List.mem_append_right _ (List.mem_append_right _ (List.mem_append_right _ (List.mem_append_left _ (List.mem_of_getElem? (l := tables_1_6) (i := 31) rfl)))))))) rfl
theorem wd_107 : (Cond.selects "CloudDepthModel" ⟨"CloudDepthModel", "is", "(I)Z"⟩ ⟨"CloudDepthModel", "is", "(I)Z"⟩) ∈ LT := mG (List.mem_append_left _ (List.mem_of_getElem? (i := 32) rfl)) rfl
theorem wd_108 : (Cond.methodLink "CloudDepthModel" (152 : Nat) ({ cls := "CloudDepthModel", name := "passes", desc := "()V" } : MethodName)) ∈ LT := mG (List.mem_append_right _ (List.mem_append_right _ (List.mem_append_right _ (List.mem_append_right _ (List.mem_append_right _ (List.mem_append_right _ (List.mem_append_left _ (List.mem_of_getElem? (l := tables_1_6) (i := 41) rfl)))))))) rfl
theorem wd_109 : (Cond.instanceMethod ({ cls := "CloudDepthModel", name := "passes", desc := "()V" } : MethodName)) ∈ LT := mG (List.mem_append_right _ (List.mem_append_right _ (List.mem_append_right _ (List.mem_append_right _ (List.mem_append_right _ (List.mem_append_right _ (List.mem_append_left _ (List.mem_of_getElem? (l := tables_1_6) (i := 43) rfl)))))))) rfl
theorem wd_110 : (Cond.selects "CloudDepthModel" ⟨"CloudDepthModel", "passes", "()V"⟩ ⟨"CloudDepthModel", "passes", "()V"⟩) ∈ LT := mG (List.mem_append_left _ (List.mem_of_getElem? (i := 35) rfl)) rfl
theorem wd_111 : (Cond.methodLink "CloudDepthModel" (170 : Nat) ({ cls := "CloudDepthModel", name := "must", desc := "(I)V" } : MethodName)) ∈ LT := mG (List.mem_append_right _ (List.mem_append_right _ (List.mem_append_right _ (List.mem_append_right _ (List.mem_append_right _ (List.mem_append_right _ (List.mem_append_left _ (List.mem_of_getElem? (l := tables_1_6) (i := 45) rfl)))))))) rfl
theorem wd_112 : (Cond.instanceMethod ({ cls := "CloudDepthModel", name := "must", desc := "(I)V" } : MethodName)) ∈ LT := mG (List.mem_append_right _ (List.mem_append_right _ (List.mem_append_right _ (List.mem_append_right _ (List.mem_append_right _ (List.mem_append_right _ (List.mem_append_left _ (List.mem_of_getElem? (l := tables_1_6) (i := 47) rfl)))))))) rfl
theorem wd_113 : (Cond.selects "CloudDepthModel" ⟨"CloudDepthModel", "must", "(I)V"⟩ ⟨"CloudDepthModel", "must", "(I)V"⟩) ∈ LT := mG (List.mem_append_left _ (List.mem_of_getElem? (i := 36) rfl)) rfl
theorem wd_114 : (Cond.methodLink "CloudDepthModel" (173 : Nat) ({ cls := "CloudDepthModel", name := "signed", desc := "()V" } : MethodName)) ∈ LT := mG (List.mem_append_right _ (List.mem_append_right _ (List.mem_append_right _ (List.mem_append_right _ (List.mem_append_right _ (List.mem_append_right _ (List.mem_append_left _ (List.mem_of_getElem? (l := tables_1_6) (i := 49) rfl)))))))) rfl
theorem wd_115 : (Cond.instanceMethod ({ cls := "CloudDepthModel", name := "signed", desc := "()V" } : MethodName)) ∈ LT := mG (List.mem_append_right _ (List.mem_append_right _ (List.mem_append_right _ (List.mem_append_right _ (List.mem_append_right _ (List.mem_append_right _ (List.mem_append_left _ (List.mem_of_getElem? (l := tables_1_6) (i := 51) rfl)))))))) rfl
theorem wd_116 : (Cond.selects "CloudDepthModel" ⟨"CloudDepthModel", "signed", "()V"⟩ ⟨"CloudDepthModel", "signed", "()V"⟩) ∈ LT := mG (List.mem_append_left _ (List.mem_of_getElem? (i := 37) rfl)) rfl
theorem wd_117 : (Cond.methodLink "CloudDepthModel" (183 : Nat) ({ cls := "CloudDepthModel", name := "wrong", desc := "(II)V" } : MethodName)) ∈ LT := mG (List.mem_append_right _ (List.mem_append_right _ (List.mem_append_right _ (List.mem_append_right _ (List.mem_append_right _ (List.mem_append_right _ (List.mem_append_left _ (List.mem_of_getElem? (l := tables_1_6) (i := 61) rfl)))))))) rfl
theorem wd_118 : (Cond.instanceMethod ({ cls := "CloudDepthModel", name := "wrong", desc := "(II)V" } : MethodName)) ∈ LT := mG (List.mem_append_right _ (List.mem_append_right _ (List.mem_append_right _ (List.mem_append_right _ (List.mem_append_right _ (List.mem_append_right _ (List.mem_append_left _ (List.mem_of_getElem? (l := tables_1_6) (i := 63) rfl)))))))) rfl
theorem wd_119 : (Cond.selects "CloudDepthModel" ⟨"CloudDepthModel", "wrong", "(II)V"⟩ ⟨"CloudDepthModel", "wrong", "(II)V"⟩) ∈ LT := mG (List.mem_append_left _ (List.mem_of_getElem? (i := 40) rfl)) rfl
theorem wd_120 : (Cond.methodLink "CloudDepthModel" (179 : Nat) ({ cls := "CloudDepthModel", name := "in", desc := "(III)Z" } : MethodName)) ∈ LT := mG (List.mem_append_right _ (List.mem_append_right _ (List.mem_append_right _ (List.mem_append_right _ (List.mem_append_right _ (List.mem_append_right _ (List.mem_append_left _ (List.mem_of_getElem? (l := tables_1_6) (i := 65) rfl)))))))) rfl
theorem wd_121 : (Cond.static ({ cls := "CloudDepthModel", name := "in", desc := "(III)Z" } : MethodName)) ∈ LT := mG (List.mem_append_right _ (List.mem_append_right _ (List.mem_append_right _ (List.mem_append_right _ (List.mem_append_right _ (List.mem_append_right _ (List.mem_append_left _ (List.mem_of_getElem? (l := tables_1_6) (i := 66) rfl)))))))) rfl
theorem wd_122 : (Cond.methodLink "CloudDepthModel" (176 : Nat) ({ cls := "CloudDepthModel", name := "meansPoint", desc := "(I)V" } : MethodName)) ∈ LT := mG (List.mem_append_right _ (List.mem_append_right _ (List.mem_append_right _ (List.mem_append_right _ (List.mem_append_right _ (List.mem_append_right _ (List.mem_append_left _ (List.mem_of_getElem? (l := tables_1_6) (i := 57) rfl)))))))) rfl
theorem wd_123 : (Cond.instanceMethod ({ cls := "CloudDepthModel", name := "meansPoint", desc := "(I)V" } : MethodName)) ∈ LT := mG (List.mem_append_right _ (List.mem_append_right _ (List.mem_append_right _ (List.mem_append_right _ (List.mem_append_right _ (List.mem_append_right _ (List.mem_append_left _ (List.mem_of_getElem? (l := tables_1_6) (i := 59) rfl)))))))) rfl
theorem wd_124 : (Cond.selects "CloudDepthModel" ⟨"CloudDepthModel", "meansPoint", "(I)V"⟩ ⟨"CloudDepthModel", "meansPoint", "(I)V"⟩) ∈ LT := mG (List.mem_append_left _ (List.mem_of_getElem? (i := 39) rfl)) rfl
theorem wd_125 : (Cond.methodLink "CloudDepthModel" (155 : Nat) ({ cls := "CloudDepthModel", name := "cutsText", desc := "()V" } : MethodName)) ∈ LT := mG (List.mem_append_right _ (List.mem_append_right _ (List.mem_append_right _ (List.mem_append_right _ (List.mem_append_right _ (List.mem_append_right _ (List.mem_append_left _ (List.mem_of_getElem? (l := tables_1_6) (i := 7) rfl)))))))) rfl
theorem wd_126 : (Cond.instanceMethod ({ cls := "CloudDepthModel", name := "cutsText", desc := "()V" } : MethodName)) ∈ LT := mG (List.mem_append_right _ (List.mem_append_right _ (List.mem_append_right _ (List.mem_append_right _ (List.mem_append_right _ (List.mem_append_right _ (List.mem_append_left _ (List.mem_of_getElem? (l := tables_1_6) (i := 9) rfl)))))))) rfl
theorem wd_127 : (Cond.selects "CloudDepthModel" ⟨"CloudDepthModel", "cutsText", "()V"⟩ ⟨"CloudDepthModel", "cutsText", "()V"⟩) ∈ LT := mG (List.mem_append_left _ (List.mem_of_getElem? (i := 28) rfl)) rfl
theorem wd_128 : (Cond.methodLink "CloudDepthModel" (164 : Nat) ({ cls := "CloudDepthModel", name := "means", desc := "()V" } : MethodName)) ∈ LT := mG (List.mem_append_right _ (List.mem_append_right _ (List.mem_append_right _ (List.mem_append_right _ (List.mem_append_right _ (List.mem_append_right _ (List.mem_append_left _ (List.mem_of_getElem? (l := tables_1_6) (i := 53) rfl)))))))) rfl
theorem wd_129 : (Cond.instanceMethod ({ cls := "CloudDepthModel", name := "means", desc := "()V" } : MethodName)) ∈ LT := mG (List.mem_append_right _ (List.mem_append_right _ (List.mem_append_right _ (List.mem_append_right _ (List.mem_append_right _ (List.mem_append_right _ (List.mem_append_left _ (List.mem_of_getElem? (l := tables_1_6) (i := 55) rfl)))))))) rfl
theorem wd_130 : (Cond.selects "CloudDepthModel" ⟨"CloudDepthModel", "means", "()V"⟩ ⟨"CloudDepthModel", "means", "()V"⟩) ∈ LT := mG (List.mem_append_left _ (List.mem_of_getElem? (i := 38) rfl)) rfl
theorem wd_131 : (Cond.methodLink "CloudDepthModel" (161 : Nat) ({ cls := "CloudDepthModel", name := "line", desc := "()V" } : MethodName)) ∈ LT := mG (List.mem_append_right _ (List.mem_append_right _ (List.mem_append_right _ (List.mem_append_right _ (List.mem_append_right _ (List.mem_append_right _ (List.mem_append_left _ (List.mem_of_getElem? (l := tables_1_6) (i := 33) rfl)))))))) rfl
theorem wd_132 : (Cond.instanceMethod ({ cls := "CloudDepthModel", name := "line", desc := "()V" } : MethodName)) ∈ LT := mG (List.mem_append_right _ (List.mem_append_right _ (List.mem_append_right _ (List.mem_append_right _ (List.mem_append_right _ (List.mem_append_right _ (List.mem_append_left _ (List.mem_of_getElem? (l := tables_1_6) (i := 35) rfl)))))))) rfl
theorem wd_133 : (Cond.selects "CloudDepthModel" ⟨"CloudDepthModel", "line", "()V"⟩ ⟨"CloudDepthModel", "line", "()V"⟩) ∈ LT := mG (List.mem_append_left _ (List.mem_of_getElem? (i := 33) rfl)) rfl
theorem wd_134 : (Cond.methodLink "CloudDepth" (161 : Nat) ({ cls := "CloudDepth$Shelf", name := "keep", desc := "(ILCloudDepth$Cloud;)V" } : MethodName)) ∈ LT := mG (List.mem_append_right _ (List.mem_append_right _ (List.mem_append_right _ (List.mem_append_left _ (List.mem_of_getElem? (l := tables_1_3) (i := 79) rfl))))) rfl
theorem wd_135 : (Cond.instanceMethod ({ cls := "CloudDepth$Shelf", name := "keep", desc := "(ILCloudDepth$Cloud;)V" } : MethodName)) ∈ LT := mG (List.mem_append_right _ (List.mem_append_right _ (List.mem_append_right _ (List.mem_append_left _ (List.mem_of_getElem? (l := tables_1_3) (i := 80) rfl))))) rfl
theorem wd_136 : (Cond.selects "CloudDepth$Shelf" ({ cls := "CloudDepth$Shelf", name := "keep", desc := "(ILCloudDepth$Cloud;)V" } : MethodName) ({ cls := "CloudDepth$Shelf", name := "keep", desc := "(ILCloudDepth$Cloud;)V" } : MethodName)) ∈ LT := mG (List.mem_append_right _ (List.mem_append_right _ (List.mem_append_right _ (List.mem_append_left _ (List.mem_of_getElem? (l := tables_1_3) (i := 81) rfl))))) rfl
theorem wd_137 : (Cond.initialized "CloudDepth$Shelf") ∈ LT := mG (List.mem_append_right _ (List.mem_append_left _ (List.mem_of_getElem? (l := tables_1_1) (i := 12) rfl))) rfl
theorem wd_138 : (Cond.methodLink "CloudDepth" (164 : Nat) ({ cls := "java/lang/Math", name := "min", desc := "(II)I" } : MethodName)) ∈ LT := mG (List.mem_append_right _ (List.mem_append_right _ (List.mem_append_right _ (List.mem_append_left _ (List.mem_of_getElem? (l := tables_1_3) (i := 83) rfl))))) rfl
theorem wd_139 : (Cond.methodLink "CloudDepth" (123 : Nat) ({ cls := "CloudDepth$Cloud", name := "isFree", desc := "(II)Z" } : MethodName)) ∈ LT := mG (List.mem_append_right _ (List.mem_append_right _ (List.mem_append_right _ (List.mem_append_left _ (List.mem_of_getElem? (l := tables_1_3) (i := 74) rfl))))) rfl
theorem wd_140 : (Cond.methodLink "CloudDepth" (127 : Nat) ({ cls := "CloudDepth", name := "rememberPast", desc := "()V" } : MethodName)) ∈ LT := mG (List.mem_append_right _ (List.mem_append_right _ (List.mem_append_right _ (List.mem_append_left _ (List.mem_of_getElem? (l := tables_1_3) (i := 75) rfl))))) rfl
theorem wd_141 : (Cond.instanceMethod ({ cls := "CloudDepth", name := "rememberPast", desc := "()V" } : MethodName)) ∈ LT := mG (List.mem_append_right _ (List.mem_append_right _ (List.mem_append_right _ (List.mem_append_left _ (List.mem_of_getElem? (l := tables_1_3) (i := 77) rfl))))) rfl
theorem wd_142 : (Cond.selects "CloudDepth" ⟨"CloudDepth", "rememberPast", "()V"⟩ ⟨"CloudDepth", "rememberPast", "()V"⟩) ∈ LT := mG (List.mem_append_left _ (List.mem_of_getElem? (i := 13) rfl)) rfl
theorem wd_143 : (Cond.methodLink "CloudDepth" (130 : Nat) ({ cls := "CloudDepth$Cloud", name := "append", desc := "(II)V" } : MethodName)) ∈ LT := mG (List.mem_append_right _ (List.mem_append_right _ (List.mem_append_right _ (List.mem_append_left _ (List.mem_of_getElem? (l := tables_1_3) (i := 86) rfl))))) rfl
theorem wd_144 : (Cond.methodLink "CloudDepthModel" (187 : Nat) ({ cls := "CloudDepthModel", name := "all", desc := "()I" } : MethodName)) ∈ LT := mG (List.mem_append_right _ (List.mem_append_right _ (List.mem_append_right _ (List.mem_append_right _ (List.mem_append_right _ (List.mem_append_right _ (List.mem_append_left _ (List.mem_of_getElem? (l := tables_1_6) (i := 88) rfl)))))))) rfl
theorem wd_145 : (Cond.instanceMethod ({ cls := "CloudDepthModel", name := "all", desc := "()I" } : MethodName)) ∈ LT := mG (List.mem_append_right _ (List.mem_append_right _ (List.mem_append_right _ (List.mem_append_right _ (List.mem_append_right _ (List.mem_append_right _ (List.mem_append_left _ (List.mem_of_getElem? (l := tables_1_6) (i := 90) rfl)))))))) rfl
theorem wd_146 : (Cond.selects "CloudDepthModel" ⟨"CloudDepthModel", "all", "()I"⟩ ⟨"CloudDepthModel", "all", "()I"⟩) ∈ LT := mG (List.mem_append_left _ (List.mem_of_getElem? (i := 41) rfl)) rfl
theorem wd_147 : (Cond.methodLink "CloudDepthModel" (191 : Nat) ({ cls := "CloudDepthModel", name := "x", desc := "(I)I" } : MethodName)) ∈ LT := mG (List.mem_append_right _ (List.mem_append_right _ (List.mem_append_right _ (List.mem_append_right _ (List.mem_append_right _ (List.mem_append_right _ (List.mem_append_left _ (List.mem_of_getElem? (l := tables_1_6) (i := 100) rfl)))))))) rfl
theorem wd_148 : (Cond.instanceMethod ({ cls := "CloudDepthModel", name := "x", desc := "(I)I" } : MethodName)) ∈ LT := mG (List.mem_append_right _ (List.mem_append_right _ (List.mem_append_right _ (List.mem_append_right _ (List.mem_append_right _ (List.mem_append_right _ (List.mem_append_left _ (List.mem_of_getElem? (l := tables_1_6) (i := 102) rfl)))))))) rfl
theorem wd_149 : (Cond.selects "CloudDepthModel" ⟨"CloudDepthModel", "x", "(I)I"⟩ ⟨"CloudDepthModel", "x", "(I)I"⟩) ∈ LT := mG (List.mem_append_left _ (List.mem_of_getElem? (i := 44) rfl)) rfl
theorem wd_150 : (Cond.methodLink "CloudDepthModel" (194 : Nat) ({ cls := "CloudDepthModel", name := "y", desc := "(I)I" } : MethodName)) ∈ LT := mG (List.mem_append_right _ (List.mem_append_right _ (List.mem_append_right _ (List.mem_append_right _ (List.mem_append_right _ (List.mem_append_right _ (List.mem_append_left _ (List.mem_of_getElem? (l := tables_1_6) (i := 104) rfl)))))))) rfl
theorem wd_151 : (Cond.instanceMethod ({ cls := "CloudDepthModel", name := "y", desc := "(I)I" } : MethodName)) ∈ LT := mG (List.mem_append_right _ (List.mem_append_right _ (List.mem_append_right _ (List.mem_append_right _ (List.mem_append_right _ (List.mem_append_right _ (List.mem_append_left _ (List.mem_of_getElem? (l := tables_1_6) (i := 106) rfl)))))))) rfl
theorem wd_152 : (Cond.selects "CloudDepthModel" ⟨"CloudDepthModel", "y", "(I)I"⟩ ⟨"CloudDepthModel", "y", "(I)I"⟩) ∈ LT := mG (List.mem_append_left _ (List.mem_of_getElem? (i := 45) rfl)) rfl
theorem wd_153 : (Cond.methodLink "CloudDepthModel" (197 : Nat) ({ cls := "CloudDepthModel", name := "pointAt", desc := "(II)I" } : MethodName)) ∈ LT := mG (List.mem_append_right _ (List.mem_append_right _ (List.mem_append_right _ (List.mem_append_right _ (List.mem_append_right _ (List.mem_append_right _ (List.mem_append_left _ (List.mem_of_getElem? (l := tables_1_6) (i := 96) rfl)))))))) rfl
theorem wd_154 : (Cond.instanceMethod ({ cls := "CloudDepthModel", name := "pointAt", desc := "(II)I" } : MethodName)) ∈ LT := mG (List.mem_append_right _ (List.mem_append_right _ (List.mem_append_right _ (List.mem_append_right _ (List.mem_append_right _ (List.mem_append_right _ (List.mem_append_left _ (List.mem_of_getElem? (l := tables_1_6) (i := 98) rfl)))))))) rfl
theorem wd_155 : (Cond.selects "CloudDepthModel" ⟨"CloudDepthModel", "pointAt", "(II)I"⟩ ⟨"CloudDepthModel", "pointAt", "(II)I"⟩) ∈ LT := mG (List.mem_append_left _ (List.mem_of_getElem? (i := 43) rfl)) rfl
theorem wd_156 : (Cond.methodLink "CloudDepthModel" (203 : Nat) ({ cls := "CloudDepthModel", name := "canBe", desc := "(II)Z" } : MethodName)) ∈ LT := mG (List.mem_append_right _ (List.mem_append_right _ (List.mem_append_right _ (List.mem_append_right _ (List.mem_append_right _ (List.mem_append_right _ (List.mem_append_left _ (List.mem_of_getElem? (l := tables_1_6) (i := 92) rfl)))))))) rfl
theorem wd_157 : (Cond.instanceMethod ({ cls := "CloudDepthModel", name := "canBe", desc := "(II)Z" } : MethodName)) ∈ LT := mG (List.mem_append_right _ (List.mem_append_right _ (List.mem_append_right _ (List.mem_append_right _ (List.mem_append_right _ (List.mem_append_right _ (List.mem_append_left _ (List.mem_of_getElem? (l := tables_1_6) (i := 94) rfl)))))))) rfl
theorem wd_158 : (Cond.selects "CloudDepthModel" ⟨"CloudDepthModel", "canBe", "(II)Z"⟩ ⟨"CloudDepthModel", "canBe", "(II)Z"⟩) ∈ LT := mG (List.mem_append_left _ (List.mem_of_getElem? (i := 42) rfl)) rfl
theorem wd_159 : (Cond.methodLink "CloudDepthModel" (207 : Nat) ({ cls := "CloudDepthModel", name := "marks", desc := "()V" } : MethodName)) ∈ LT := mG (List.mem_append_right _ (List.mem_append_right _ (List.mem_append_right _ (List.mem_append_right _ (List.mem_append_right _ (List.mem_append_right _ (List.mem_append_left _ (List.mem_of_getElem? (l := tables_1_6) (i := 108) rfl)))))))) rfl
theorem wd_160 : (Cond.instanceMethod ({ cls := "CloudDepthModel", name := "marks", desc := "()V" } : MethodName)) ∈ LT := mG (List.mem_append_right _ (List.mem_append_right _ (List.mem_append_right _ (List.mem_append_right _ (List.mem_append_right _ (List.mem_append_right _ (List.mem_append_left _ (List.mem_of_getElem? (l := tables_1_6) (i := 110) rfl)))))))) rfl
theorem wd_161 : (Cond.selects "CloudDepthModel" ⟨"CloudDepthModel", "marks", "()V"⟩ ⟨"CloudDepthModel", "marks", "()V"⟩) ∈ LT := mG (List.mem_append_left _ (List.mem_of_getElem? (i := 46) rfl)) rfl
theorem wd_162 : (Cond.methodLink "CloudDepthModel" (210 : Nat) ({ cls := "CloudDepthModel", name := "lays", desc := "(III)V" } : MethodName)) ∈ LT := mG (List.mem_append_right _ (List.mem_append_right _ (List.mem_append_right _ (List.mem_append_right _ (List.mem_append_right _ (List.mem_append_right _ (List.mem_append_left _ (List.mem_of_getElem? (l := tables_1_6) (i := 112) rfl)))))))) rfl
theorem wd_163 : (Cond.instanceMethod ({ cls := "CloudDepthModel", name := "lays", desc := "(III)V" } : MethodName)) ∈ LT := mG (List.mem_append_right _ (List.mem_append_right _ (List.mem_append_right _ (List.mem_append_right _ (List.mem_append_right _ (List.mem_append_right _ (List.mem_append_left _ (List.mem_of_getElem? (l := tables_1_6) (i := 114) rfl)))))))) rfl
theorem wd_164 : (Cond.selects "CloudDepthModel" ⟨"CloudDepthModel", "lays", "(III)V"⟩ ⟨"CloudDepthModel", "lays", "(III)V"⟩) ∈ LT := mG (List.mem_append_left _ (List.mem_of_getElem? (i := 47) rfl)) rfl
theorem wd_165 : (Cond.methodLink "CloudDepth$Cloud" (40 : Nat) ({ cls := "CloudDepth$Cloud", name := "has", desc := "(I)Z" } : MethodName)) ∈ LT := mG (List.mem_append_right _ (List.mem_append_right _ (List.mem_append_right _ (List.mem_append_left _ (List.mem_of_getElem? (l := tables_1_3) (i := 99) rfl))))) rfl
theorem wd_166 : (Cond.instanceMethod ({ cls := "CloudDepth$Cloud", name := "has", desc := "(I)Z" } : MethodName)) ∈ LT := mG (List.mem_append_right _ (List.mem_append_right _ (List.mem_append_right _ (List.mem_append_left _ (List.mem_of_getElem? (l := tables_1_3) (i := 92) rfl))))) rfl
theorem wd_167 : (Cond.selects "CloudDepth$Cloud" ({ cls := "CloudDepth$Cloud", name := "has", desc := "(I)Z" } : MethodName) ({ cls := "CloudDepth$Cloud", name := "has", desc := "(I)Z" } : MethodName)) ∈ LT := mG (List.mem_append_right _ (List.mem_append_right _ (List.mem_append_right _ (List.mem_append_left _ (List.mem_of_getElem? (l := tables_1_3) (i := 93) rfl))))) rfl
theorem wd_168 : (Cond.methodLink "CloudDepth" (134 : Nat) ({ cls := "CloudDepth$Cloud", name := "has", desc := "(I)Z" } : MethodName)) ∈ LT := mG (List.mem_append_right _ (List.mem_append_right _ (List.mem_append_right _ (List.mem_append_left _ (List.mem_of_getElem? (l := tables_1_3) (i := 91) rfl))))) rfl
theorem wd_169 : (Cond.methodLink "CloudDepth" (138 : Nat) ({ cls := "CloudDepth$Cloud", name := "drop", desc := "(I)V" } : MethodName)) ∈ LT := mG (List.mem_append_right _ (List.mem_append_right _ (List.mem_append_right _ (List.mem_append_left _ (List.mem_of_getElem? (l := tables_1_3) (i := 95) rfl))))) rfl
theorem wd_170 : (Cond.instanceMethod ({ cls := "CloudDepth$Cloud", name := "drop", desc := "(I)V" } : MethodName)) ∈ LT := mG (List.mem_append_right _ (List.mem_append_right _ (List.mem_append_right _ (List.mem_append_left _ (List.mem_of_getElem? (l := tables_1_3) (i := 96) rfl))))) rfl
theorem wd_171 : (Cond.selects "CloudDepth$Cloud" ({ cls := "CloudDepth$Cloud", name := "drop", desc := "(I)V" } : MethodName) ({ cls := "CloudDepth$Cloud", name := "drop", desc := "(I)V" } : MethodName)) ∈ LT := mG (List.mem_append_right _ (List.mem_append_right _ (List.mem_append_right _ (List.mem_append_left _ (List.mem_of_getElem? (l := tables_1_3) (i := 97) rfl))))) rfl
theorem wd_172 : (Cond.methodLink "CloudDepthModel" (213 : Nat) ({ cls := "CloudDepthModel", name := "isPoint", desc := "(I)Z" } : MethodName)) ∈ LT := mG (List.mem_append_right _ (List.mem_append_right _ (List.mem_append_right _ (List.mem_append_right _ (List.mem_append_right _ (List.mem_append_right _ (List.mem_append_left _ (List.mem_of_getElem? (l := tables_1_6) (i := 120) rfl)))))))) rfl
theorem wd_173 : (Cond.instanceMethod ({ cls := "CloudDepthModel", name := "isPoint", desc := "(I)Z" } : MethodName)) ∈ LT := mG (List.mem_append_right _ (List.mem_append_right _ (List.mem_append_right _ (List.mem_append_right _ (List.mem_append_right _ (List.mem_append_right _ (List.mem_append_left _ (List.mem_of_getElem? (l := tables_1_6) (i := 122) rfl)))))))) rfl
theorem wd_174 : (Cond.selects "CloudDepthModel" ⟨"CloudDepthModel", "isPoint", "(I)Z"⟩ ⟨"CloudDepthModel", "isPoint", "(I)Z"⟩) ∈ LT := mG (List.mem_append_left _ (List.mem_of_getElem? (i := 48) rfl)) rfl
theorem wd_175 : (Cond.methodLink "CloudDepth" (141 : Nat) ({ cls := "CloudDepth$Cloud", name := "put", desc := "(III)V" } : MethodName)) ∈ LT := mG (List.mem_append_right _ (List.mem_append_right _ (List.mem_append_right _ (List.mem_append_left _ (List.mem_of_getElem? (l := tables_1_3) (i := 104) rfl))))) rfl
theorem wd_176 : (Cond.instanceMethod ({ cls := "CloudDepth$Cloud", name := "put", desc := "(III)V" } : MethodName)) ∈ LT := mG (List.mem_append_right _ (List.mem_append_right _ (List.mem_append_right _ (List.mem_append_left _ (List.mem_of_getElem? (l := tables_1_3) (i := 105) rfl))))) rfl
theorem wd_177 : (Cond.selects "CloudDepth$Cloud" ({ cls := "CloudDepth$Cloud", name := "put", desc := "(III)V" } : MethodName) ({ cls := "CloudDepth$Cloud", name := "put", desc := "(III)V" } : MethodName)) ∈ LT := mG (List.mem_append_right _ (List.mem_append_right _ (List.mem_append_right _ (List.mem_append_left _ (List.mem_of_getElem? (l := tables_1_3) (i := 106) rfl))))) rfl
theorem wd_178 : (Cond.methodLink "CloudDepth$Cloud" (43 : Nat) ({ cls := "CloudDepth$Cloud", name := "put", desc := "(III)V" } : MethodName)) ∈ LT := mG (List.mem_append_right _ (List.mem_append_right _ (List.mem_append_right _ (List.mem_append_left _ (List.mem_of_getElem? (l := tables_1_3) (i := 116) rfl))))) rfl
theorem wd_179 : (Cond.methodLink "CloudDepth" (148 : Nat) ({ cls := "CloudDepth$Cloud", name := "turnQuarter", desc := "()V" } : MethodName)) ∈ LT := mG (List.mem_append_right _ (List.mem_append_right _ (List.mem_append_right _ (List.mem_append_left _ (List.mem_of_getElem? (l := tables_1_3) (i := 117) rfl))))) rfl
theorem wd_180 : (Cond.instanceMethod ({ cls := "CloudDepth$Cloud", name := "turnQuarter", desc := "()V" } : MethodName)) ∈ LT := mG (List.mem_append_right _ (List.mem_append_right _ (List.mem_append_right _ (List.mem_append_left _ (List.mem_of_getElem? (l := tables_1_3) (i := 118) rfl))))) rfl
theorem wd_181 : (Cond.selects "CloudDepth$Cloud" ({ cls := "CloudDepth$Cloud", name := "turnQuarter", desc := "()V" } : MethodName) ({ cls := "CloudDepth$Cloud", name := "turnQuarter", desc := "()V" } : MethodName)) ∈ LT := mG (List.mem_append_right _ (List.mem_append_right _ (List.mem_append_right _ (List.mem_append_left _ (List.mem_of_getElem? (l := tables_1_3) (i := 119) rfl))))) rfl
theorem wd_182 : (Cond.methodLink "CloudDepth" (145 : Nat) ({ cls := "CloudDepth$Cloud", name := "mirror", desc := "()V" } : MethodName)) ∈ LT := mG (List.mem_append_right _ (List.mem_append_right _ (List.mem_append_right _ (List.mem_append_left _ (List.mem_of_getElem? (l := tables_1_3) (i := 112) rfl))))) rfl
theorem wd_183 : (Cond.instanceMethod ({ cls := "CloudDepth$Cloud", name := "mirror", desc := "()V" } : MethodName)) ∈ LT := mG (List.mem_append_right _ (List.mem_append_right _ (List.mem_append_right _ (List.mem_append_left _ (List.mem_of_getElem? (l := tables_1_3) (i := 113) rfl))))) rfl
theorem wd_184 : (Cond.selects "CloudDepth$Cloud" ({ cls := "CloudDepth$Cloud", name := "mirror", desc := "()V" } : MethodName) ({ cls := "CloudDepth$Cloud", name := "mirror", desc := "()V" } : MethodName)) ∈ LT := mG (List.mem_append_right _ (List.mem_append_right _ (List.mem_append_right _ (List.mem_append_left _ (List.mem_of_getElem? (l := tables_1_3) (i := 114) rfl))))) rfl
theorem wd_185 : (Cond.methodLink "CloudDepth$Shelf" (38 : Nat) ({ cls := "CloudDepth$Cloud", name := "clear", desc := "()V" } : MethodName)) ∈ LT := mG (List.mem_append_right _ (List.mem_append_right _ (List.mem_append_right _ (List.mem_append_left _ (List.mem_of_getElem? (l := tables_1_3) (i := 129) rfl))))) rfl
theorem wd_186 : (Cond.methodLink "CloudDepth$Shelf" (41 : Nat) ({ cls := "CloudDepth$Cloud", name := "append", desc := "(II)V" } : MethodName)) ∈ LT := mG (List.mem_append_right _ (List.mem_append_right _ (List.mem_append_right _ (List.mem_append_left _ (List.mem_of_getElem? (l := tables_1_3) (i := 130) rfl))))) rfl
theorem wd_187 : (Cond.methodLink "CloudDepth" (157 : Nat) ({ cls := "CloudDepth$Shelf", name := "give", desc := "(ILCloudDepth$Cloud;)V" } : MethodName)) ∈ LT := mG (List.mem_append_right _ (List.mem_append_right _ (List.mem_append_right _ (List.mem_append_left _ (List.mem_of_getElem? (l := tables_1_3) (i := 125) rfl))))) rfl
theorem wd_188 : (Cond.instanceMethod ({ cls := "CloudDepth$Shelf", name := "give", desc := "(ILCloudDepth$Cloud;)V" } : MethodName)) ∈ LT := mG (List.mem_append_right _ (List.mem_append_right _ (List.mem_append_right _ (List.mem_append_left _ (List.mem_of_getElem? (l := tables_1_3) (i := 126) rfl))))) rfl
theorem wd_189 : (Cond.selects "CloudDepth$Shelf" ({ cls := "CloudDepth$Shelf", name := "give", desc := "(ILCloudDepth$Cloud;)V" } : MethodName) ({ cls := "CloudDepth$Shelf", name := "give", desc := "(ILCloudDepth$Cloud;)V" } : MethodName)) ∈ LT := mG (List.mem_append_right _ (List.mem_append_right _ (List.mem_append_right _ (List.mem_append_left _ (List.mem_of_getElem? (l := tables_1_3) (i := 127) rfl))))) rfl
theorem wd_190 : (Cond.methodLink "CloudDepth$Cloud" (54 : Nat) ({ cls := "CloudDepth$Cloud", name := "turnAt", desc := "(IIII)I" } : MethodName)) ∈ LT := mG (List.mem_append_right _ (List.mem_append_right _ (List.mem_append_right _ (List.mem_append_left _ (List.mem_of_getElem? (l := tables_1_3) (i := 165) rfl))))) rfl
theorem wd_191 : (Cond.instanceMethod ({ cls := "CloudDepth$Cloud", name := "turnAt", desc := "(IIII)I" } : MethodName)) ∈ LT := mG (List.mem_append_right _ (List.mem_append_right _ (List.mem_append_right _ (List.mem_append_left _ (List.mem_of_getElem? (l := tables_1_3) (i := 166) rfl))))) rfl
theorem wd_192 : (Cond.selects "CloudDepth$Cloud" ({ cls := "CloudDepth$Cloud", name := "turnAt", desc := "(IIII)I" } : MethodName) ({ cls := "CloudDepth$Cloud", name := "turnAt", desc := "(IIII)I" } : MethodName)) ∈ LT := mG (List.mem_append_right _ (List.mem_append_right _ (List.mem_append_right _ (List.mem_append_left _ (List.mem_of_getElem? (l := tables_1_3) (i := 167) rfl))))) rfl
theorem wd_193 : (Cond.static ({ cls := "CloudDepth", name := "signOf", desc := "(I)I" } : MethodName)) ∈ LT := mG (List.mem_append_right _ (List.mem_append_right _ (List.mem_append_right _ (List.mem_append_left _ (List.mem_of_getElem? (l := tables_1_3) (i := 170) rfl))))) rfl
theorem wd_194 : (Cond.static ({ cls := "CloudDepth", name := "bit", desc := "(II)I" } : MethodName)) ∈ LT := mG (List.mem_append_right _ (List.mem_append_right _ (List.mem_append_right _ (List.mem_append_left _ (List.mem_of_getElem? (l := tables_1_3) (i := 156) rfl))))) rfl
theorem wd_195 : (Cond.methodLink "CloudDepth$Hulls" (69 : Nat) ({ cls := "CloudDepth$Cloud", name := "sideBits", desc := "(III)I" } : MethodName)) ∈ LT := mG (List.mem_append_right _ (List.mem_append_right _ (List.mem_append_right _ (List.mem_append_left _ (List.mem_of_getElem? (l := tables_1_3) (i := 161) rfl))))) rfl
theorem wd_196 : (Cond.instanceMethod ({ cls := "CloudDepth$Cloud", name := "sideBits", desc := "(III)I" } : MethodName)) ∈ LT := mG (List.mem_append_right _ (List.mem_append_right _ (List.mem_append_right _ (List.mem_append_left _ (List.mem_of_getElem? (l := tables_1_3) (i := 162) rfl))))) rfl
theorem wd_197 : (Cond.selects "CloudDepth$Cloud" ({ cls := "CloudDepth$Cloud", name := "sideBits", desc := "(III)I" } : MethodName) ({ cls := "CloudDepth$Cloud", name := "sideBits", desc := "(III)I" } : MethodName)) ∈ LT := mG (List.mem_append_right _ (List.mem_append_right _ (List.mem_append_right _ (List.mem_append_left _ (List.mem_of_getElem? (l := tables_1_3) (i := 163) rfl))))) rfl
theorem wd_198 : (Cond.methodLink "CloudDepth$Hulls" (66 : Nat) ({ cls := "CloudDepth$Hulls", name := "isOnRim", desc := "(LCloudDepth$Cloud;II)Z" } : MethodName)) ∈ LT := mG (List.mem_append_right _ (List.mem_append_right _ (List.mem_append_right _ (List.mem_append_left _ (List.mem_of_getElem? (l := tables_1_3) (i := 158) rfl))))) rfl
theorem wd_199 : (Cond.static ({ cls := "CloudDepth$Hulls", name := "isOnRim", desc := "(LCloudDepth$Cloud;II)Z" } : MethodName)) ∈ LT := mG (List.mem_append_right _ (List.mem_append_right _ (List.mem_append_right _ (List.mem_append_left _ (List.mem_of_getElem? (l := tables_1_3) (i := 159) rfl))))) rfl
theorem wd_200 : (Cond.initialized "CloudDepth$Hulls") ∈ LT := mG (List.mem_append_right _ (List.mem_append_left _ (List.mem_of_getElem? (l := tables_1_1) (i := 5) rfl))) rfl
theorem wd_201 : (Cond.methodLink "CloudDepth$Hulls" (18 : Nat) ({ cls := "CloudDepth$Cloud", name := "everyone", desc := "()I" } : MethodName)) ∈ LT := mG (List.mem_append_right _ (List.mem_append_right _ (List.mem_append_right _ (List.mem_append_left _ (List.mem_of_getElem? (l := tables_1_3) (i := 148) rfl))))) rfl
theorem wd_202 : (Cond.instanceMethod ({ cls := "CloudDepth$Cloud", name := "everyone", desc := "()I" } : MethodName)) ∈ LT := mG (List.mem_append_right _ (List.mem_append_right _ (List.mem_append_right _ (List.mem_append_left _ (List.mem_of_getElem? (l := tables_1_3) (i := 149) rfl))))) rfl
theorem wd_203 : (Cond.selects "CloudDepth$Cloud" ({ cls := "CloudDepth$Cloud", name := "everyone", desc := "()I" } : MethodName) ({ cls := "CloudDepth$Cloud", name := "everyone", desc := "()I" } : MethodName)) ∈ LT := mG (List.mem_append_right _ (List.mem_append_right _ (List.mem_append_right _ (List.mem_append_left _ (List.mem_of_getElem? (l := tables_1_3) (i := 150) rfl))))) rfl
theorem wd_204 : (Cond.methodLink "CloudDepth$Hulls" (28 : Nat) ({ cls := "CloudDepth$Hulls", name := "rimOf", desc := "(LCloudDepth$Cloud;I)I" } : MethodName)) ∈ LT := mG (List.mem_append_right _ (List.mem_append_right _ (List.mem_append_right _ (List.mem_append_left _ (List.mem_of_getElem? (l := tables_1_3) (i := 152) rfl))))) rfl
theorem wd_205 : (Cond.static ({ cls := "CloudDepth$Hulls", name := "rimOf", desc := "(LCloudDepth$Cloud;I)I" } : MethodName)) ∈ LT := mG (List.mem_append_right _ (List.mem_append_right _ (List.mem_append_right _ (List.mem_append_left _ (List.mem_of_getElem? (l := tables_1_3) (i := 153) rfl))))) rfl
theorem wd_206 : (Cond.methodLink "CloudDepth$Depths" (44 : Nat) ({ cls := "java/lang/Math", name := "min", desc := "(II)I" } : MethodName)) ∈ LT := mG (List.mem_append_right _ (List.mem_append_right _ (List.mem_append_right _ (List.mem_append_left _ (List.mem_of_getElem? (l := tables_1_3) (i := 188) rfl))))) rfl
theorem wd_207 : (Cond.methodLink "CloudDepth$Depths" (40 : Nat) ({ cls := "CloudDepth$Depths", name := "fewestAbout", desc := "(II)I" } : MethodName)) ∈ LT := mG (List.mem_append_right _ (List.mem_append_right _ (List.mem_append_right _ (List.mem_append_left _ (List.mem_of_getElem? (l := tables_1_3) (i := 184) rfl))))) rfl
theorem wd_208 : (Cond.instanceMethod ({ cls := "CloudDepth$Depths", name := "fewestAbout", desc := "(II)I" } : MethodName)) ∈ LT := mG (List.mem_append_right _ (List.mem_append_right _ (List.mem_append_right _ (List.mem_append_left _ (List.mem_of_getElem? (l := tables_1_3) (i := 186) rfl))))) rfl
theorem wd_209 : (Cond.selects "CloudDepth$Depths" ⟨"CloudDepth$Depths", "fewestAbout", "(II)I"⟩ ⟨"CloudDepth$Depths", "fewestAbout", "(II)I"⟩) ∈ LT := mG (List.mem_append_left _ (List.mem_of_getElem? (i := 15) rfl)) rfl
theorem wd_210 : (Cond.initialized "CloudDepth$Depths") ∈ LT := mG (List.mem_append_right _ (List.mem_append_left _ (List.mem_of_getElem? (l := tables_1_1) (i := 6) rfl))) rfl
theorem wd_211 : (Cond.methodLink "CloudDepth$Depths" (25 : Nat) ({ cls := "CloudDepth$Depths", name := "depthOver", desc := "(LCloudDepth$Cloud;III)I" } : MethodName)) ∈ LT := mG (List.mem_append_right _ (List.mem_append_right _ (List.mem_append_right _ (List.mem_append_left _ (List.mem_of_getElem? (l := tables_1_3) (i := 180) rfl))))) rfl
theorem wd_212 : (Cond.instanceMethod ({ cls := "CloudDepth$Depths", name := "depthOver", desc := "(LCloudDepth$Cloud;III)I" } : MethodName)) ∈ LT := mG (List.mem_append_right _ (List.mem_append_right _ (List.mem_append_right _ (List.mem_append_left _ (List.mem_of_getElem? (l := tables_1_3) (i := 182) rfl))))) rfl
theorem wd_213 : (Cond.selects "CloudDepth$Depths" ⟨"CloudDepth$Depths", "depthOver", "(LCloudDepth$Cloud;III)I"⟩ ⟨"CloudDepth$Depths", "depthOver", "(LCloudDepth$Cloud;III)I"⟩) ∈ LT := mG (List.mem_append_left _ (List.mem_of_getElem? (i := 14) rfl)) rfl
theorem wd_214 : (Cond.methodLink "CloudDepth$Hulls" (55 : Nat) ({ cls := "CloudDepth$Cloud", name := "turnOf", desc := "(III)I" } : MethodName)) ∈ LT := mG (List.mem_append_right _ (List.mem_append_right _ (List.mem_append_right _ (List.mem_append_left _ (List.mem_of_getElem? (l := tables_1_3) (i := 199) rfl))))) rfl
theorem wd_215 : (Cond.instanceMethod ({ cls := "CloudDepth$Cloud", name := "turnOf", desc := "(III)I" } : MethodName)) ∈ LT := mG (List.mem_append_right _ (List.mem_append_right _ (List.mem_append_right _ (List.mem_append_left _ (List.mem_of_getElem? (l := tables_1_3) (i := 200) rfl))))) rfl
theorem wd_216 : (Cond.selects "CloudDepth$Cloud" ({ cls := "CloudDepth$Cloud", name := "turnOf", desc := "(III)I" } : MethodName) ({ cls := "CloudDepth$Cloud", name := "turnOf", desc := "(III)I" } : MethodName)) ∈ LT := mG (List.mem_append_right _ (List.mem_append_right _ (List.mem_append_right _ (List.mem_append_left _ (List.mem_of_getElem? (l := tables_1_3) (i := 201) rfl))))) rfl
theorem wd_217 : (Cond.methodLink "CloudDepth$Hulls" (72 : Nat) ({ cls := "CloudDepth$Cloud", name := "wayAlong", desc := "(III)I" } : MethodName)) ∈ LT := mG (List.mem_append_right _ (List.mem_append_right _ (List.mem_append_right _ (List.mem_append_left _ (List.mem_of_getElem? (l := tables_1_3) (i := 203) rfl))))) rfl
theorem wd_218 : (Cond.instanceMethod ({ cls := "CloudDepth$Cloud", name := "wayAlong", desc := "(III)I" } : MethodName)) ∈ LT := mG (List.mem_append_right _ (List.mem_append_right _ (List.mem_append_right _ (List.mem_append_left _ (List.mem_of_getElem? (l := tables_1_3) (i := 204) rfl))))) rfl
theorem wd_219 : (Cond.selects "CloudDepth$Cloud" ({ cls := "CloudDepth$Cloud", name := "wayAlong", desc := "(III)I" } : MethodName) ({ cls := "CloudDepth$Cloud", name := "wayAlong", desc := "(III)I" } : MethodName)) ∈ LT := mG (List.mem_append_right _ (List.mem_append_right _ (List.mem_append_right _ (List.mem_append_left _ (List.mem_of_getElem? (l := tables_1_3) (i := 205) rfl))))) rfl
theorem wd_220 : (Cond.methodLink "CloudDepth$Hulls" (62 : Nat) ({ cls := "CloudDepth$Hulls", name := "isBetweenOthers", desc := "(LCloudDepth$Cloud;II)Z" } : MethodName)) ∈ LT := mG (List.mem_append_right _ (List.mem_append_right _ (List.mem_append_right _ (List.mem_append_left _ (List.mem_of_getElem? (l := tables_1_3) (i := 196) rfl))))) rfl
theorem wd_221 : (Cond.static ({ cls := "CloudDepth$Hulls", name := "isBetweenOthers", desc := "(LCloudDepth$Cloud;II)Z" } : MethodName)) ∈ LT := mG (List.mem_append_right _ (List.mem_append_right _ (List.mem_append_right _ (List.mem_append_left _ (List.mem_of_getElem? (l := tables_1_3) (i := 197) rfl))))) rfl
theorem wd_222 : (Cond.methodLink "CloudDepth$Shapes" (119 : Nat) ({ cls := "CloudDepth$Shapes", name := "squareApart", desc := "(LCloudDepth$Cloud;III)I" } : MethodName)) ∈ LT := mG (List.mem_append_right _ (List.mem_append_right _ (List.mem_append_right _ (List.mem_append_left _ (List.mem_of_getElem? (l := tables_1_3) (i := 215) rfl))))) rfl
theorem wd_223 : (Cond.static ({ cls := "CloudDepth$Shapes", name := "squareApart", desc := "(LCloudDepth$Cloud;III)I" } : MethodName)) ∈ LT := mG (List.mem_append_right _ (List.mem_append_right _ (List.mem_append_right _ (List.mem_append_left _ (List.mem_of_getElem? (l := tables_1_3) (i := 216) rfl))))) rfl
theorem wd_224 : (Cond.initialized "CloudDepth$Shapes") ∈ LT := mG (List.mem_append_right _ (List.mem_append_left _ (List.mem_of_getElem? (l := tables_1_1) (i := 11) rfl))) rfl
theorem wd_225 : (Cond.methodLink "CloudDepth$Shapes" (116 : Nat) ({ cls := "CloudDepth$Shapes", name := "isNearest", desc := "(LCloudDepth$Cloud;III)Z" } : MethodName)) ∈ LT := mG (List.mem_append_right _ (List.mem_append_right _ (List.mem_append_right _ (List.mem_append_left _ (List.mem_of_getElem? (l := tables_1_3) (i := 212) rfl))))) rfl
theorem wd_226 : (Cond.static ({ cls := "CloudDepth$Shapes", name := "isNearest", desc := "(LCloudDepth$Cloud;III)Z" } : MethodName)) ∈ LT := mG (List.mem_append_right _ (List.mem_append_right _ (List.mem_append_right _ (List.mem_append_left _ (List.mem_of_getElem? (l := tables_1_3) (i := 213) rfl))))) rfl
theorem wd_227 : (Cond.methodLink "CloudDepth" (199 : Nat) ({ cls := "CloudDepth$Shapes", name := "shareOf", desc := "(LCloudDepth$Cloud;I)I" } : MethodName)) ∈ LT := mG (List.mem_append_right _ (List.mem_append_right _ (List.mem_append_right _ (List.mem_append_left _ (List.mem_of_getElem? (l := tables_1_3) (i := 208) rfl))))) rfl
theorem wd_228 : (Cond.instanceMethod ({ cls := "CloudDepth$Shapes", name := "shareOf", desc := "(LCloudDepth$Cloud;I)I" } : MethodName)) ∈ LT := mG (List.mem_append_right _ (List.mem_append_right _ (List.mem_append_right _ (List.mem_append_left _ (List.mem_of_getElem? (l := tables_1_3) (i := 209) rfl))))) rfl
theorem wd_229 : (Cond.selects "CloudDepth$Shapes" ({ cls := "CloudDepth$Shapes", name := "shareOf", desc := "(LCloudDepth$Cloud;I)I" } : MethodName) ({ cls := "CloudDepth$Shapes", name := "shareOf", desc := "(LCloudDepth$Cloud;I)I" } : MethodName)) ∈ LT := mG (List.mem_append_right _ (List.mem_append_right _ (List.mem_append_right _ (List.mem_append_left _ (List.mem_of_getElem? (l := tables_1_3) (i := 210) rfl))))) rfl
theorem wd_230 : (Cond.methodLink "CloudDepth" (178 : Nat) ({ cls := "CloudDepth$Hulls", name := "peel", desc := "(LCloudDepth$Cloud;)V" } : MethodName)) ∈ LT := mG (List.mem_append_right _ (List.mem_append_right _ (List.mem_append_right _ (List.mem_append_left _ (List.mem_of_getElem? (l := tables_1_3) (i := 144) rfl))))) rfl
theorem wd_231 : (Cond.instanceMethod ({ cls := "CloudDepth$Hulls", name := "peel", desc := "(LCloudDepth$Cloud;)V" } : MethodName)) ∈ LT := mG (List.mem_append_right _ (List.mem_append_right _ (List.mem_append_right _ (List.mem_append_left _ (List.mem_of_getElem? (l := tables_1_3) (i := 145) rfl))))) rfl
theorem wd_232 : (Cond.selects "CloudDepth$Hulls" ({ cls := "CloudDepth$Hulls", name := "peel", desc := "(LCloudDepth$Cloud;)V" } : MethodName) ({ cls := "CloudDepth$Hulls", name := "peel", desc := "(LCloudDepth$Cloud;)V" } : MethodName)) ∈ LT := mG (List.mem_append_right _ (List.mem_append_right _ (List.mem_append_right _ (List.mem_append_left _ (List.mem_of_getElem? (l := tables_1_3) (i := 146) rfl))))) rfl
theorem wd_233 : (Cond.methodLink "CloudDepth" (181 : Nat) ({ cls := "CloudDepth$Hulls", name := "layerWith", desc := "(I)I" } : MethodName)) ∈ LT := mG (List.mem_append_right _ (List.mem_append_right _ (List.mem_append_right _ (List.mem_append_left _ (List.mem_of_getElem? (l := tables_1_3) (i := 172) rfl))))) rfl
theorem wd_234 : (Cond.instanceMethod ({ cls := "CloudDepth$Hulls", name := "layerWith", desc := "(I)I" } : MethodName)) ∈ LT := mG (List.mem_append_right _ (List.mem_append_right _ (List.mem_append_right _ (List.mem_append_left _ (List.mem_of_getElem? (l := tables_1_3) (i := 173) rfl))))) rfl
theorem wd_235 : (Cond.selects "CloudDepth$Hulls" ({ cls := "CloudDepth$Hulls", name := "layerWith", desc := "(I)I" } : MethodName) ({ cls := "CloudDepth$Hulls", name := "layerWith", desc := "(I)I" } : MethodName)) ∈ LT := mG (List.mem_append_right _ (List.mem_append_right _ (List.mem_append_right _ (List.mem_append_left _ (List.mem_of_getElem? (l := tables_1_3) (i := 174) rfl))))) rfl
theorem wd_236 : (Cond.methodLink "CloudDepth" (189 : Nat) ({ cls := "CloudDepth$Hulls", name := "layerBits", desc := "(I)I" } : MethodName)) ∈ LT := mG (List.mem_append_right _ (List.mem_append_right _ (List.mem_append_right _ (List.mem_append_left _ (List.mem_of_getElem? (l := tables_1_3) (i := 189) rfl))))) rfl
theorem wd_237 : (Cond.instanceMethod ({ cls := "CloudDepth$Hulls", name := "layerBits", desc := "(I)I" } : MethodName)) ∈ LT := mG (List.mem_append_right _ (List.mem_append_right _ (List.mem_append_right _ (List.mem_append_left _ (List.mem_of_getElem? (l := tables_1_3) (i := 190) rfl))))) rfl
theorem wd_238 : (Cond.selects "CloudDepth$Hulls" ({ cls := "CloudDepth$Hulls", name := "layerBits", desc := "(I)I" } : MethodName) ({ cls := "CloudDepth$Hulls", name := "layerBits", desc := "(I)I" } : MethodName)) ∈ LT := mG (List.mem_append_right _ (List.mem_append_right _ (List.mem_append_right _ (List.mem_append_left _ (List.mem_of_getElem? (l := tables_1_3) (i := 191) rfl))))) rfl
theorem wd_239 : (Cond.methodLink "CloudDepth" (192 : Nat) ({ cls := "CloudDepth$Hulls", name := "cornersOf", desc := "(LCloudDepth$Cloud;I)I" } : MethodName)) ∈ LT := mG (List.mem_append_right _ (List.mem_append_right _ (List.mem_append_right _ (List.mem_append_left _ (List.mem_of_getElem? (l := tables_1_3) (i := 193) rfl))))) rfl
theorem wd_240 : (Cond.static ({ cls := "CloudDepth$Hulls", name := "cornersOf", desc := "(LCloudDepth$Cloud;I)I" } : MethodName)) ∈ LT := mG (List.mem_append_right _ (List.mem_append_right _ (List.mem_append_right _ (List.mem_append_left _ (List.mem_of_getElem? (l := tables_1_3) (i := 194) rfl))))) rfl
theorem wd_241 : (Cond.methodLink "CloudDepth" (196 : Nat) ({ cls := "CloudDepth", name := "bit", desc := "(II)I" } : MethodName)) ∈ LT := mG (List.mem_append_right _ (List.mem_append_right _ (List.mem_append_right _ (List.mem_append_left _ (List.mem_of_getElem? (l := tables_1_3) (i := 207) rfl))))) rfl
theorem wd_242 : (Cond.methodLink "CloudDepth" (185 : Nat) ({ cls := "CloudDepth$Depths", name := "depthAt", desc := "(LCloudDepth$Cloud;II)I" } : MethodName)) ∈ LT := mG (List.mem_append_right _ (List.mem_append_right _ (List.mem_append_right _ (List.mem_append_left _ (List.mem_of_getElem? (l := tables_1_3) (i := 176) rfl))))) rfl
theorem wd_243 : (Cond.instanceMethod ({ cls := "CloudDepth$Depths", name := "depthAt", desc := "(LCloudDepth$Cloud;II)I" } : MethodName)) ∈ LT := mG (List.mem_append_right _ (List.mem_append_right _ (List.mem_append_right _ (List.mem_append_left _ (List.mem_of_getElem? (l := tables_1_3) (i := 177) rfl))))) rfl
theorem wd_244 : (Cond.selects "CloudDepth$Depths" ({ cls := "CloudDepth$Depths", name := "depthAt", desc := "(LCloudDepth$Cloud;II)I" } : MethodName) ({ cls := "CloudDepth$Depths", name := "depthAt", desc := "(LCloudDepth$Cloud;II)I" } : MethodName)) ∈ LT := mG (List.mem_append_right _ (List.mem_append_right _ (List.mem_append_right _ (List.mem_append_left _ (List.mem_of_getElem? (l := tables_1_3) (i := 178) rfl))))) rfl
theorem wd_245 : (Cond.methodLink "CloudDepthModel" (216 : Nat) ({ cls := "CloudDepthModel", name := "turnOf", desc := "(IIII)I" } : MethodName)) ∈ LT := mG (List.mem_append_right _ (List.mem_append_right _ (List.mem_append_right _ (List.mem_append_right _ (List.mem_append_right _ (List.mem_append_right _ (List.mem_append_left _ (List.mem_of_getElem? (l := tables_1_6) (i := 137) rfl)))))))) rfl
theorem wd_246 : (Cond.instanceMethod ({ cls := "CloudDepthModel", name := "turnOf", desc := "(IIII)I" } : MethodName)) ∈ LT := mG (List.mem_append_right _ (List.mem_append_right _ (List.mem_append_right _ (List.mem_append_right _ (List.mem_append_right _ (List.mem_append_right _ (List.mem_append_left _ (List.mem_of_getElem? (l := tables_1_6) (i := 139) rfl)))))))) rfl
theorem wd_247 : (Cond.selects "CloudDepthModel" ⟨"CloudDepthModel", "turnOf", "(IIII)I"⟩ ⟨"CloudDepthModel", "turnOf", "(IIII)I"⟩) ∈ LT := mG (List.mem_append_left _ (List.mem_of_getElem? (i := 49) rfl)) rfl
theorem wd_248 : (Cond.methodLink "CloudDepthModel" (225 : Nat) ({ cls := "CloudDepthModel", name := "has", desc := "(II)Z" } : MethodName)) ∈ LT := mG (List.mem_append_right _ (List.mem_append_right _ (List.mem_append_right _ (List.mem_append_right _ (List.mem_append_right _ (List.mem_append_right _ (List.mem_append_left _ (List.mem_of_getElem? (l := tables_1_6) (i := 157) rfl)))))))) rfl
theorem wd_249 : (Cond.static ({ cls := "CloudDepthModel", name := "has", desc := "(II)Z" } : MethodName)) ∈ LT := mG (List.mem_append_right _ (List.mem_append_right _ (List.mem_append_right _ (List.mem_append_right _ (List.mem_append_right _ (List.mem_append_right _ (List.mem_append_left _ (List.mem_of_getElem? (l := tables_1_6) (i := 158) rfl)))))))) rfl
theorem wd_250 : (Cond.methodLink "CloudDepthModel" (221 : Nat) ({ cls := "CloudDepthModel", name := "sideOf", desc := "(III)I" } : MethodName)) ∈ LT := mG (List.mem_append_right _ (List.mem_append_right _ (List.mem_append_right _ (List.mem_append_right _ (List.mem_append_right _ (List.mem_append_right _ (List.mem_append_left _ (List.mem_of_getElem? (l := tables_1_6) (i := 141) rfl)))))))) rfl
theorem wd_251 : (Cond.instanceMethod ({ cls := "CloudDepthModel", name := "sideOf", desc := "(III)I" } : MethodName)) ∈ LT := mG (List.mem_append_right _ (List.mem_append_right _ (List.mem_append_right _ (List.mem_append_right _ (List.mem_append_right _ (List.mem_append_right _ (List.mem_append_left _ (List.mem_of_getElem? (l := tables_1_6) (i := 143) rfl)))))))) rfl
theorem wd_252 : (Cond.selects "CloudDepthModel" ⟨"CloudDepthModel", "sideOf", "(III)I"⟩ ⟨"CloudDepthModel", "sideOf", "(III)I"⟩) ∈ LT := mG (List.mem_append_left _ (List.mem_of_getElem? (i := 50) rfl)) rfl
theorem wd_253 : (Cond.methodLink "CloudDepthModel" (231 : Nat) ({ cls := "CloudDepthModel", name := "onSide", desc := "(IIII)I" } : MethodName)) ∈ LT := mG (List.mem_append_right _ (List.mem_append_right _ (List.mem_append_right _ (List.mem_append_right _ (List.mem_append_right _ (List.mem_append_right _ (List.mem_append_left _ (List.mem_of_getElem? (l := tables_1_6) (i := 153) rfl)))))))) rfl
theorem wd_254 : (Cond.instanceMethod ({ cls := "CloudDepthModel", name := "onSide", desc := "(IIII)I" } : MethodName)) ∈ LT := mG (List.mem_append_right _ (List.mem_append_right _ (List.mem_append_right _ (List.mem_append_right _ (List.mem_append_right _ (List.mem_append_right _ (List.mem_append_left _ (List.mem_of_getElem? (l := tables_1_6) (i := 155) rfl)))))))) rfl
theorem wd_255 : (Cond.selects "CloudDepthModel" ⟨"CloudDepthModel", "onSide", "(IIII)I"⟩ ⟨"CloudDepthModel", "onSide", "(IIII)I"⟩) ∈ LT := mG (List.mem_append_left _ (List.mem_of_getElem? (i := 52) rfl)) rfl
theorem wd_256 : (Cond.methodLink "CloudDepthModel" (237 : Nat) ({ cls := "CloudDepthModel", name := "isRim", desc := "(II)Z" } : MethodName)) ∈ LT := mG (List.mem_append_right _ (List.mem_append_right _ (List.mem_append_right _ (List.mem_append_right _ (List.mem_append_right _ (List.mem_append_right _ (List.mem_append_left _ (List.mem_of_getElem? (l := tables_1_6) (i := 179) rfl)))))))) rfl
theorem wd_257 : (Cond.instanceMethod ({ cls := "CloudDepthModel", name := "isRim", desc := "(II)Z" } : MethodName)) ∈ LT := mG (List.mem_append_right _ (List.mem_append_right _ (List.mem_append_right _ (List.mem_append_right _ (List.mem_append_right _ (List.mem_append_right _ (List.mem_append_left _ (List.mem_of_getElem? (l := tables_1_6) (i := 181) rfl)))))))) rfl
theorem wd_258 : (Cond.selects "CloudDepthModel" ⟨"CloudDepthModel", "isRim", "(II)Z"⟩ ⟨"CloudDepthModel", "isRim", "(II)Z"⟩) ∈ LT := mG (List.mem_append_left _ (List.mem_of_getElem? (i := 56) rfl)) rfl
theorem wd_259 : (Cond.methodLink "CloudDepthModel" (228 : Nat) ({ cls := "CloudDepthModel", name := "full", desc := "()I" } : MethodName)) ∈ LT := mG (List.mem_append_right _ (List.mem_append_right _ (List.mem_append_right _ (List.mem_append_right _ (List.mem_append_right _ (List.mem_append_right _ (List.mem_append_left _ (List.mem_of_getElem? (l := tables_1_6) (i := 149) rfl)))))))) rfl
theorem wd_260 : (Cond.instanceMethod ({ cls := "CloudDepthModel", name := "full", desc := "()I" } : MethodName)) ∈ LT := mG (List.mem_append_right _ (List.mem_append_right _ (List.mem_append_right _ (List.mem_append_right _ (List.mem_append_right _ (List.mem_append_right _ (List.mem_append_left _ (List.mem_of_getElem? (l := tables_1_6) (i := 151) rfl)))))))) rfl
theorem wd_261 : (Cond.selects "CloudDepthModel" ⟨"CloudDepthModel", "full", "()I"⟩ ⟨"CloudDepthModel", "full", "()I"⟩) ∈ LT := mG (List.mem_append_left _ (List.mem_of_getElem? (i := 51) rfl)) rfl
theorem wd_262 : (Cond.methodLink "CloudDepthModel" (240 : Nat) ({ cls := "CloudDepthModel", name := "hullOf", desc := "(I)I" } : MethodName)) ∈ LT := mG (List.mem_append_right _ (List.mem_append_right _ (List.mem_append_right _ (List.mem_append_right _ (List.mem_append_right _ (List.mem_append_right _ (List.mem_append_left _ (List.mem_of_getElem? (l := tables_1_6) (i := 175) rfl)))))))) rfl
theorem wd_263 : (Cond.instanceMethod ({ cls := "CloudDepthModel", name := "hullOf", desc := "(I)I" } : MethodName)) ∈ LT := mG (List.mem_append_right _ (List.mem_append_right _ (List.mem_append_right _ (List.mem_append_right _ (List.mem_append_right _ (List.mem_append_right _ (List.mem_append_left _ (List.mem_of_getElem? (l := tables_1_6) (i := 177) rfl)))))))) rfl
theorem wd_264 : (Cond.selects "CloudDepthModel" ⟨"CloudDepthModel", "hullOf", "(I)I"⟩ ⟨"CloudDepthModel", "hullOf", "(I)I"⟩) ∈ LT := mG (List.mem_append_left _ (List.mem_of_getElem? (i := 55) rfl)) rfl
theorem wd_265 : (Cond.methodLink "CloudDepthModel" (252 : Nat) ({ cls := "CloudDepthModel", name := "laysLayers", desc := "()I" } : MethodName)) ∈ LT := mG (List.mem_append_right _ (List.mem_append_right _ (List.mem_append_right _ (List.mem_append_right _ (List.mem_append_right _ (List.mem_append_right _ (List.mem_append_left _ (List.mem_of_getElem? (l := tables_1_6) (i := 191) rfl)))))))) rfl
theorem wd_266 : (Cond.instanceMethod ({ cls := "CloudDepthModel", name := "laysLayers", desc := "()I" } : MethodName)) ∈ LT := mG (List.mem_append_right _ (List.mem_append_right _ (List.mem_append_right _ (List.mem_append_right _ (List.mem_append_right _ (List.mem_append_right _ (List.mem_append_left _ (List.mem_of_getElem? (l := tables_1_6) (i := 193) rfl)))))))) rfl
theorem wd_267 : (Cond.selects "CloudDepthModel" ⟨"CloudDepthModel", "laysLayers", "()I"⟩ ⟨"CloudDepthModel", "laysLayers", "()I"⟩) ∈ LT := mG (List.mem_append_left _ (List.mem_of_getElem? (i := 58) rfl)) rfl
theorem wd_268 : (Cond.methodLink "CloudDepthModel" (287 : Nat) ({ cls := "CloudDepthModel", name := "lesser", desc := "(II)I" } : MethodName)) ∈ LT := mG (List.mem_append_right _ (List.mem_append_right _ (List.mem_append_right _ (List.mem_append_right _ (List.mem_append_right _ (List.mem_append_right _ (List.mem_append_right _ (List.mem_of_getElem? (l := tables_1_7) (i := 26) rfl)))))))) rfl
theorem wd_269 : (Cond.static ({ cls := "CloudDepthModel", name := "lesser", desc := "(II)I" } : MethodName)) ∈ LT := mG (List.mem_append_right _ (List.mem_append_right _ (List.mem_append_right _ (List.mem_append_right _ (List.mem_append_right _ (List.mem_append_right _ (List.mem_append_right _ (List.mem_of_getElem? (l := tables_1_7) (i := 27) rfl)))))))) rfl
theorem wd_270 : (Cond.methodLink "CloudDepthModel" (243 : Nat) ({ cls := "CloudDepthModel", name := "isBetween", desc := "(III)Z" } : MethodName)) ∈ LT := mG (List.mem_append_right _ (List.mem_append_right _ (List.mem_append_right _ (List.mem_append_right _ (List.mem_append_right _ (List.mem_append_right _ (List.mem_append_left _ (List.mem_of_getElem? (l := tables_1_6) (i := 183) rfl)))))))) rfl
theorem wd_271 : (Cond.instanceMethod ({ cls := "CloudDepthModel", name := "isBetween", desc := "(III)Z" } : MethodName)) ∈ LT := mG (List.mem_append_right _ (List.mem_append_right _ (List.mem_append_right _ (List.mem_append_right _ (List.mem_append_right _ (List.mem_append_right _ (List.mem_append_left _ (List.mem_of_getElem? (l := tables_1_6) (i := 185) rfl)))))))) rfl
theorem wd_272 : (Cond.selects "CloudDepthModel" ⟨"CloudDepthModel", "isBetween", "(III)Z"⟩ ⟨"CloudDepthModel", "isBetween", "(III)Z"⟩) ∈ LT := mG (List.mem_append_left _ (List.mem_of_getElem? (i := 57) rfl)) rfl
theorem wd_273 : (Cond.methodLink "CloudDepthModel" (308 : Nat) ({ cls := "CloudDepthModel", name := "layerOf", desc := "(I)I" } : MethodName)) ∈ LT := mG (List.mem_append_right _ (List.mem_append_right _ (List.mem_append_right _ (List.mem_append_right _ (List.mem_append_right _ (List.mem_append_right _ (List.mem_append_right _ (List.mem_of_getElem? (l := tables_1_7) (i := 45) rfl)))))))) rfl
theorem wd_274 : (Cond.instanceMethod ({ cls := "CloudDepthModel", name := "layerOf", desc := "(I)I" } : MethodName)) ∈ LT := mG (List.mem_append_right _ (List.mem_append_right _ (List.mem_append_right _ (List.mem_append_right _ (List.mem_append_right _ (List.mem_append_right _ (List.mem_append_right _ (List.mem_of_getElem? (l := tables_1_7) (i := 47) rfl)))))))) rfl
theorem wd_275 : (Cond.selects "CloudDepthModel" ⟨"CloudDepthModel", "layerOf", "(I)I"⟩ ⟨"CloudDepthModel", "layerOf", "(I)I"⟩) ∈ LT := mG (List.mem_append_left _ (List.mem_of_getElem? (i := 68) rfl)) rfl
theorem wd_276 : (Cond.methodLink "CloudDepthModel" (246 : Nat) ({ cls := "CloudDepthModel", name := "cornersOf", desc := "(I)I" } : MethodName)) ∈ LT := mG (List.mem_append_right _ (List.mem_append_right _ (List.mem_append_right _ (List.mem_append_right _ (List.mem_append_right _ (List.mem_append_right _ (List.mem_append_left _ (List.mem_of_getElem? (l := tables_1_6) (i := 171) rfl)))))))) rfl
theorem wd_277 : (Cond.instanceMethod ({ cls := "CloudDepthModel", name := "cornersOf", desc := "(I)I" } : MethodName)) ∈ LT := mG (List.mem_append_right _ (List.mem_append_right _ (List.mem_append_right _ (List.mem_append_right _ (List.mem_append_right _ (List.mem_append_right _ (List.mem_append_left _ (List.mem_of_getElem? (l := tables_1_6) (i := 173) rfl)))))))) rfl
theorem wd_278 : (Cond.selects "CloudDepthModel" ⟨"CloudDepthModel", "cornersOf", "(I)I"⟩ ⟨"CloudDepthModel", "cornersOf", "(I)I"⟩) ∈ LT := mG (List.mem_append_left _ (List.mem_of_getElem? (i := 54) rfl)) rfl
theorem wd_279 : (Cond.methodLink "CloudDepthModel" (305 : Nat) ({ cls := "CloudDepthModel", name := "apart", desc := "(III)I" } : MethodName)) ∈ LT := mG (List.mem_append_right _ (List.mem_append_right _ (List.mem_append_right _ (List.mem_append_right _ (List.mem_append_right _ (List.mem_append_right _ (List.mem_append_right _ (List.mem_of_getElem? (l := tables_1_7) (i := 57) rfl)))))))) rfl
theorem wd_280 : (Cond.instanceMethod ({ cls := "CloudDepthModel", name := "apart", desc := "(III)I" } : MethodName)) ∈ LT := mG (List.mem_append_right _ (List.mem_append_right _ (List.mem_append_right _ (List.mem_append_right _ (List.mem_append_right _ (List.mem_append_right _ (List.mem_append_right _ (List.mem_of_getElem? (l := tables_1_7) (i := 59) rfl)))))))) rfl
theorem wd_281 : (Cond.selects "CloudDepthModel" ⟨"CloudDepthModel", "apart", "(III)I"⟩ ⟨"CloudDepthModel", "apart", "(III)I"⟩) ∈ LT := mG (List.mem_append_left _ (List.mem_of_getElem? (i := 71) rfl)) rfl
theorem wd_282 : (Cond.methodLink "CloudDepthModel" (314 : Nat) ({ cls := "CloudDepthModel", name := "shareOf", desc := "(I)I" } : MethodName)) ∈ LT := mG (List.mem_append_right _ (List.mem_append_right _ (List.mem_append_right _ (List.mem_append_right _ (List.mem_append_right _ (List.mem_append_right _ (List.mem_append_right _ (List.mem_of_getElem? (l := tables_1_7) (i := 53) rfl)))))))) rfl
theorem wd_283 : (Cond.instanceMethod ({ cls := "CloudDepthModel", name := "shareOf", desc := "(I)I" } : MethodName)) ∈ LT := mG (List.mem_append_right _ (List.mem_append_right _ (List.mem_append_right _ (List.mem_append_right _ (List.mem_append_right _ (List.mem_append_right _ (List.mem_append_right _ (List.mem_of_getElem? (l := tables_1_7) (i := 55) rfl)))))))) rfl
theorem wd_284 : (Cond.selects "CloudDepthModel" ⟨"CloudDepthModel", "shareOf", "(I)I"⟩ ⟨"CloudDepthModel", "shareOf", "(I)I"⟩) ∈ LT := mG (List.mem_append_left _ (List.mem_of_getElem? (i := 70) rfl)) rfl
theorem wd_285 : (Cond.methodLink "CloudDepthModel" (311 : Nat) ({ cls := "CloudDepthModel", name := "isLayersCorner", desc := "(I)Z" } : MethodName)) ∈ LT := mG (List.mem_append_right _ (List.mem_append_right _ (List.mem_append_right _ (List.mem_append_right _ (List.mem_append_right _ (List.mem_append_right _ (List.mem_append_right _ (List.mem_of_getElem? (l := tables_1_7) (i := 49) rfl)))))))) rfl
theorem wd_286 : (Cond.instanceMethod ({ cls := "CloudDepthModel", name := "isLayersCorner", desc := "(I)Z" } : MethodName)) ∈ LT := mG (List.mem_append_right _ (List.mem_append_right _ (List.mem_append_right _ (List.mem_append_right _ (List.mem_append_right _ (List.mem_append_right _ (List.mem_append_right _ (List.mem_of_getElem? (l := tables_1_7) (i := 51) rfl)))))))) rfl
theorem wd_287 : (Cond.selects "CloudDepthModel" ⟨"CloudDepthModel", "isLayersCorner", "(I)Z"⟩ ⟨"CloudDepthModel", "isLayersCorner", "(I)Z"⟩) ∈ LT := mG (List.mem_append_left _ (List.mem_of_getElem? (i := 69) rfl)) rfl
theorem wd_288 : (Cond.methodLink "CloudDepthModel" (290 : Nat) ({ cls := "CloudDepthModel", name := "depthOf", desc := "(II)I" } : MethodName)) ∈ LT := mG (List.mem_append_right _ (List.mem_append_right _ (List.mem_append_right _ (List.mem_append_right _ (List.mem_append_right _ (List.mem_append_right _ (List.mem_append_right _ (List.mem_of_getElem? (l := tables_1_7) (i := 22) rfl)))))))) rfl
theorem wd_289 : (Cond.instanceMethod ({ cls := "CloudDepthModel", name := "depthOf", desc := "(II)I" } : MethodName)) ∈ LT := mG (List.mem_append_right _ (List.mem_append_right _ (List.mem_append_right _ (List.mem_append_right _ (List.mem_append_right _ (List.mem_append_right _ (List.mem_append_right _ (List.mem_of_getElem? (l := tables_1_7) (i := 24) rfl)))))))) rfl
theorem wd_290 : (Cond.selects "CloudDepthModel" ⟨"CloudDepthModel", "depthOf", "(II)I"⟩ ⟨"CloudDepthModel", "depthOf", "(II)I"⟩) ∈ LT := mG (List.mem_append_left _ (List.mem_of_getElem? (i := 66) rfl)) rfl
theorem wd_291 : (Cond.methodLink "CloudDepth" (202 : Nat) ({ cls := "CloudDepth$Cloud", name := "turnOf", desc := "(III)I" } : MethodName)) ∈ LT := mG (List.mem_append_right _ (List.mem_append_right _ (List.mem_append_right _ (List.mem_append_left _ (List.mem_of_getElem? (l := tables_1_3) (i := 222) rfl))))) rfl
theorem wd_292 : (Cond.methodLink "CloudDepth" (206 : Nat) ({ cls := "CloudDepth", name := "signOf", desc := "(I)I" } : MethodName)) ∈ LT := mG (List.mem_append_right _ (List.mem_append_right _ (List.mem_append_right _ (List.mem_append_left _ (List.mem_of_getElem? (l := tables_1_3) (i := 223) rfl))))) rfl
theorem wd_293 : (Cond.methodLink "CloudDepth" (209 : Nat) ({ cls := "CloudDepth$Cloud", name := "sideBits", desc := "(III)I" } : MethodName)) ∈ LT := mG (List.mem_append_right _ (List.mem_append_right _ (List.mem_append_right _ (List.mem_append_left _ (List.mem_of_getElem? (l := tables_1_3) (i := 228) rfl))))) rfl
theorem wd_294 : (Cond.methodLink "CloudDepth" (212 : Nat) ({ cls := "java/lang/Integer", name := "bitCount", desc := "(I)I" } : MethodName)) ∈ LT := mG (List.mem_append_right _ (List.mem_append_right _ (List.mem_append_right _ (List.mem_append_left _ (List.mem_of_getElem? (l := tables_1_3) (i := 229) rfl))))) rfl
theorem wd_295 : (Cond.static ({ cls := "java/lang/Integer", name := "bitCount", desc := "(I)I" } : MethodName)) ∈ LT := mG (List.mem_append_right _ (List.mem_append_right _ (List.mem_append_right _ (List.mem_append_left _ (List.mem_of_getElem? (l := tables_1_3) (i := 230) rfl))))) rfl
theorem wd_296 : (Cond.initialized "java/lang/Integer") ∈ LT := mG (List.mem_append_right _ (List.mem_append_left _ (List.mem_of_getElem? (l := tables_1_1) (i := 19) rfl))) rfl
theorem wd_297 : (Cond.methodLink "CloudDepthModel" (234 : Nat) ({ cls := "CloudDepthModel", name := "bitsOf", desc := "(I)I" } : MethodName)) ∈ LT := mG (List.mem_append_right _ (List.mem_append_right _ (List.mem_append_right _ (List.mem_append_right _ (List.mem_append_right _ (List.mem_append_right _ (List.mem_append_left _ (List.mem_of_getElem? (l := tables_1_6) (i := 160) rfl)))))))) rfl
theorem wd_298 : (Cond.static ({ cls := "CloudDepthModel", name := "bitsOf", desc := "(I)I" } : MethodName)) ∈ LT := mG (List.mem_append_right _ (List.mem_append_right _ (List.mem_append_right _ (List.mem_append_right _ (List.mem_append_right _ (List.mem_append_right _ (List.mem_append_left _ (List.mem_of_getElem? (l := tables_1_6) (i := 161) rfl)))))))) rfl
theorem wd_299 : (Cond.methodLink "CloudDepth$Hulls" (36 : Nat) ({ cls := "CloudDepth$Hulls", name := "cornersOf", desc := "(LCloudDepth$Cloud;I)I" } : MethodName)) ∈ LT := mG (List.mem_append_right _ (List.mem_append_right _ (List.mem_append_right _ (List.mem_append_right _ (List.mem_append_left _ (List.mem_of_getElem? (l := tables_1_4) (i := 3) rfl)))))) rfl
theorem wd_300 : (Cond.methodLink "CloudDepth$Hulls" (39 : Nat) ({ cls := "java/lang/Integer", name := "bitCount", desc := "(I)I" } : MethodName)) ∈ LT := mG (List.mem_append_right _ (List.mem_append_right _ (List.mem_append_right _ (List.mem_append_right _ (List.mem_append_left _ (List.mem_of_getElem? (l := tables_1_4) (i := 4) rfl)))))) rfl
theorem wd_301 : (Cond.methodLink "CloudDepth$Hulls" (45 : Nat) ({ cls := "CloudDepth$Hulls", name := "lowestOf", desc := "(LCloudDepth$Cloud;I)I" } : MethodName)) ∈ LT := mG (List.mem_append_right _ (List.mem_append_right _ (List.mem_append_right _ (List.mem_append_right _ (List.mem_append_left _ (List.mem_of_getElem? (l := tables_1_4) (i := 5) rfl)))))) rfl
theorem wd_302 : (Cond.static ({ cls := "CloudDepth$Hulls", name := "lowestOf", desc := "(LCloudDepth$Cloud;I)I" } : MethodName)) ∈ LT := mG (List.mem_append_right _ (List.mem_append_right _ (List.mem_append_right _ (List.mem_append_right _ (List.mem_append_left _ (List.mem_of_getElem? (l := tables_1_4) (i := 6) rfl)))))) rfl
theorem wd_303 : (Cond.methodLink "CloudDepth$Hulls" (51 : Nat) ({ cls := "CloudDepth$Hulls", name := "nextCorner", desc := "(LCloudDepth$Cloud;II)I" } : MethodName)) ∈ LT := mG (List.mem_append_right _ (List.mem_append_right _ (List.mem_append_right _ (List.mem_append_right _ (List.mem_append_left _ (List.mem_of_getElem? (l := tables_1_4) (i := 8) rfl)))))) rfl
theorem wd_304 : (Cond.static ({ cls := "CloudDepth$Hulls", name := "nextCorner", desc := "(LCloudDepth$Cloud;II)I" } : MethodName)) ∈ LT := mG (List.mem_append_right _ (List.mem_append_right _ (List.mem_append_right _ (List.mem_append_right _ (List.mem_append_left _ (List.mem_of_getElem? (l := tables_1_4) (i := 9) rfl)))))) rfl
theorem wd_305 : (Cond.methodLink "CloudDepth" (217 : Nat) ({ cls := "CloudDepth$Hulls", name := "walk", desc := "(LCloudDepth$Cloud;)V" } : MethodName)) ∈ LT := mG (List.mem_append_right _ (List.mem_append_right _ (List.mem_append_right _ (List.mem_append_left _ (List.mem_of_getElem? (l := tables_1_3) (i := 239) rfl))))) rfl
theorem wd_306 : (Cond.instanceMethod ({ cls := "CloudDepth$Hulls", name := "walk", desc := "(LCloudDepth$Cloud;)V" } : MethodName)) ∈ LT := mG (List.mem_append_right _ (List.mem_append_right _ (List.mem_append_right _ (List.mem_append_right _ (List.mem_append_left _ (List.mem_of_getElem? (l := tables_1_4) (i := 0) rfl)))))) rfl
theorem wd_307 : (Cond.selects "CloudDepth$Hulls" ({ cls := "CloudDepth$Hulls", name := "walk", desc := "(LCloudDepth$Cloud;)V" } : MethodName) ({ cls := "CloudDepth$Hulls", name := "walk", desc := "(LCloudDepth$Cloud;)V" } : MethodName)) ∈ LT := mG (List.mem_append_right _ (List.mem_append_right _ (List.mem_append_right _ (List.mem_append_right _ (List.mem_append_left _ (List.mem_of_getElem? (l := tables_1_4) (i := 1) rfl)))))) rfl
theorem wd_308 : (Cond.methodLink "CloudDepth" (223 : Nat) ({ cls := "CloudDepth$Hulls", name := "cornerAt", desc := "(I)I" } : MethodName)) ∈ LT := mG (List.mem_append_right _ (List.mem_append_right _ (List.mem_append_right _ (List.mem_append_right _ (List.mem_append_left _ (List.mem_of_getElem? (l := tables_1_4) (i := 11) rfl)))))) rfl
theorem wd_309 : (Cond.instanceMethod ({ cls := "CloudDepth$Hulls", name := "cornerAt", desc := "(I)I" } : MethodName)) ∈ LT := mG (List.mem_append_right _ (List.mem_append_right _ (List.mem_append_right _ (List.mem_append_right _ (List.mem_append_left _ (List.mem_of_getElem? (l := tables_1_4) (i := 12) rfl)))))) rfl
theorem wd_310 : (Cond.selects "CloudDepth$Hulls" ({ cls := "CloudDepth$Hulls", name := "cornerAt", desc := "(I)I" } : MethodName) ({ cls := "CloudDepth$Hulls", name := "cornerAt", desc := "(I)I" } : MethodName)) ∈ LT := mG (List.mem_append_right _ (List.mem_append_right _ (List.mem_append_right _ (List.mem_append_right _ (List.mem_append_left _ (List.mem_of_getElem? (l := tables_1_4) (i := 13) rfl)))))) rfl
theorem wd_311 : (Cond.methodLink "CloudDepthModel" (249 : Nat) ({ cls := "CloudDepthModel", name := "laysCorners", desc := "()I" } : MethodName)) ∈ LT := mG (List.mem_append_right _ (List.mem_append_right _ (List.mem_append_right _ (List.mem_append_right _ (List.mem_append_right _ (List.mem_append_right _ (List.mem_append_left _ (List.mem_of_getElem? (l := tables_1_6) (i := 167) rfl)))))))) rfl
theorem wd_312 : (Cond.instanceMethod ({ cls := "CloudDepthModel", name := "laysCorners", desc := "()I" } : MethodName)) ∈ LT := mG (List.mem_append_right _ (List.mem_append_right _ (List.mem_append_right _ (List.mem_append_right _ (List.mem_append_right _ (List.mem_append_right _ (List.mem_append_left _ (List.mem_of_getElem? (l := tables_1_6) (i := 169) rfl)))))))) rfl
theorem wd_313 : (Cond.selects "CloudDepthModel" ⟨"CloudDepthModel", "laysCorners", "()I"⟩ ⟨"CloudDepthModel", "laysCorners", "()I"⟩) ∈ LT := mG (List.mem_append_left _ (List.mem_of_getElem? (i := 53) rfl)) rfl
theorem wd_314 : (Cond.methodLink "CloudDepth$Cloud" (62 : Nat) ({ cls := "java/lang/Integer", name := "bitCount", desc := "(I)I" } : MethodName)) ∈ LT := mG (List.mem_append_right _ (List.mem_append_right _ (List.mem_append_right _ (List.mem_append_right _ (List.mem_append_left _ (List.mem_of_getElem? (l := tables_1_4) (i := 32) rfl)))))) rfl
theorem wd_315 : (Cond.methodLink "CloudDepth$Cloud" (67 : Nat) ({ cls := "CloudDepth$Cloud", name := "sideBits", desc := "(III)I" } : MethodName)) ∈ LT := mG (List.mem_append_right _ (List.mem_append_right _ (List.mem_append_right _ (List.mem_append_right _ (List.mem_append_left _ (List.mem_of_getElem? (l := tables_1_4) (i := 33) rfl)))))) rfl
theorem wd_316 : (Cond.methodLink "CloudDepth" (229 : Nat) ({ cls := "CloudDepth$Cloud", name := "everyone", desc := "()I" } : MethodName)) ∈ LT := mG (List.mem_append_right _ (List.mem_append_right _ (List.mem_append_right _ (List.mem_append_right _ (List.mem_append_left _ (List.mem_of_getElem? (l := tables_1_4) (i := 27) rfl)))))) rfl
theorem wd_317 : (Cond.methodLink "CloudDepth" (232 : Nat) ({ cls := "CloudDepth$Cloud", name := "isHalved", desc := "(III)Z" } : MethodName)) ∈ LT := mG (List.mem_append_right _ (List.mem_append_right _ (List.mem_append_right _ (List.mem_append_right _ (List.mem_append_left _ (List.mem_of_getElem? (l := tables_1_4) (i := 28) rfl)))))) rfl
theorem wd_318 : (Cond.instanceMethod ({ cls := "CloudDepth$Cloud", name := "isHalved", desc := "(III)Z" } : MethodName)) ∈ LT := mG (List.mem_append_right _ (List.mem_append_right _ (List.mem_append_right _ (List.mem_append_right _ (List.mem_append_left _ (List.mem_of_getElem? (l := tables_1_4) (i := 29) rfl)))))) rfl
theorem wd_319 : (Cond.selects "CloudDepth$Cloud" ({ cls := "CloudDepth$Cloud", name := "isHalved", desc := "(III)Z" } : MethodName) ({ cls := "CloudDepth$Cloud", name := "isHalved", desc := "(III)Z" } : MethodName)) ∈ LT := mG (List.mem_append_right _ (List.mem_append_right _ (List.mem_append_right _ (List.mem_append_right _ (List.mem_append_left _ (List.mem_of_getElem? (l := tables_1_4) (i := 30) rfl)))))) rfl
theorem wd_320 : (Cond.methodLink "CloudDepthModel" (255 : Nat) ({ cls := "CloudDepthModel", name := "halves", desc := "(III)Z" } : MethodName)) ∈ LT := mG (List.mem_append_right _ (List.mem_append_right _ (List.mem_append_right _ (List.mem_append_right _ (List.mem_append_right _ (List.mem_append_right _ (List.mem_append_left _ (List.mem_of_getElem? (l := tables_1_6) (i := 203) rfl)))))))) rfl
theorem wd_321 : (Cond.instanceMethod ({ cls := "CloudDepthModel", name := "halves", desc := "(III)Z" } : MethodName)) ∈ LT := mG (List.mem_append_right _ (List.mem_append_right _ (List.mem_append_right _ (List.mem_append_right _ (List.mem_append_right _ (List.mem_append_right _ (List.mem_append_left _ (List.mem_of_getElem? (l := tables_1_6) (i := 205) rfl)))))))) rfl
theorem wd_322 : (Cond.selects "CloudDepthModel" ⟨"CloudDepthModel", "halves", "(III)Z"⟩ ⟨"CloudDepthModel", "halves", "(III)Z"⟩) ∈ LT := mG (List.mem_append_left _ (List.mem_of_getElem? (i := 59) rfl)) rfl
theorem wd_323 : (Cond.methodLink "CloudDepth$SetMarks" (13 : Nat) ({ cls := "java/util/Arrays", name := "fill", desc := "([II)V" } : MethodName)) ∈ LT := mG (List.mem_append_right _ (List.mem_append_right _ (List.mem_append_right _ (List.mem_append_right _ (List.mem_append_left _ (List.mem_of_getElem? (l := tables_1_4) (i := 55) rfl)))))) rfl
theorem wd_324 : (Cond.static ({ cls := "java/util/Arrays", name := "fill", desc := "([II)V" } : MethodName)) ∈ LT := mG (List.mem_append_right _ (List.mem_append_right _ (List.mem_append_right _ (List.mem_append_right _ (List.mem_append_left _ (List.mem_of_getElem? (l := tables_1_4) (i := 56) rfl)))))) rfl
theorem wd_325 : (Cond.initialized "java/util/Arrays") ∈ LT := mG (List.mem_append_right _ (List.mem_append_left _ (List.mem_of_getElem? (l := tables_1_1) (i := 20) rfl))) rfl
theorem wd_326 : (Cond.methodLink "CloudDepth$Cuts" (28 : Nat) ({ cls := "CloudDepth$SetMarks", name := "mark", desc := "(I)V" } : MethodName)) ∈ LT := mG (List.mem_append_right _ (List.mem_append_right _ (List.mem_append_right _ (List.mem_append_right _ (List.mem_append_left _ (List.mem_of_getElem? (l := tables_1_4) (i := 58) rfl)))))) rfl
theorem wd_327 : (Cond.instanceMethod ({ cls := "CloudDepth$SetMarks", name := "mark", desc := "(I)V" } : MethodName)) ∈ LT := mG (List.mem_append_right _ (List.mem_append_right _ (List.mem_append_right _ (List.mem_append_right _ (List.mem_append_left _ (List.mem_of_getElem? (l := tables_1_4) (i := 59) rfl)))))) rfl
theorem wd_328 : (Cond.selects "CloudDepth$SetMarks" ({ cls := "CloudDepth$SetMarks", name := "mark", desc := "(I)V" } : MethodName) ({ cls := "CloudDepth$SetMarks", name := "mark", desc := "(I)V" } : MethodName)) ∈ LT := mG (List.mem_append_right _ (List.mem_append_right _ (List.mem_append_right _ (List.mem_append_right _ (List.mem_append_left _ (List.mem_of_getElem? (l := tables_1_4) (i := 60) rfl)))))) rfl
theorem wd_329 : (Cond.initialized "CloudDepth$SetMarks") ∈ LT := mG (List.mem_append_right _ (List.mem_append_left _ (List.mem_of_getElem? (l := tables_1_1) (i := 8) rfl))) rfl
theorem wd_330 : (Cond.methodLink "CloudDepth$Cuts" (59 : Nat) ({ cls := "CloudDepth$Cloud", name := "wayAlong", desc := "(III)I" } : MethodName)) ∈ LT := mG (List.mem_append_right _ (List.mem_append_right _ (List.mem_append_right _ (List.mem_append_right _ (List.mem_append_left _ (List.mem_of_getElem? (l := tables_1_4) (i := 76) rfl)))))) rfl
theorem wd_331 : (Cond.methodLink "CloudDepth$Cuts" (43 : Nat) ({ cls := "CloudDepth$Cloud", name := "sideBits", desc := "(III)I" } : MethodName)) ∈ LT := mG (List.mem_append_right _ (List.mem_append_right _ (List.mem_append_right _ (List.mem_append_right _ (List.mem_append_left _ (List.mem_of_getElem? (l := tables_1_4) (i := 67) rfl)))))) rfl
theorem wd_332 : (Cond.methodLink "CloudDepth$Cuts" (47 : Nat) ({ cls := "CloudDepth$Cuts", name := "markBoth", desc := "(IIII)V" } : MethodName)) ∈ LT := mG (List.mem_append_right _ (List.mem_append_right _ (List.mem_append_right _ (List.mem_append_right _ (List.mem_append_left _ (List.mem_of_getElem? (l := tables_1_4) (i := 68) rfl)))))) rfl
theorem wd_333 : (Cond.instanceMethod ({ cls := "CloudDepth$Cuts", name := "markBoth", desc := "(IIII)V" } : MethodName)) ∈ LT := mG (List.mem_append_right _ (List.mem_append_right _ (List.mem_append_right _ (List.mem_append_right _ (List.mem_append_left _ (List.mem_of_getElem? (l := tables_1_4) (i := 70) rfl)))))) rfl
theorem wd_334 : (Cond.selects "CloudDepth$Cuts" ⟨"CloudDepth$Cuts", "markBoth", "(IIII)V"⟩ ⟨"CloudDepth$Cuts", "markBoth", "(IIII)V"⟩) ∈ LT := mG (List.mem_append_left _ (List.mem_of_getElem? (i := 17) rfl)) rfl
theorem wd_335 : (Cond.initialized "CloudDepth$Cuts") ∈ LT := mG (List.mem_append_right _ (List.mem_append_left _ (List.mem_of_getElem? (l := tables_1_1) (i := 7) rfl))) rfl
theorem wd_336 : (Cond.methodLink "CloudDepth$Cuts" (55 : Nat) ({ cls := "CloudDepth$Cuts", name := "upTo", desc := "(LCloudDepth$Cloud;III)I" } : MethodName)) ∈ LT := mG (List.mem_append_right _ (List.mem_append_right _ (List.mem_append_right _ (List.mem_append_right _ (List.mem_append_left _ (List.mem_of_getElem? (l := tables_1_4) (i := 73) rfl)))))) rfl
theorem wd_337 : (Cond.static ({ cls := "CloudDepth$Cuts", name := "upTo", desc := "(LCloudDepth$Cloud;III)I" } : MethodName)) ∈ LT := mG (List.mem_append_right _ (List.mem_append_right _ (List.mem_append_right _ (List.mem_append_right _ (List.mem_append_left _ (List.mem_of_getElem? (l := tables_1_4) (i := 74) rfl)))))) rfl
theorem wd_338 : (Cond.methodLink "CloudDepth$Cuts" (25 : Nat) ({ cls := "CloudDepth$SetMarks", name := "clear", desc := "()V" } : MethodName)) ∈ LT := mG (List.mem_append_right _ (List.mem_append_right _ (List.mem_append_right _ (List.mem_append_right _ (List.mem_append_left _ (List.mem_of_getElem? (l := tables_1_4) (i := 51) rfl)))))) rfl
theorem wd_339 : (Cond.instanceMethod ({ cls := "CloudDepth$SetMarks", name := "clear", desc := "()V" } : MethodName)) ∈ LT := mG (List.mem_append_right _ (List.mem_append_right _ (List.mem_append_right _ (List.mem_append_right _ (List.mem_append_left _ (List.mem_of_getElem? (l := tables_1_4) (i := 52) rfl)))))) rfl
theorem wd_340 : (Cond.selects "CloudDepth$SetMarks" ({ cls := "CloudDepth$SetMarks", name := "clear", desc := "()V" } : MethodName) ({ cls := "CloudDepth$SetMarks", name := "clear", desc := "()V" } : MethodName)) ∈ LT := mG (List.mem_append_right _ (List.mem_append_right _ (List.mem_append_right _ (List.mem_append_right _ (List.mem_append_left _ (List.mem_of_getElem? (l := tables_1_4) (i := 53) rfl)))))) rfl
theorem wd_341 : (Cond.methodLink "CloudDepth$Cuts" (32 : Nat) ({ cls := "CloudDepth$Cloud", name := "everyone", desc := "()I" } : MethodName)) ∈ LT := mG (List.mem_append_right _ (List.mem_append_right _ (List.mem_append_right _ (List.mem_append_right _ (List.mem_append_left _ (List.mem_of_getElem? (l := tables_1_4) (i := 62) rfl)))))) rfl
theorem wd_342 : (Cond.methodLink "CloudDepth$Cuts" (39 : Nat) ({ cls := "CloudDepth$Cuts", name := "cutAlong", desc := "(LCloudDepth$Cloud;II)V" } : MethodName)) ∈ LT := mG (List.mem_append_right _ (List.mem_append_right _ (List.mem_append_right _ (List.mem_append_right _ (List.mem_append_left _ (List.mem_of_getElem? (l := tables_1_4) (i := 63) rfl)))))) rfl
theorem wd_343 : (Cond.instanceMethod ({ cls := "CloudDepth$Cuts", name := "cutAlong", desc := "(LCloudDepth$Cloud;II)V" } : MethodName)) ∈ LT := mG (List.mem_append_right _ (List.mem_append_right _ (List.mem_append_right _ (List.mem_append_right _ (List.mem_append_left _ (List.mem_of_getElem? (l := tables_1_4) (i := 65) rfl)))))) rfl
theorem wd_344 : (Cond.selects "CloudDepth$Cuts" ⟨"CloudDepth$Cuts", "cutAlong", "(LCloudDepth$Cloud;II)V"⟩ ⟨"CloudDepth$Cuts", "cutAlong", "(LCloudDepth$Cloud;II)V"⟩) ∈ LT := mG (List.mem_append_left _ (List.mem_of_getElem? (i := 16) rfl)) rfl
theorem wd_345 : (Cond.methodLink "CloudDepth$Cuts" (62 : Nat) ({ cls := "java/lang/Integer", name := "bitCount", desc := "(I)I" } : MethodName)) ∈ LT := mG (List.mem_append_right _ (List.mem_append_right _ (List.mem_append_right _ (List.mem_append_right _ (List.mem_append_left _ (List.mem_of_getElem? (l := tables_1_4) (i := 81) rfl)))))) rfl
theorem wd_346 : (Cond.methodLink "CloudDepth$Cuts" (68 : Nat) ({ cls := "CloudDepth$SetMarks", name := "isMarked", desc := "(I)Z" } : MethodName)) ∈ LT := mG (List.mem_append_right _ (List.mem_append_right _ (List.mem_append_right _ (List.mem_append_right _ (List.mem_append_left _ (List.mem_of_getElem? (l := tables_1_4) (i := 82) rfl)))))) rfl
theorem wd_347 : (Cond.instanceMethod ({ cls := "CloudDepth$SetMarks", name := "isMarked", desc := "(I)Z" } : MethodName)) ∈ LT := mG (List.mem_append_right _ (List.mem_append_right _ (List.mem_append_right _ (List.mem_append_right _ (List.mem_append_left _ (List.mem_of_getElem? (l := tables_1_4) (i := 83) rfl)))))) rfl
theorem wd_348 : (Cond.selects "CloudDepth$SetMarks" ({ cls := "CloudDepth$SetMarks", name := "isMarked", desc := "(I)Z" } : MethodName) ({ cls := "CloudDepth$SetMarks", name := "isMarked", desc := "(I)Z" } : MethodName)) ∈ LT := mG (List.mem_append_right _ (List.mem_append_right _ (List.mem_append_right _ (List.mem_append_right _ (List.mem_append_left _ (List.mem_of_getElem? (l := tables_1_4) (i := 84) rfl)))))) rfl
theorem wd_349 : (Cond.methodLink "CloudDepth" (239 : Nat) ({ cls := "CloudDepth$Cuts", name := "find", desc := "(LCloudDepth$Cloud;)V" } : MethodName)) ∈ LT := mG (List.mem_append_right _ (List.mem_append_right _ (List.mem_append_right _ (List.mem_append_right _ (List.mem_append_left _ (List.mem_of_getElem? (l := tables_1_4) (i := 47) rfl)))))) rfl
theorem wd_350 : (Cond.instanceMethod ({ cls := "CloudDepth$Cuts", name := "find", desc := "(LCloudDepth$Cloud;)V" } : MethodName)) ∈ LT := mG (List.mem_append_right _ (List.mem_append_right _ (List.mem_append_right _ (List.mem_append_right _ (List.mem_append_left _ (List.mem_of_getElem? (l := tables_1_4) (i := 48) rfl)))))) rfl
theorem wd_351 : (Cond.selects "CloudDepth$Cuts" ({ cls := "CloudDepth$Cuts", name := "find", desc := "(LCloudDepth$Cloud;)V" } : MethodName) ({ cls := "CloudDepth$Cuts", name := "find", desc := "(LCloudDepth$Cloud;)V" } : MethodName)) ∈ LT := mG (List.mem_append_right _ (List.mem_append_right _ (List.mem_append_right _ (List.mem_append_right _ (List.mem_append_left _ (List.mem_of_getElem? (l := tables_1_4) (i := 49) rfl)))))) rfl
theorem wd_352 : (Cond.methodLink "CloudDepth" (242 : Nat) ({ cls := "CloudDepth$Cuts", name := "countOfSize", desc := "(LCloudDepth$Cloud;I)I" } : MethodName)) ∈ LT := mG (List.mem_append_right _ (List.mem_append_right _ (List.mem_append_right _ (List.mem_append_right _ (List.mem_append_left _ (List.mem_of_getElem? (l := tables_1_4) (i := 77) rfl)))))) rfl
theorem wd_353 : (Cond.instanceMethod ({ cls := "CloudDepth$Cuts", name := "countOfSize", desc := "(LCloudDepth$Cloud;I)I" } : MethodName)) ∈ LT := mG (List.mem_append_right _ (List.mem_append_right _ (List.mem_append_right _ (List.mem_append_right _ (List.mem_append_left _ (List.mem_of_getElem? (l := tables_1_4) (i := 78) rfl)))))) rfl
theorem wd_354 : (Cond.selects "CloudDepth$Cuts" ({ cls := "CloudDepth$Cuts", name := "countOfSize", desc := "(LCloudDepth$Cloud;I)I" } : MethodName) ({ cls := "CloudDepth$Cuts", name := "countOfSize", desc := "(LCloudDepth$Cloud;I)I" } : MethodName)) ∈ LT := mG (List.mem_append_right _ (List.mem_append_right _ (List.mem_append_right _ (List.mem_append_right _ (List.mem_append_left _ (List.mem_of_getElem? (l := tables_1_4) (i := 79) rfl)))))) rfl
theorem wd_355 : (Cond.methodLink "CloudDepthModel" (268 : Nat) ({ cls := "CloudDepthModel", name := "areAcross", desc := "(IIII)Z" } : MethodName)) ∈ LT := mG (List.mem_append_right _ (List.mem_append_right _ (List.mem_append_right _ (List.mem_append_right _ (List.mem_append_right _ (List.mem_append_right _ (List.mem_append_left _ (List.mem_of_getElem? (l := tables_1_6) (i := 227) rfl)))))))) rfl
theorem wd_356 : (Cond.instanceMethod ({ cls := "CloudDepthModel", name := "areAcross", desc := "(IIII)Z" } : MethodName)) ∈ LT := mG (List.mem_append_right _ (List.mem_append_right _ (List.mem_append_right _ (List.mem_append_right _ (List.mem_append_right _ (List.mem_append_right _ (List.mem_append_left _ (List.mem_of_getElem? (l := tables_1_6) (i := 229) rfl)))))))) rfl
theorem wd_357 : (Cond.selects "CloudDepthModel" ⟨"CloudDepthModel", "areAcross", "(IIII)Z"⟩ ⟨"CloudDepthModel", "areAcross", "(IIII)Z"⟩) ∈ LT := mG (List.mem_append_left _ (List.mem_of_getElem? (i := 63) rfl)) rfl
theorem wd_358 : (Cond.methodLink "CloudDepthModel" (261 : Nat) ({ cls := "CloudDepthModel", name := "meets", desc := "(II)V" } : MethodName)) ∈ LT := mG (List.mem_append_right _ (List.mem_append_right _ (List.mem_append_right _ (List.mem_append_right _ (List.mem_append_right _ (List.mem_append_right _ (List.mem_append_left _ (List.mem_of_getElem? (l := tables_1_6) (i := 219) rfl)))))))) rfl
theorem wd_359 : (Cond.instanceMethod ({ cls := "CloudDepthModel", name := "meets", desc := "(II)V" } : MethodName)) ∈ LT := mG (List.mem_append_right _ (List.mem_append_right _ (List.mem_append_right _ (List.mem_append_right _ (List.mem_append_right _ (List.mem_append_right _ (List.mem_append_left _ (List.mem_of_getElem? (l := tables_1_6) (i := 221) rfl)))))))) rfl
theorem wd_360 : (Cond.selects "CloudDepthModel" ⟨"CloudDepthModel", "meets", "(II)V"⟩ ⟨"CloudDepthModel", "meets", "(II)V"⟩) ∈ LT := mG (List.mem_append_left _ (List.mem_of_getElem? (i := 61) rfl)) rfl
theorem wd_361 : (Cond.methodLink "CloudDepthModel" (264 : Nat) ({ cls := "CloudDepthModel", name := "isWithin", desc := "(IIII)Z" } : MethodName)) ∈ LT := mG (List.mem_append_right _ (List.mem_append_right _ (List.mem_append_right _ (List.mem_append_right _ (List.mem_append_right _ (List.mem_append_right _ (List.mem_append_left _ (List.mem_of_getElem? (l := tables_1_6) (i := 223) rfl)))))))) rfl
theorem wd_362 : (Cond.instanceMethod ({ cls := "CloudDepthModel", name := "isWithin", desc := "(IIII)Z" } : MethodName)) ∈ LT := mG (List.mem_append_right _ (List.mem_append_right _ (List.mem_append_right _ (List.mem_append_right _ (List.mem_append_right _ (List.mem_append_right _ (List.mem_append_left _ (List.mem_of_getElem? (l := tables_1_6) (i := 225) rfl)))))))) rfl
theorem wd_363 : (Cond.selects "CloudDepthModel" ⟨"CloudDepthModel", "isWithin", "(IIII)Z"⟩ ⟨"CloudDepthModel", "isWithin", "(IIII)Z"⟩) ∈ LT := mG (List.mem_append_left _ (List.mem_of_getElem? (i := 62) rfl)) rfl
theorem wd_364 : (Cond.methodLink "CloudDepthModel" (271 : Nat) ({ cls := "CloudDepthModel", name := "laysMeetings", desc := "()V" } : MethodName)) ∈ LT := mG (List.mem_append_right _ (List.mem_append_right _ (List.mem_append_right _ (List.mem_append_right _ (List.mem_append_right _ (List.mem_append_right _ (List.mem_append_left _ (List.mem_of_getElem? (l := tables_1_6) (i := 215) rfl)))))))) rfl
theorem wd_365 : (Cond.instanceMethod ({ cls := "CloudDepthModel", name := "laysMeetings", desc := "()V" } : MethodName)) ∈ LT := mG (List.mem_append_right _ (List.mem_append_right _ (List.mem_append_right _ (List.mem_append_right _ (List.mem_append_right _ (List.mem_append_right _ (List.mem_append_left _ (List.mem_of_getElem? (l := tables_1_6) (i := 217) rfl)))))))) rfl
theorem wd_366 : (Cond.selects "CloudDepthModel" ⟨"CloudDepthModel", "laysMeetings", "()V"⟩ ⟨"CloudDepthModel", "laysMeetings", "()V"⟩) ∈ LT := mG (List.mem_append_left _ (List.mem_of_getElem? (i := 60) rfl)) rfl
theorem wd_367 : (Cond.methodLink "CloudDepthModel" (274 : Nat) ({ cls := "CloudDepthModel", name := "areParted", desc := "(I)Z" } : MethodName)) ∈ LT := mG (List.mem_append_right _ (List.mem_append_right _ (List.mem_append_right _ (List.mem_append_right _ (List.mem_append_right _ (List.mem_append_right _ (List.mem_append_left _ (List.mem_of_getElem? (l := tables_1_6) (i := 231) rfl)))))))) rfl
theorem wd_368 : (Cond.instanceMethod ({ cls := "CloudDepthModel", name := "areParted", desc := "(I)Z" } : MethodName)) ∈ LT := mG (List.mem_append_right _ (List.mem_append_right _ (List.mem_append_right _ (List.mem_append_right _ (List.mem_append_right _ (List.mem_append_right _ (List.mem_append_left _ (List.mem_of_getElem? (l := tables_1_6) (i := 233) rfl)))))))) rfl
theorem wd_369 : (Cond.selects "CloudDepthModel" ⟨"CloudDepthModel", "areParted", "(I)Z"⟩ ⟨"CloudDepthModel", "areParted", "(I)Z"⟩) ∈ LT := mG (List.mem_append_left _ (List.mem_of_getElem? (i := 64) rfl)) rfl
theorem wd_370 : (Cond.methodLink "CloudDepth$Cloud" (25 : Nat) ({ cls := "CloudDepth$Cloud", name := "everyone", desc := "()I" } : MethodName)) ∈ LT := mG (List.mem_append_right _ (List.mem_append_right _ (List.mem_append_right _ (List.mem_append_right _ (List.mem_append_left _ (List.mem_of_getElem? (l := tables_1_4) (i := 42) rfl)))))) rfl
theorem wd_371 : (Cond.methodLink "CloudDepth" (236 : Nat) ({ cls := "CloudDepth$Cloud", name := "hasSet", desc := "(I)Z" } : MethodName)) ∈ LT := mG (List.mem_append_right _ (List.mem_append_right _ (List.mem_append_right _ (List.mem_append_right _ (List.mem_append_left _ (List.mem_of_getElem? (l := tables_1_4) (i := 38) rfl)))))) rfl
theorem wd_372 : (Cond.instanceMethod ({ cls := "CloudDepth$Cloud", name := "hasSet", desc := "(I)Z" } : MethodName)) ∈ LT := mG (List.mem_append_right _ (List.mem_append_right _ (List.mem_append_right _ (List.mem_append_right _ (List.mem_append_left _ (List.mem_of_getElem? (l := tables_1_4) (i := 39) rfl)))))) rfl
theorem wd_373 : (Cond.selects "CloudDepth$Cloud" ({ cls := "CloudDepth$Cloud", name := "hasSet", desc := "(I)Z" } : MethodName) ({ cls := "CloudDepth$Cloud", name := "hasSet", desc := "(I)Z" } : MethodName)) ∈ LT := mG (List.mem_append_right _ (List.mem_append_right _ (List.mem_append_right _ (List.mem_append_right _ (List.mem_append_left _ (List.mem_of_getElem? (l := tables_1_4) (i := 40) rfl)))))) rfl
theorem wd_374 : (Cond.methodLink "CloudDepth" (249 : Nat) ({ cls := "CloudDepth$SetMarks", name := "isMarked", desc := "(I)Z" } : MethodName)) ∈ LT := mG (List.mem_append_right _ (List.mem_append_right _ (List.mem_append_right _ (List.mem_append_right _ (List.mem_append_left _ (List.mem_of_getElem? (l := tables_1_4) (i := 90) rfl)))))) rfl
theorem wd_375 : (Cond.methodLink "CloudDepth" (258 : Nat) ({ cls := "CloudDepth", name := "isPlace", desc := "(II)Z" } : MethodName)) ∈ LT := mG (List.mem_append_right _ (List.mem_append_right _ (List.mem_append_right _ (List.mem_append_right _ (List.mem_append_left _ (List.mem_of_getElem? (l := tables_1_4) (i := 103) rfl)))))) rfl
theorem wd_376 : (Cond.static ({ cls := "CloudDepth", name := "isPlace", desc := "(II)Z" } : MethodName)) ∈ LT := mG (List.mem_append_right _ (List.mem_append_right _ (List.mem_append_right _ (List.mem_append_right _ (List.mem_append_left _ (List.mem_of_getElem? (l := tables_1_4) (i := 104) rfl)))))) rfl
theorem wd_377 : (Cond.methodLink "CloudDepth$Depths" (56 : Nat) ({ cls := "CloudDepth$Depths", name := "depthAt", desc := "(LCloudDepth$Cloud;II)I" } : MethodName)) ∈ LT := mG (List.mem_append_right _ (List.mem_append_right _ (List.mem_append_right _ (List.mem_append_right _ (List.mem_append_left _ (List.mem_of_getElem? (l := tables_1_4) (i := 114) rfl)))))) rfl
theorem wd_378 : (Cond.methodLink "CloudDepth$Depths" (60 : Nat) ({ cls := "CloudDepth$Depths", name := "noteDepth", desc := "(III)V" } : MethodName)) ∈ LT := mG (List.mem_append_right _ (List.mem_append_right _ (List.mem_append_right _ (List.mem_append_right _ (List.mem_append_left _ (List.mem_of_getElem? (l := tables_1_4) (i := 115) rfl)))))) rfl
theorem wd_379 : (Cond.instanceMethod ({ cls := "CloudDepth$Depths", name := "noteDepth", desc := "(III)V" } : MethodName)) ∈ LT := mG (List.mem_append_right _ (List.mem_append_right _ (List.mem_append_right _ (List.mem_append_right _ (List.mem_append_left _ (List.mem_of_getElem? (l := tables_1_4) (i := 117) rfl)))))) rfl
theorem wd_380 : (Cond.selects "CloudDepth$Depths" ⟨"CloudDepth$Depths", "noteDepth", "(III)V"⟩ ⟨"CloudDepth$Depths", "noteDepth", "(III)V"⟩) ∈ LT := mG (List.mem_append_left _ (List.mem_of_getElem? (i := 18) rfl)) rfl
theorem wd_381 : (Cond.methodLink "CloudDepth" (261 : Nat) ({ cls := "CloudDepth$Depths", name := "survey", desc := "(LCloudDepth$Cloud;)V" } : MethodName)) ∈ LT := mG (List.mem_append_right _ (List.mem_append_right _ (List.mem_append_right _ (List.mem_append_right _ (List.mem_append_left _ (List.mem_of_getElem? (l := tables_1_4) (i := 110) rfl)))))) rfl
theorem wd_382 : (Cond.instanceMethod ({ cls := "CloudDepth$Depths", name := "survey", desc := "(LCloudDepth$Cloud;)V" } : MethodName)) ∈ LT := mG (List.mem_append_right _ (List.mem_append_right _ (List.mem_append_right _ (List.mem_append_right _ (List.mem_append_left _ (List.mem_of_getElem? (l := tables_1_4) (i := 111) rfl)))))) rfl
theorem wd_383 : (Cond.selects "CloudDepth$Depths" ({ cls := "CloudDepth$Depths", name := "survey", desc := "(LCloudDepth$Cloud;)V" } : MethodName) ({ cls := "CloudDepth$Depths", name := "survey", desc := "(LCloudDepth$Cloud;)V" } : MethodName)) ∈ LT := mG (List.mem_append_right _ (List.mem_append_right _ (List.mem_append_right _ (List.mem_append_right _ (List.mem_append_left _ (List.mem_of_getElem? (l := tables_1_4) (i := 112) rfl)))))) rfl
theorem wd_384 : (Cond.methodLink "CloudDepthModel" (302 : Nat) ({ cls := "CloudDepthModel", name := "deepestOf", desc := "()I" } : MethodName)) ∈ LT := mG (List.mem_append_right _ (List.mem_append_right _ (List.mem_append_right _ (List.mem_append_right _ (List.mem_append_right _ (List.mem_append_right _ (List.mem_append_right _ (List.mem_of_getElem? (l := tables_1_7) (i := 33) rfl)))))))) rfl
theorem wd_385 : (Cond.instanceMethod ({ cls := "CloudDepthModel", name := "deepestOf", desc := "()I" } : MethodName)) ∈ LT := mG (List.mem_append_right _ (List.mem_append_right _ (List.mem_append_right _ (List.mem_append_right _ (List.mem_append_right _ (List.mem_append_right _ (List.mem_append_right _ (List.mem_of_getElem? (l := tables_1_7) (i := 35) rfl)))))))) rfl
theorem wd_386 : (Cond.selects "CloudDepthModel" ⟨"CloudDepthModel", "deepestOf", "()I"⟩ ⟨"CloudDepthModel", "deepestOf", "()I"⟩) ∈ LT := mG (List.mem_append_left _ (List.mem_of_getElem? (i := 67) rfl)) rfl
theorem wd_387 : (Cond.methodLink "CloudDepth$Depths" (64 : Nat) ({ cls := "java/lang/Math", name := "max", desc := "(II)I" } : MethodName)) ∈ LT := mG (List.mem_append_right _ (List.mem_append_right _ (List.mem_append_right _ (List.mem_append_right _ (List.mem_append_left _ (List.mem_of_getElem? (l := tables_1_4) (i := 127) rfl)))))) rfl
theorem wd_388 : (Cond.methodLink "CloudDepth" (276 : Nat) ({ cls := "CloudDepth$Depths", name := "bound", desc := "(LCloudDepth$Cloud;I)V" } : MethodName)) ∈ LT := mG (List.mem_append_right _ (List.mem_append_right _ (List.mem_append_right _ (List.mem_append_right _ (List.mem_append_left _ (List.mem_of_getElem? (l := tables_1_4) (i := 123) rfl)))))) rfl
theorem wd_389 : (Cond.instanceMethod ({ cls := "CloudDepth$Depths", name := "bound", desc := "(LCloudDepth$Cloud;I)V" } : MethodName)) ∈ LT := mG (List.mem_append_right _ (List.mem_append_right _ (List.mem_append_right _ (List.mem_append_right _ (List.mem_append_left _ (List.mem_of_getElem? (l := tables_1_4) (i := 124) rfl)))))) rfl
theorem wd_390 : (Cond.selects "CloudDepth$Depths" ({ cls := "CloudDepth$Depths", name := "bound", desc := "(LCloudDepth$Cloud;I)V" } : MethodName) ({ cls := "CloudDepth$Depths", name := "bound", desc := "(LCloudDepth$Cloud;I)V" } : MethodName)) ∈ LT := mG (List.mem_append_right _ (List.mem_append_right _ (List.mem_append_right _ (List.mem_append_right _ (List.mem_append_left _ (List.mem_of_getElem? (l := tables_1_4) (i := 125) rfl)))))) rfl
theorem wd_391 : (Cond.methodLink "CloudDepth$Shapes" (59 : Nat) ({ cls := "java/lang/Integer", name := "bitCount", desc := "(I)I" } : MethodName)) ∈ LT := mG (List.mem_append_right _ (List.mem_append_right _ (List.mem_append_right _ (List.mem_append_right _ (List.mem_append_left _ (List.mem_of_getElem? (l := tables_1_4) (i := 151) rfl)))))) rfl
theorem wd_392 : (Cond.methodLink "CloudDepth$Shapes" (47 : Nat) ({ cls := "CloudDepth$Shapes", name := "leastOf", desc := "(I)I" } : MethodName)) ∈ LT := mG (List.mem_append_right _ (List.mem_append_right _ (List.mem_append_right _ (List.mem_append_right _ (List.mem_append_left _ (List.mem_of_getElem? (l := tables_1_4) (i := 148) rfl)))))) rfl
theorem wd_393 : (Cond.static ({ cls := "CloudDepth$Shapes", name := "leastOf", desc := "(I)I" } : MethodName)) ∈ LT := mG (List.mem_append_right _ (List.mem_append_right _ (List.mem_append_right _ (List.mem_append_right _ (List.mem_append_left _ (List.mem_of_getElem? (l := tables_1_4) (i := 149) rfl)))))) rfl
theorem wd_394 : (Cond.methodLink "CloudDepth$Shapes" (51 : Nat) ({ cls := "CloudDepth$Cloud", name := "has", desc := "(I)Z" } : MethodName)) ∈ LT := mG (List.mem_append_right _ (List.mem_append_right _ (List.mem_append_right _ (List.mem_append_right _ (List.mem_append_left _ (List.mem_of_getElem? (l := tables_1_4) (i := 152) rfl)))))) rfl
theorem wd_395 : (Cond.methodLink "CloudDepth$Shapes" (55 : Nat) ({ cls := "CloudDepth$Cloud", name := "turnAt", desc := "(IIII)I" } : MethodName)) ∈ LT := mG (List.mem_append_right _ (List.mem_append_right _ (List.mem_append_right _ (List.mem_append_right _ (List.mem_append_left _ (List.mem_of_getElem? (l := tables_1_4) (i := 153) rfl)))))) rfl
theorem wd_396 : (Cond.methodLink "CloudDepth$Shapes" (24 : Nat) ({ cls := "CloudDepth$Cloud", name := "turnOf", desc := "(III)I" } : MethodName)) ∈ LT := mG (List.mem_append_right _ (List.mem_append_right _ (List.mem_append_right _ (List.mem_append_right _ (List.mem_append_left _ (List.mem_of_getElem? (l := tables_1_4) (i := 144) rfl)))))) rfl
theorem wd_397 : (Cond.methodLink "CloudDepth$Shapes" (28 : Nat) ({ cls := "CloudDepth$Shapes", name := "covers", desc := "(LCloudDepth$Cloud;III)Z" } : MethodName)) ∈ LT := mG (List.mem_append_right _ (List.mem_append_right _ (List.mem_append_right _ (List.mem_append_right _ (List.mem_append_left _ (List.mem_of_getElem? (l := tables_1_4) (i := 145) rfl)))))) rfl
theorem wd_398 : (Cond.static ({ cls := "CloudDepth$Shapes", name := "covers", desc := "(LCloudDepth$Cloud;III)Z" } : MethodName)) ∈ LT := mG (List.mem_append_right _ (List.mem_append_right _ (List.mem_append_right _ (List.mem_append_right _ (List.mem_append_left _ (List.mem_of_getElem? (l := tables_1_4) (i := 146) rfl)))))) rfl
theorem wd_399 : (Cond.methodLink "CloudDepth" (298 : Nat) ({ cls := "CloudDepth$Shapes", name := "trianglesAbout", desc := "(LCloudDepth$Cloud;II)I" } : MethodName)) ∈ LT := mG (List.mem_append_right _ (List.mem_append_right _ (List.mem_append_right _ (List.mem_append_right _ (List.mem_append_left _ (List.mem_of_getElem? (l := tables_1_4) (i := 140) rfl)))))) rfl
theorem wd_400 : (Cond.instanceMethod ({ cls := "CloudDepth$Shapes", name := "trianglesAbout", desc := "(LCloudDepth$Cloud;II)I" } : MethodName)) ∈ LT := mG (List.mem_append_right _ (List.mem_append_right _ (List.mem_append_right _ (List.mem_append_right _ (List.mem_append_left _ (List.mem_of_getElem? (l := tables_1_4) (i := 141) rfl)))))) rfl
theorem wd_401 : (Cond.selects "CloudDepth$Shapes" ({ cls := "CloudDepth$Shapes", name := "trianglesAbout", desc := "(LCloudDepth$Cloud;II)I" } : MethodName) ({ cls := "CloudDepth$Shapes", name := "trianglesAbout", desc := "(LCloudDepth$Cloud;II)I" } : MethodName)) ∈ LT := mG (List.mem_append_right _ (List.mem_append_right _ (List.mem_append_right _ (List.mem_append_right _ (List.mem_append_left _ (List.mem_of_getElem? (l := tables_1_4) (i := 142) rfl)))))) rfl
theorem wd_402 : (Cond.methodLink "CloudDepthModel" (280 : Nat) ({ cls := "CloudDepthModel", name := "isInside", desc := "(IIIII)Z" } : MethodName)) ∈ LT := mG (List.mem_append_right _ (List.mem_append_right _ (List.mem_append_right _ (List.mem_append_right _ (List.mem_append_right _ (List.mem_append_right _ (List.mem_append_right _ (List.mem_of_getElem? (l := tables_1_7) (i := 14) rfl)))))))) rfl
theorem wd_403 : (Cond.instanceMethod ({ cls := "CloudDepthModel", name := "isInside", desc := "(IIIII)Z" } : MethodName)) ∈ LT := mG (List.mem_append_right _ (List.mem_append_right _ (List.mem_append_right _ (List.mem_append_right _ (List.mem_append_right _ (List.mem_append_right _ (List.mem_append_right _ (List.mem_of_getElem? (l := tables_1_7) (i := 16) rfl)))))))) rfl
theorem wd_404 : (Cond.selects "CloudDepthModel" ⟨"CloudDepthModel", "isInside", "(IIIII)Z"⟩ ⟨"CloudDepthModel", "isInside", "(IIIII)Z"⟩) ∈ LT := mG (List.mem_append_left _ (List.mem_of_getElem? (i := 65) rfl)) rfl
theorem wd_405 : (Cond.methodLink "CloudDepth$Lines" (21 : Nat) ({ cls := "CloudDepth$Lines", name := "rankOf", desc := "(LCloudDepth$Cloud;IIII)I" } : MethodName)) ∈ LT := mG (List.mem_append_right _ (List.mem_append_right _ (List.mem_append_right _ (List.mem_append_right _ (List.mem_append_left _ (List.mem_of_getElem? (l := tables_1_4) (i := 193) rfl)))))) rfl
theorem wd_406 : (Cond.static ({ cls := "CloudDepth$Lines", name := "rankOf", desc := "(LCloudDepth$Cloud;IIII)I" } : MethodName)) ∈ LT := mG (List.mem_append_right _ (List.mem_append_right _ (List.mem_append_right _ (List.mem_append_right _ (List.mem_append_left _ (List.mem_of_getElem? (l := tables_1_4) (i := 194) rfl)))))) rfl
theorem wd_407 : (Cond.initialized "CloudDepth$Lines") ∈ LT := mG (List.mem_append_right _ (List.mem_append_left _ (List.mem_of_getElem? (l := tables_1_1) (i := 9) rfl))) rfl
theorem wd_408 : (Cond.methodLink "CloudDepth" (307 : Nat) ({ cls := "CloudDepth$Lines", name := "lineAt", desc := "(LCloudDepth$Cloud;IIII)I" } : MethodName)) ∈ LT := mG (List.mem_append_right _ (List.mem_append_right _ (List.mem_append_right _ (List.mem_append_right _ (List.mem_append_left _ (List.mem_of_getElem? (l := tables_1_4) (i := 190) rfl)))))) rfl
theorem wd_409 : (Cond.static ({ cls := "CloudDepth$Lines", name := "lineAt", desc := "(LCloudDepth$Cloud;IIII)I" } : MethodName)) ∈ LT := mG (List.mem_append_right _ (List.mem_append_right _ (List.mem_append_right _ (List.mem_append_right _ (List.mem_append_left _ (List.mem_of_getElem? (l := tables_1_4) (i := 191) rfl)))))) rfl
theorem wd_410 : (Cond.methodLink "CloudDepthModel" (320 : Nat) ({ cls := "CloudDepthModel", name := "valueAt", desc := "(III)I" } : MethodName)) ∈ LT := mG (List.mem_append_right _ (List.mem_append_right _ (List.mem_append_right _ (List.mem_append_right _ (List.mem_append_right _ (List.mem_append_right _ (List.mem_append_right _ (List.mem_of_getElem? (l := tables_1_7) (i := 81) rfl)))))))) rfl
theorem wd_411 : (Cond.instanceMethod ({ cls := "CloudDepthModel", name := "valueAt", desc := "(III)I" } : MethodName)) ∈ LT := mG (List.mem_append_right _ (List.mem_append_right _ (List.mem_append_right _ (List.mem_append_right _ (List.mem_append_right _ (List.mem_append_right _ (List.mem_append_right _ (List.mem_of_getElem? (l := tables_1_7) (i := 83) rfl)))))))) rfl
theorem wd_412 : (Cond.selects "CloudDepthModel" ⟨"CloudDepthModel", "valueAt", "(III)I"⟩ ⟨"CloudDepthModel", "valueAt", "(III)I"⟩) ∈ LT := mG (List.mem_append_left _ (List.mem_of_getElem? (i := 74) rfl)) rfl
theorem wd_413 : (Cond.methodLink "CloudDepthModel" (323 : Nat) ({ cls := "CloudDepthModel", name := "lineAt", desc := "(IIIZ)I" } : MethodName)) ∈ LT := mG (List.mem_append_right _ (List.mem_append_right _ (List.mem_append_right _ (List.mem_append_right _ (List.mem_append_right _ (List.mem_append_right _ (List.mem_append_right _ (List.mem_of_getElem? (l := tables_1_7) (i := 77) rfl)))))))) rfl
theorem wd_414 : (Cond.instanceMethod ({ cls := "CloudDepthModel", name := "lineAt", desc := "(IIIZ)I" } : MethodName)) ∈ LT := mG (List.mem_append_right _ (List.mem_append_right _ (List.mem_append_right _ (List.mem_append_right _ (List.mem_append_right _ (List.mem_append_right _ (List.mem_append_right _ (List.mem_of_getElem? (l := tables_1_7) (i := 79) rfl)))))))) rfl
theorem wd_415 : (Cond.selects "CloudDepthModel" ⟨"CloudDepthModel", "lineAt", "(IIIZ)I"⟩ ⟨"CloudDepthModel", "lineAt", "(IIIZ)I"⟩) ∈ LT := mG (List.mem_append_left _ (List.mem_of_getElem? (i := 73) rfl)) rfl
theorem wd_416 : (Cond.methodLink "CloudDepth$Lines" (55 : Nat) ({ cls := "CloudDepth$Lines", name := "lesser", desc := "(I)I" } : MethodName)) ∈ LT := mG (List.mem_append_right _ (List.mem_append_right _ (List.mem_append_right _ (List.mem_append_right _ (List.mem_append_left _ (List.mem_of_getElem? (l := tables_1_4) (i := 216) rfl)))))) rfl
theorem wd_417 : (Cond.instanceMethod ({ cls := "CloudDepth$Lines", name := "lesser", desc := "(I)I" } : MethodName)) ∈ LT := mG (List.mem_append_right _ (List.mem_append_right _ (List.mem_append_right _ (List.mem_append_right _ (List.mem_append_left _ (List.mem_of_getElem? (l := tables_1_4) (i := 217) rfl)))))) rfl
theorem wd_418 : (Cond.selects "CloudDepth$Lines" ({ cls := "CloudDepth$Lines", name := "lesser", desc := "(I)I" } : MethodName) ({ cls := "CloudDepth$Lines", name := "lesser", desc := "(I)I" } : MethodName)) ∈ LT := mG (List.mem_append_right _ (List.mem_append_right _ (List.mem_append_right _ (List.mem_append_right _ (List.mem_append_left _ (List.mem_of_getElem? (l := tables_1_4) (i := 218) rfl)))))) rfl
theorem wd_419 : (Cond.methodLink "CloudDepth$Lines" (59 : Nat) ({ cls := "CloudDepth$Lines", name := "other", desc := "(I)I" } : MethodName)) ∈ LT := mG (List.mem_append_right _ (List.mem_append_right _ (List.mem_append_right _ (List.mem_append_right _ (List.mem_append_left _ (List.mem_of_getElem? (l := tables_1_4) (i := 220) rfl)))))) rfl
theorem wd_420 : (Cond.instanceMethod ({ cls := "CloudDepth$Lines", name := "other", desc := "(I)I" } : MethodName)) ∈ LT := mG (List.mem_append_right _ (List.mem_append_right _ (List.mem_append_right _ (List.mem_append_right _ (List.mem_append_left _ (List.mem_of_getElem? (l := tables_1_4) (i := 221) rfl)))))) rfl
theorem wd_421 : (Cond.selects "CloudDepth$Lines" ({ cls := "CloudDepth$Lines", name := "other", desc := "(I)I" } : MethodName) ({ cls := "CloudDepth$Lines", name := "other", desc := "(I)I" } : MethodName)) ∈ LT := mG (List.mem_append_right _ (List.mem_append_right _ (List.mem_append_right _ (List.mem_append_right _ (List.mem_append_left _ (List.mem_of_getElem? (l := tables_1_4) (i := 222) rfl)))))) rfl
theorem wd_422 : (Cond.methodLink "CloudDepth$Lines" (62 : Nat) ({ cls := "java/lang/Math", name := "abs", desc := "(I)I" } : MethodName)) ∈ LT := mG (List.mem_append_right _ (List.mem_append_right _ (List.mem_append_right _ (List.mem_append_right _ (List.mem_append_left _ (List.mem_of_getElem? (l := tables_1_4) (i := 228) rfl)))))) rfl
theorem wd_423 : (Cond.methodLink "CloudDepth$Lines" (42 : Nat) ({ cls := "CloudDepth$Lines", name := "over", desc := "(LCloudDepth$Cloud;I)I" } : MethodName)) ∈ LT := mG (List.mem_append_right _ (List.mem_append_right _ (List.mem_append_right _ (List.mem_append_right _ (List.mem_append_left _ (List.mem_of_getElem? (l := tables_1_4) (i := 212) rfl)))))) rfl
theorem wd_424 : (Cond.instanceMethod ({ cls := "CloudDepth$Lines", name := "over", desc := "(LCloudDepth$Cloud;I)I" } : MethodName)) ∈ LT := mG (List.mem_append_right _ (List.mem_append_right _ (List.mem_append_right _ (List.mem_append_right _ (List.mem_append_left _ (List.mem_of_getElem? (l := tables_1_4) (i := 213) rfl)))))) rfl
theorem wd_425 : (Cond.selects "CloudDepth$Lines" ({ cls := "CloudDepth$Lines", name := "over", desc := "(LCloudDepth$Cloud;I)I" } : MethodName) ({ cls := "CloudDepth$Lines", name := "over", desc := "(LCloudDepth$Cloud;I)I" } : MethodName)) ∈ LT := mG (List.mem_append_right _ (List.mem_append_right _ (List.mem_append_right _ (List.mem_append_right _ (List.mem_append_left _ (List.mem_of_getElem? (l := tables_1_4) (i := 214) rfl)))))) rfl
theorem wd_426 : (Cond.methodLink "CloudDepth$Lines" (46 : Nat) ({ cls := "CloudDepth$Lines", name := "under", desc := "(LCloudDepth$Cloud;I)I" } : MethodName)) ∈ LT := mG (List.mem_append_right _ (List.mem_append_right _ (List.mem_append_right _ (List.mem_append_right _ (List.mem_append_left _ (List.mem_of_getElem? (l := tables_1_4) (i := 224) rfl)))))) rfl
theorem wd_427 : (Cond.instanceMethod ({ cls := "CloudDepth$Lines", name := "under", desc := "(LCloudDepth$Cloud;I)I" } : MethodName)) ∈ LT := mG (List.mem_append_right _ (List.mem_append_right _ (List.mem_append_right _ (List.mem_append_right _ (List.mem_append_left _ (List.mem_of_getElem? (l := tables_1_4) (i := 225) rfl)))))) rfl
theorem wd_428 : (Cond.selects "CloudDepth$Lines" ({ cls := "CloudDepth$Lines", name := "under", desc := "(LCloudDepth$Cloud;I)I" } : MethodName) ({ cls := "CloudDepth$Lines", name := "under", desc := "(LCloudDepth$Cloud;I)I" } : MethodName)) ∈ LT := mG (List.mem_append_right _ (List.mem_append_right _ (List.mem_append_right _ (List.mem_append_right _ (List.mem_append_left _ (List.mem_of_getElem? (l := tables_1_4) (i := 226) rfl)))))) rfl
theorem wd_429 : (Cond.methodLink "CloudDepth$Lines" (49 : Nat) ({ cls := "java/lang/Integer", name := "compare", desc := "(II)I" } : MethodName)) ∈ LT := mG (List.mem_append_right _ (List.mem_append_right _ (List.mem_append_right _ (List.mem_append_right _ (List.mem_append_left _ (List.mem_of_getElem? (l := tables_1_4) (i := 231) rfl)))))) rfl
theorem wd_430 : (Cond.static ({ cls := "java/lang/Integer", name := "compare", desc := "(II)I" } : MethodName)) ∈ LT := mG (List.mem_append_right _ (List.mem_append_right _ (List.mem_append_right _ (List.mem_append_right _ (List.mem_append_left _ (List.mem_of_getElem? (l := tables_1_4) (i := 232) rfl)))))) rfl
theorem wd_431 : (Cond.methodLink "CloudDepth$Lines" (38 : Nat) ({ cls := "CloudDepth$Lines", name := "compareX", desc := "(LCloudDepth$Cloud;II)I" } : MethodName)) ∈ LT := mG (List.mem_append_right _ (List.mem_append_right _ (List.mem_append_right _ (List.mem_append_right _ (List.mem_append_left _ (List.mem_of_getElem? (l := tables_1_4) (i := 208) rfl)))))) rfl
theorem wd_432 : (Cond.instanceMethod ({ cls := "CloudDepth$Lines", name := "compareX", desc := "(LCloudDepth$Cloud;II)I" } : MethodName)) ∈ LT := mG (List.mem_append_right _ (List.mem_append_right _ (List.mem_append_right _ (List.mem_append_right _ (List.mem_append_left _ (List.mem_of_getElem? (l := tables_1_4) (i := 210) rfl)))))) rfl
theorem wd_433 : (Cond.selects "CloudDepth$Lines" ⟨"CloudDepth$Lines", "compareX", "(LCloudDepth$Cloud;II)I"⟩ ⟨"CloudDepth$Lines", "compareX", "(LCloudDepth$Cloud;II)I"⟩) ∈ LT := mG (List.mem_append_left _ (List.mem_of_getElem? (i := 20) rfl)) rfl
theorem wd_434 : (Cond.methodLink "CloudDepth$Lines" (34 : Nat) ({ cls := "CloudDepth$Lines", name := "sinkLast", desc := "(LCloudDepth$Cloud;)V" } : MethodName)) ∈ LT := mG (List.mem_append_right _ (List.mem_append_right _ (List.mem_append_right _ (List.mem_append_right _ (List.mem_append_left _ (List.mem_of_getElem? (l := tables_1_4) (i := 204) rfl)))))) rfl
theorem wd_435 : (Cond.instanceMethod ({ cls := "CloudDepth$Lines", name := "sinkLast", desc := "(LCloudDepth$Cloud;)V" } : MethodName)) ∈ LT := mG (List.mem_append_right _ (List.mem_append_right _ (List.mem_append_right _ (List.mem_append_right _ (List.mem_append_left _ (List.mem_of_getElem? (l := tables_1_4) (i := 206) rfl)))))) rfl
theorem wd_436 : (Cond.selects "CloudDepth$Lines" ⟨"CloudDepth$Lines", "sinkLast", "(LCloudDepth$Cloud;)V"⟩ ⟨"CloudDepth$Lines", "sinkLast", "(LCloudDepth$Cloud;)V"⟩) ∈ LT := mG (List.mem_append_left _ (List.mem_of_getElem? (i := 19) rfl)) rfl
theorem wd_437 : (Cond.methodLink "CloudDepth$Lines" (67 : Nat) ({ cls := "java/lang/Math", name := "max", desc := "(II)I" } : MethodName)) ∈ LT := mG (List.mem_append_right _ (List.mem_append_right _ (List.mem_append_right _ (List.mem_append_right _ (List.mem_append_left _ (List.mem_of_getElem? (l := tables_1_4) (i := 239) rfl)))))) rfl
theorem wd_438 : (Cond.methodLink "CloudDepth" (311 : Nat) ({ cls := "CloudDepth$Lines", name := "cross", desc := "(LCloudDepth$Cloud;)V" } : MethodName)) ∈ LT := mG (List.mem_append_right _ (List.mem_append_right _ (List.mem_append_right _ (List.mem_append_right _ (List.mem_append_left _ (List.mem_of_getElem? (l := tables_1_4) (i := 200) rfl)))))) rfl
theorem wd_439 : (Cond.instanceMethod ({ cls := "CloudDepth$Lines", name := "cross", desc := "(LCloudDepth$Cloud;)V" } : MethodName)) ∈ LT := mG (List.mem_append_right _ (List.mem_append_right _ (List.mem_append_right _ (List.mem_append_right _ (List.mem_append_left _ (List.mem_of_getElem? (l := tables_1_4) (i := 201) rfl)))))) rfl
theorem wd_440 : (Cond.selects "CloudDepth$Lines" ({ cls := "CloudDepth$Lines", name := "cross", desc := "(LCloudDepth$Cloud;)V" } : MethodName) ({ cls := "CloudDepth$Lines", name := "cross", desc := "(LCloudDepth$Cloud;)V" } : MethodName)) ∈ LT := mG (List.mem_append_right _ (List.mem_append_right _ (List.mem_append_right _ (List.mem_append_right _ (List.mem_append_left _ (List.mem_of_getElem? (l := tables_1_4) (i := 202) rfl)))))) rfl
theorem wd_441 : (Cond.methodLink "CloudDepth" (329 : Nat) ({ cls := "CloudDepth$Lines", name := "other", desc := "(I)I" } : MethodName)) ∈ LT := mG (List.mem_append_right _ (List.mem_append_right _ (List.mem_append_right _ (List.mem_append_right _ (List.mem_append_right _ (List.mem_append_left _ (List.mem_of_getElem? (l := tables_1_5) (i := 2) rfl))))))) rfl
theorem wd_442 : (Cond.methodLink "CloudDepth" (326 : Nat) ({ cls := "CloudDepth$Lines", name := "lesser", desc := "(I)I" } : MethodName)) ∈ LT := mG (List.mem_append_right _ (List.mem_append_right _ (List.mem_append_right _ (List.mem_append_right _ (List.mem_append_right _ (List.mem_append_left _ (List.mem_of_getElem? (l := tables_1_5) (i := 1) rfl))))))) rfl
theorem wd_443 : (Cond.methodLink "CloudDepth" (323 : Nat) ({ cls := "CloudDepth$Lines", name := "under", desc := "(LCloudDepth$Cloud;I)I" } : MethodName)) ∈ LT := mG (List.mem_append_right _ (List.mem_append_right _ (List.mem_append_right _ (List.mem_append_right _ (List.mem_append_right _ (List.mem_append_left _ (List.mem_of_getElem? (l := tables_1_5) (i := 0) rfl))))))) rfl
theorem wd_444 : (Cond.methodLink "CloudDepth" (320 : Nat) ({ cls := "CloudDepth$Lines", name := "divisor", desc := "(LCloudDepth$Cloud;I)I" } : MethodName)) ∈ LT := mG (List.mem_append_right _ (List.mem_append_right _ (List.mem_append_right _ (List.mem_append_right _ (List.mem_append_left _ (List.mem_of_getElem? (l := tables_1_4) (i := 235) rfl)))))) rfl
theorem wd_445 : (Cond.instanceMethod ({ cls := "CloudDepth$Lines", name := "divisor", desc := "(LCloudDepth$Cloud;I)I" } : MethodName)) ∈ LT := mG (List.mem_append_right _ (List.mem_append_right _ (List.mem_append_right _ (List.mem_append_right _ (List.mem_append_left _ (List.mem_of_getElem? (l := tables_1_4) (i := 236) rfl)))))) rfl
theorem wd_446 : (Cond.selects "CloudDepth$Lines" ({ cls := "CloudDepth$Lines", name := "divisor", desc := "(LCloudDepth$Cloud;I)I" } : MethodName) ({ cls := "CloudDepth$Lines", name := "divisor", desc := "(LCloudDepth$Cloud;I)I" } : MethodName)) ∈ LT := mG (List.mem_append_right _ (List.mem_append_right _ (List.mem_append_right _ (List.mem_append_right _ (List.mem_append_left _ (List.mem_of_getElem? (l := tables_1_4) (i := 237) rfl)))))) rfl
theorem wd_447 : (Cond.methodLink "CloudDepth" (317 : Nat) ({ cls := "CloudDepth$Lines", name := "over", desc := "(LCloudDepth$Cloud;I)I" } : MethodName)) ∈ LT := mG (List.mem_append_right _ (List.mem_append_right _ (List.mem_append_right _ (List.mem_append_right _ (List.mem_append_left _ (List.mem_of_getElem? (l := tables_1_4) (i := 234) rfl)))))) rfl
theorem wd_448 : (Cond.methodLink "CloudDepthModel" (327 : Nat) ({ cls := "CloudDepthModel", name := "measure", desc := "(II)I" } : MethodName)) ∈ LT := mG (List.mem_append_right _ (List.mem_append_right _ (List.mem_append_right _ (List.mem_append_right _ (List.mem_append_right _ (List.mem_append_right _ (List.mem_append_right _ (List.mem_of_getElem? (l := tables_1_7) (i := 93) rfl)))))))) rfl
theorem wd_449 : (Cond.static ({ cls := "CloudDepthModel", name := "measure", desc := "(II)I" } : MethodName)) ∈ LT := mG (List.mem_append_right _ (List.mem_append_right _ (List.mem_append_right _ (List.mem_append_right _ (List.mem_append_right _ (List.mem_append_right _ (List.mem_append_right _ (List.mem_of_getElem? (l := tables_1_7) (i := 94) rfl)))))))) rfl
theorem wd_450 : (Cond.methodLink "CloudDepthModel" (330 : Nat) ({ cls := "CloudDepthModel", name := "laysCrossings", desc := "()I" } : MethodName)) ∈ LT := mG (List.mem_append_right _ (List.mem_append_right _ (List.mem_append_right _ (List.mem_append_right _ (List.mem_append_right _ (List.mem_append_right _ (List.mem_append_right _ (List.mem_of_getElem? (l := tables_1_7) (i := 89) rfl)))))))) rfl
theorem wd_451 : (Cond.instanceMethod ({ cls := "CloudDepthModel", name := "laysCrossings", desc := "()I" } : MethodName)) ∈ LT := mG (List.mem_append_right _ (List.mem_append_right _ (List.mem_append_right _ (List.mem_append_right _ (List.mem_append_right _ (List.mem_append_right _ (List.mem_append_right _ (List.mem_of_getElem? (l := tables_1_7) (i := 91) rfl)))))))) rfl
theorem wd_452 : (Cond.selects "CloudDepthModel" ⟨"CloudDepthModel", "laysCrossings", "()I"⟩ ⟨"CloudDepthModel", "laysCrossings", "()I"⟩) ∈ LT := mG (List.mem_append_left _ (List.mem_of_getElem? (i := 75) rfl)) rfl
theorem wd_453 : (Cond.methodLink "CloudDepth$Lines" (74 : Nat) ({ cls := "CloudDepth$Lines", name := "lineAt", desc := "(LCloudDepth$Cloud;IIII)I" } : MethodName)) ∈ LT := mG (List.mem_append_right _ (List.mem_append_right _ (List.mem_append_right _ (List.mem_append_right _ (List.mem_append_right _ (List.mem_append_left _ (List.mem_of_getElem? (l := tables_1_5) (i := 14) rfl))))))) rfl
theorem wd_454 : (Cond.methodLink "CloudDepth$Lines" (70 : Nat) ({ cls := "CloudDepth$Lines", name := "bendsAt", desc := "(LCloudDepth$Cloud;III)Z" } : MethodName)) ∈ LT := mG (List.mem_append_right _ (List.mem_append_right _ (List.mem_append_right _ (List.mem_append_right _ (List.mem_append_right _ (List.mem_append_left _ (List.mem_of_getElem? (l := tables_1_5) (i := 11) rfl))))))) rfl
theorem wd_455 : (Cond.static ({ cls := "CloudDepth$Lines", name := "bendsAt", desc := "(LCloudDepth$Cloud;III)Z" } : MethodName)) ∈ LT := mG (List.mem_append_right _ (List.mem_append_right _ (List.mem_append_right _ (List.mem_append_right _ (List.mem_append_right _ (List.mem_append_left _ (List.mem_of_getElem? (l := tables_1_5) (i := 12) rfl))))))) rfl
theorem wd_456 : (Cond.methodLink "CloudDepth" (332 : Nat) ({ cls := "CloudDepth$Lines", name := "bendsOf", desc := "(LCloudDepth$Cloud;I)I" } : MethodName)) ∈ LT := mG (List.mem_append_right _ (List.mem_append_right _ (List.mem_append_right _ (List.mem_append_right _ (List.mem_append_right _ (List.mem_append_left _ (List.mem_of_getElem? (l := tables_1_5) (i := 7) rfl))))))) rfl
theorem wd_457 : (Cond.instanceMethod ({ cls := "CloudDepth$Lines", name := "bendsOf", desc := "(LCloudDepth$Cloud;I)I" } : MethodName)) ∈ LT := mG (List.mem_append_right _ (List.mem_append_right _ (List.mem_append_right _ (List.mem_append_right _ (List.mem_append_right _ (List.mem_append_left _ (List.mem_of_getElem? (l := tables_1_5) (i := 8) rfl))))))) rfl
theorem wd_458 : (Cond.selects "CloudDepth$Lines" ({ cls := "CloudDepth$Lines", name := "bendsOf", desc := "(LCloudDepth$Cloud;I)I" } : MethodName) ({ cls := "CloudDepth$Lines", name := "bendsOf", desc := "(LCloudDepth$Cloud;I)I" } : MethodName)) ∈ LT := mG (List.mem_append_right _ (List.mem_append_right _ (List.mem_append_right _ (List.mem_append_right _ (List.mem_append_right _ (List.mem_append_left _ (List.mem_of_getElem? (l := tables_1_5) (i := 9) rfl))))))) rfl
theorem wd_459 : (Cond.methodLink "CloudDepth$Fits" (30 : Nat) ({ cls := "java/lang/Math", name := "min", desc := "(II)I" } : MethodName)) ∈ LT := mG (List.mem_append_right _ (List.mem_append_right _ (List.mem_append_right _ (List.mem_append_right _ (List.mem_append_right _ (List.mem_append_left _ (List.mem_of_getElem? (l := tables_1_5) (i := 27) rfl))))))) rfl
theorem wd_460 : (Cond.methodLink "CloudDepth" (335 : Nat) ({ cls := "CloudDepth$Fits", name := "arrange", desc := "(LCloudDepth$Cloud;)V" } : MethodName)) ∈ LT := mG (List.mem_append_right _ (List.mem_append_right _ (List.mem_append_right _ (List.mem_append_right _ (List.mem_append_right _ (List.mem_append_left _ (List.mem_of_getElem? (l := tables_1_5) (i := 19) rfl))))))) rfl
theorem wd_461 : (Cond.instanceMethod ({ cls := "CloudDepth$Fits", name := "arrange", desc := "(LCloudDepth$Cloud;)V" } : MethodName)) ∈ LT := mG (List.mem_append_right _ (List.mem_append_right _ (List.mem_append_right _ (List.mem_append_right _ (List.mem_append_right _ (List.mem_append_left _ (List.mem_of_getElem? (l := tables_1_5) (i := 20) rfl))))))) rfl
theorem wd_462 : (Cond.selects "CloudDepth$Fits" ({ cls := "CloudDepth$Fits", name := "arrange", desc := "(LCloudDepth$Cloud;)V" } : MethodName) ({ cls := "CloudDepth$Fits", name := "arrange", desc := "(LCloudDepth$Cloud;)V" } : MethodName)) ∈ LT := mG (List.mem_append_right _ (List.mem_append_right _ (List.mem_append_right _ (List.mem_append_right _ (List.mem_append_right _ (List.mem_append_left _ (List.mem_of_getElem? (l := tables_1_5) (i := 21) rfl))))))) rfl
theorem wd_463 : (Cond.initialized "CloudDepth$Fits") ∈ LT := mG (List.mem_append_right _ (List.mem_append_left _ (List.mem_of_getElem? (l := tables_1_1) (i := 10) rfl))) rfl
theorem wd_464 : (Cond.methodLink "CloudDepth" (338 : Nat) ({ cls := "CloudDepth$Fits", name := "fitOf", desc := "(LCloudDepth$Cloud;II)I" } : MethodName)) ∈ LT := mG (List.mem_append_right _ (List.mem_append_right _ (List.mem_append_right _ (List.mem_append_right _ (List.mem_append_right _ (List.mem_append_left _ (List.mem_of_getElem? (l := tables_1_5) (i := 23) rfl))))))) rfl
theorem wd_465 : (Cond.instanceMethod ({ cls := "CloudDepth$Fits", name := "fitOf", desc := "(LCloudDepth$Cloud;II)I" } : MethodName)) ∈ LT := mG (List.mem_append_right _ (List.mem_append_right _ (List.mem_append_right _ (List.mem_append_right _ (List.mem_append_right _ (List.mem_append_left _ (List.mem_of_getElem? (l := tables_1_5) (i := 24) rfl))))))) rfl
theorem wd_466 : (Cond.selects "CloudDepth$Fits" ({ cls := "CloudDepth$Fits", name := "fitOf", desc := "(LCloudDepth$Cloud;II)I" } : MethodName) ({ cls := "CloudDepth$Fits", name := "fitOf", desc := "(LCloudDepth$Cloud;II)I" } : MethodName)) ∈ LT := mG (List.mem_append_right _ (List.mem_append_right _ (List.mem_append_right _ (List.mem_append_right _ (List.mem_append_right _ (List.mem_append_left _ (List.mem_of_getElem? (l := tables_1_5) (i := 25) rfl))))))) rfl
theorem wd_467 : (Cond.methodLink "CloudDepthModel" (333 : Nat) ({ cls := "CloudDepthModel", name := "fitOf", desc := "(II)I" } : MethodName)) ∈ LT := mG (List.mem_append_right _ (List.mem_append_right _ (List.mem_append_right _ (List.mem_append_right _ (List.mem_append_right _ (List.mem_append_right _ (List.mem_append_right _ (List.mem_of_getElem? (l := tables_1_7) (i := 104) rfl)))))))) rfl
theorem wd_468 : (Cond.instanceMethod ({ cls := "CloudDepthModel", name := "fitOf", desc := "(II)I" } : MethodName)) ∈ LT := mG (List.mem_append_right _ (List.mem_append_right _ (List.mem_append_right _ (List.mem_append_right _ (List.mem_append_right _ (List.mem_append_right _ (List.mem_append_right _ (List.mem_of_getElem? (l := tables_1_7) (i := 106) rfl)))))))) rfl
theorem wd_469 : (Cond.selects "CloudDepthModel" ⟨"CloudDepthModel", "fitOf", "(II)I"⟩ ⟨"CloudDepthModel", "fitOf", "(II)I"⟩) ∈ LT := mG (List.mem_append_left _ (List.mem_of_getElem? (i := 76) rfl)) rfl
theorem wd_470 : (Cond.methodLink "CloudDepth$Fits" (37 : Nat) ({ cls := "CloudDepth$Fits", name := "arrange", desc := "(LCloudDepth$Cloud;)V" } : MethodName)) ∈ LT := mG (List.mem_append_right _ (List.mem_append_right _ (List.mem_append_right _ (List.mem_append_right _ (List.mem_append_right _ (List.mem_append_left _ (List.mem_of_getElem? (l := tables_1_5) (i := 36) rfl))))))) rfl
theorem wd_471 : (Cond.methodLink "CloudDepth$Fits" (44 : Nat) ({ cls := "CloudDepth$Fits", name := "fitOf", desc := "(LCloudDepth$Cloud;II)I" } : MethodName)) ∈ LT := mG (List.mem_append_right _ (List.mem_append_right _ (List.mem_append_right _ (List.mem_append_right _ (List.mem_append_right _ (List.mem_append_left _ (List.mem_of_getElem? (l := tables_1_5) (i := 37) rfl))))))) rfl
theorem wd_472 : (Cond.methodLink "CloudDepth$Fits" (48 : Nat) ({ cls := "CloudDepth$Fits", name := "noteFit", desc := "(III)V" } : MethodName)) ∈ LT := mG (List.mem_append_right _ (List.mem_append_right _ (List.mem_append_right _ (List.mem_append_right _ (List.mem_append_right _ (List.mem_append_left _ (List.mem_of_getElem? (l := tables_1_5) (i := 38) rfl))))))) rfl
theorem wd_473 : (Cond.instanceMethod ({ cls := "CloudDepth$Fits", name := "noteFit", desc := "(III)V" } : MethodName)) ∈ LT := mG (List.mem_append_right _ (List.mem_append_right _ (List.mem_append_right _ (List.mem_append_right _ (List.mem_append_right _ (List.mem_append_left _ (List.mem_of_getElem? (l := tables_1_5) (i := 40) rfl))))))) rfl
theorem wd_474 : (Cond.selects "CloudDepth$Fits" ⟨"CloudDepth$Fits", "noteFit", "(III)V"⟩ ⟨"CloudDepth$Fits", "noteFit", "(III)V"⟩) ∈ LT := mG (List.mem_append_left _ (List.mem_of_getElem? (i := 21) rfl)) rfl
theorem wd_475 : (Cond.methodLink "CloudDepth" (341 : Nat) ({ cls := "CloudDepth$Fits", name := "search", desc := "(LCloudDepth$Cloud;)V" } : MethodName)) ∈ LT := mG (List.mem_append_right _ (List.mem_append_right _ (List.mem_append_right _ (List.mem_append_right _ (List.mem_append_right _ (List.mem_append_left _ (List.mem_of_getElem? (l := tables_1_5) (i := 32) rfl))))))) rfl
theorem wd_476 : (Cond.instanceMethod ({ cls := "CloudDepth$Fits", name := "search", desc := "(LCloudDepth$Cloud;)V" } : MethodName)) ∈ LT := mG (List.mem_append_right _ (List.mem_append_right _ (List.mem_append_right _ (List.mem_append_right _ (List.mem_append_right _ (List.mem_append_left _ (List.mem_of_getElem? (l := tables_1_5) (i := 33) rfl))))))) rfl
theorem wd_477 : (Cond.selects "CloudDepth$Fits" ({ cls := "CloudDepth$Fits", name := "search", desc := "(LCloudDepth$Cloud;)V" } : MethodName) ({ cls := "CloudDepth$Fits", name := "search", desc := "(LCloudDepth$Cloud;)V" } : MethodName)) ∈ LT := mG (List.mem_append_right _ (List.mem_append_right _ (List.mem_append_right _ (List.mem_append_right _ (List.mem_append_right _ (List.mem_append_left _ (List.mem_of_getElem? (l := tables_1_5) (i := 34) rfl))))))) rfl
theorem wd_478 : (Cond.methodLink "CloudDepth$Shapes" (93 : Nat) ({ cls := "CloudDepth$Cloud", name := "sideBits", desc := "(III)I" } : MethodName)) ∈ LT := mG (List.mem_append_right _ (List.mem_append_right _ (List.mem_append_right _ (List.mem_append_right _ (List.mem_append_left _ (List.mem_of_getElem? (l := tables_1_4) (i := 166) rfl)))))) rfl
theorem wd_479 : (Cond.methodLink "CloudDepth$Shapes" (83 : Nat) ({ cls := "CloudDepth$Shapes", name := "hasThreeOnOneLine", desc := "(LCloudDepth$Cloud;I)Z" } : MethodName)) ∈ LT := mG (List.mem_append_right _ (List.mem_append_right _ (List.mem_append_right _ (List.mem_append_right _ (List.mem_append_left _ (List.mem_of_getElem? (l := tables_1_4) (i := 162) rfl)))))) rfl
theorem wd_480 : (Cond.static ({ cls := "CloudDepth$Shapes", name := "hasThreeOnOneLine", desc := "(LCloudDepth$Cloud;I)Z" } : MethodName)) ∈ LT := mG (List.mem_append_right _ (List.mem_append_right _ (List.mem_append_right _ (List.mem_append_right _ (List.mem_append_left _ (List.mem_of_getElem? (l := tables_1_4) (i := 163) rfl)))))) rfl
theorem wd_481 : (Cond.methodLink "CloudDepth$Shapes" (89 : Nat) ({ cls := "CloudDepth$Shapes", name := "innerOf", desc := "(LCloudDepth$Cloud;I)I" } : MethodName)) ∈ LT := mG (List.mem_append_right _ (List.mem_append_right _ (List.mem_append_right _ (List.mem_append_right _ (List.mem_append_left _ (List.mem_of_getElem? (l := tables_1_4) (i := 167) rfl)))))) rfl
theorem wd_482 : (Cond.static ({ cls := "CloudDepth$Shapes", name := "innerOf", desc := "(LCloudDepth$Cloud;I)I" } : MethodName)) ∈ LT := mG (List.mem_append_right _ (List.mem_append_right _ (List.mem_append_right _ (List.mem_append_right _ (List.mem_append_left _ (List.mem_of_getElem? (l := tables_1_4) (i := 168) rfl)))))) rfl
theorem wd_483 : (Cond.methodLink "CloudDepth$Shapes" (96 : Nat) ({ cls := "CloudDepth$Shapes", name := "meet", desc := "(LCloudDepth$Cloud;III)Z" } : MethodName)) ∈ LT := mG (List.mem_append_right _ (List.mem_append_right _ (List.mem_append_right _ (List.mem_append_right _ (List.mem_append_left _ (List.mem_of_getElem? (l := tables_1_4) (i := 170) rfl)))))) rfl
theorem wd_484 : (Cond.static ({ cls := "CloudDepth$Shapes", name := "meet", desc := "(LCloudDepth$Cloud;III)Z" } : MethodName)) ∈ LT := mG (List.mem_append_right _ (List.mem_append_right _ (List.mem_append_right _ (List.mem_append_right _ (List.mem_append_left _ (List.mem_of_getElem? (l := tables_1_4) (i := 171) rfl)))))) rfl
theorem wd_485 : (Cond.methodLink "CloudDepth" (301 : Nat) ({ cls := "CloudDepth$Shapes", name := "partWithLeast", desc := "(LCloudDepth$Cloud;I)I" } : MethodName)) ∈ LT := mG (List.mem_append_right _ (List.mem_append_right _ (List.mem_append_right _ (List.mem_append_right _ (List.mem_append_left _ (List.mem_of_getElem? (l := tables_1_4) (i := 158) rfl)))))) rfl
theorem wd_486 : (Cond.instanceMethod ({ cls := "CloudDepth$Shapes", name := "partWithLeast", desc := "(LCloudDepth$Cloud;I)I" } : MethodName)) ∈ LT := mG (List.mem_append_right _ (List.mem_append_right _ (List.mem_append_right _ (List.mem_append_right _ (List.mem_append_left _ (List.mem_of_getElem? (l := tables_1_4) (i := 159) rfl)))))) rfl
theorem wd_487 : (Cond.selects "CloudDepth$Shapes" ({ cls := "CloudDepth$Shapes", name := "partWithLeast", desc := "(LCloudDepth$Cloud;I)I" } : MethodName) ({ cls := "CloudDepth$Shapes", name := "partWithLeast", desc := "(LCloudDepth$Cloud;I)I" } : MethodName)) ∈ LT := mG (List.mem_append_right _ (List.mem_append_right _ (List.mem_append_right _ (List.mem_append_right _ (List.mem_append_left _ (List.mem_of_getElem? (l := tables_1_4) (i := 160) rfl)))))) rfl
theorem wd_488 : (Cond.methodLink "CloudDepthModel" (277 : Nat) ({ cls := "CloudDepthModel", name := "topmost", desc := "(I)I" } : MethodName)) ∈ LT := mG (List.mem_append_right _ (List.mem_append_right _ (List.mem_append_right _ (List.mem_append_right _ (List.mem_append_right _ (List.mem_append_right _ (List.mem_append_right _ (List.mem_of_getElem? (l := tables_1_7) (i := 7) rfl)))))))) rfl
theorem wd_489 : (Cond.static ({ cls := "CloudDepthModel", name := "topmost", desc := "(I)I" } : MethodName)) ∈ LT := mG (List.mem_append_right _ (List.mem_append_right _ (List.mem_append_right _ (List.mem_append_right _ (List.mem_append_right _ (List.mem_append_right _ (List.mem_append_right _ (List.mem_of_getElem? (l := tables_1_7) (i := 8) rfl)))))))) rfl
theorem wd_490 : (Cond.methodLink "CloudDepth$Shapes" (109 : Nat) ({ cls := "CloudDepth$Cloud", name := "isTaken", desc := "(II)Z" } : MethodName)) ∈ LT := mG (List.mem_append_right _ (List.mem_append_right _ (List.mem_append_right _ (List.mem_append_right _ (List.mem_append_left _ (List.mem_of_getElem? (l := tables_1_4) (i := 182) rfl)))))) rfl
theorem wd_491 : (Cond.methodLink "CloudDepth$Shapes" (113 : Nat) ({ cls := "CloudDepth$Shapes", name := "keepsTurns", desc := "(LCloudDepth$Cloud;III)Z" } : MethodName)) ∈ LT := mG (List.mem_append_right _ (List.mem_append_right _ (List.mem_append_right _ (List.mem_append_right _ (List.mem_append_left _ (List.mem_of_getElem? (l := tables_1_4) (i := 183) rfl)))))) rfl
theorem wd_492 : (Cond.static ({ cls := "CloudDepth$Shapes", name := "keepsTurns", desc := "(LCloudDepth$Cloud;III)Z" } : MethodName)) ∈ LT := mG (List.mem_append_right _ (List.mem_append_right _ (List.mem_append_right _ (List.mem_append_right _ (List.mem_append_left _ (List.mem_of_getElem? (l := tables_1_4) (i := 184) rfl)))))) rfl
theorem wd_493 : (Cond.methodLink "CloudDepth" (304 : Nat) ({ cls := "CloudDepth$Shapes", name := "keepingPlaces", desc := "(LCloudDepth$Cloud;I)I" } : MethodName)) ∈ LT := mG (List.mem_append_right _ (List.mem_append_right _ (List.mem_append_right _ (List.mem_append_right _ (List.mem_append_left _ (List.mem_of_getElem? (l := tables_1_4) (i := 178) rfl)))))) rfl
theorem wd_494 : (Cond.instanceMethod ({ cls := "CloudDepth$Shapes", name := "keepingPlaces", desc := "(LCloudDepth$Cloud;I)I" } : MethodName)) ∈ LT := mG (List.mem_append_right _ (List.mem_append_right _ (List.mem_append_right _ (List.mem_append_right _ (List.mem_append_left _ (List.mem_of_getElem? (l := tables_1_4) (i := 179) rfl)))))) rfl
theorem wd_495 : (Cond.selects "CloudDepth$Shapes" ({ cls := "CloudDepth$Shapes", name := "keepingPlaces", desc := "(LCloudDepth$Cloud;I)I" } : MethodName) ({ cls := "CloudDepth$Shapes", name := "keepingPlaces", desc := "(LCloudDepth$Cloud;I)I" } : MethodName)) ∈ LT := mG (List.mem_append_right _ (List.mem_append_right _ (List.mem_append_right _ (List.mem_append_right _ (List.mem_append_left _ (List.mem_of_getElem? (l := tables_1_4) (i := 180) rfl)))))) rfl
theorem wd_496 : (Cond.methodLink "CloudDepthModel" (317 : Nat) ({ cls := "CloudDepthModel", name := "keeps", desc := "(III)Z" } : MethodName)) ∈ LT := mG (List.mem_append_right _ (List.mem_append_right _ (List.mem_append_right _ (List.mem_append_right _ (List.mem_append_right _ (List.mem_append_right _ (List.mem_append_right _ (List.mem_of_getElem? (l := tables_1_7) (i := 65) rfl)))))))) rfl
theorem wd_497 : (Cond.instanceMethod ({ cls := "CloudDepthModel", name := "keeps", desc := "(III)Z" } : MethodName)) ∈ LT := mG (List.mem_append_right _ (List.mem_append_right _ (List.mem_append_right _ (List.mem_append_right _ (List.mem_append_right _ (List.mem_append_right _ (List.mem_append_right _ (List.mem_of_getElem? (l := tables_1_7) (i := 67) rfl)))))))) rfl
theorem wd_498 : (Cond.selects "CloudDepthModel" ⟨"CloudDepthModel", "keeps", "(III)Z"⟩ ⟨"CloudDepthModel", "keeps", "(III)Z"⟩) ∈ LT := mG (List.mem_append_left _ (List.mem_of_getElem? (i := 72) rfl)) rfl
theorem wd_499 : (Cond.methodLink "CloudDepth" (254 : Nat) ({ cls := "CloudDepth$Cuts", name := "countAll", desc := "(LCloudDepth$Cloud;)I" } : MethodName)) ∈ LT := mG (List.mem_append_right _ (List.mem_append_right _ (List.mem_append_right _ (List.mem_append_right _ (List.mem_append_left _ (List.mem_of_getElem? (l := tables_1_4) (i := 95) rfl)))))) rfl
theorem wd_500 : (Cond.instanceMethod ({ cls := "CloudDepth$Cuts", name := "countAll", desc := "(LCloudDepth$Cloud;)I" } : MethodName)) ∈ LT := mG (List.mem_append_right _ (List.mem_append_right _ (List.mem_append_right _ (List.mem_append_right _ (List.mem_append_left _ (List.mem_of_getElem? (l := tables_1_4) (i := 96) rfl)))))) rfl
theorem wd_501 : (Cond.selects "CloudDepth$Cuts" ({ cls := "CloudDepth$Cuts", name := "countAll", desc := "(LCloudDepth$Cloud;)I" } : MethodName) ({ cls := "CloudDepth$Cuts", name := "countAll", desc := "(LCloudDepth$Cloud;)I" } : MethodName)) ∈ LT := mG (List.mem_append_right _ (List.mem_append_right _ (List.mem_append_right _ (List.mem_append_right _ (List.mem_append_left _ (List.mem_of_getElem? (l := tables_1_4) (i := 97) rfl)))))) rfl
theorem wd_502 : (Cond.methodLink "CloudDepth" (295 : Nat) ({ cls := "CloudDepth$Depths", name := "greatestOf", desc := "(LCloudDepth$Cloud;)I" } : MethodName)) ∈ LT := mG (List.mem_append_right _ (List.mem_append_right _ (List.mem_append_right _ (List.mem_append_right _ (List.mem_append_left _ (List.mem_of_getElem? (l := tables_1_4) (i := 132) rfl)))))) rfl
theorem wd_503 : (Cond.instanceMethod ({ cls := "CloudDepth$Depths", name := "greatestOf", desc := "(LCloudDepth$Cloud;)I" } : MethodName)) ∈ LT := mG (List.mem_append_right _ (List.mem_append_right _ (List.mem_append_right _ (List.mem_append_right _ (List.mem_append_left _ (List.mem_of_getElem? (l := tables_1_4) (i := 133) rfl)))))) rfl
theorem wd_504 : (Cond.selects "CloudDepth$Depths" ({ cls := "CloudDepth$Depths", name := "greatestOf", desc := "(LCloudDepth$Cloud;)I" } : MethodName) ({ cls := "CloudDepth$Depths", name := "greatestOf", desc := "(LCloudDepth$Cloud;)I" } : MethodName)) ∈ LT := mG (List.mem_append_right _ (List.mem_append_right _ (List.mem_append_right _ (List.mem_append_right _ (List.mem_append_left _ (List.mem_of_getElem? (l := tables_1_4) (i := 134) rfl)))))) rfl
theorem wd_505 : (Cond.methodLink "CloudDepth" (382 : Nat) ({ cls := "java/lang/Math", name := "max", desc := "(II)I" } : MethodName)) ∈ LT := mG (List.mem_append_right _ (List.mem_append_right _ (List.mem_append_right _ (List.mem_append_right _ (List.mem_append_right _ (List.mem_append_left _ (List.mem_of_getElem? (l := tables_1_5) (i := 58) rfl))))))) rfl
theorem wd_506 : (Cond.methodLink "CloudDepth$Shapes" (86 : Nat) ({ cls := "CloudDepth$SetMarks", name := "isMarked", desc := "(I)Z" } : MethodName)) ∈ LT := mG (List.mem_append_right _ (List.mem_append_right _ (List.mem_append_right _ (List.mem_append_right _ (List.mem_append_right _ (List.mem_append_left _ (List.mem_of_getElem? (l := tables_1_5) (i := 81) rfl))))))) rfl
theorem wd_507 : (Cond.methodLink "CloudDepth$Shapes" (64 : Nat) ({ cls := "CloudDepth$SetMarks", name := "clear", desc := "()V" } : MethodName)) ∈ LT := mG (List.mem_append_right _ (List.mem_append_right _ (List.mem_append_right _ (List.mem_append_right _ (List.mem_append_right _ (List.mem_append_left _ (List.mem_of_getElem? (l := tables_1_5) (i := 75) rfl))))))) rfl
theorem wd_508 : (Cond.methodLink "CloudDepth$Shapes" (67 : Nat) ({ cls := "CloudDepth$Cloud", name := "everyone", desc := "()I" } : MethodName)) ∈ LT := mG (List.mem_append_right _ (List.mem_append_right _ (List.mem_append_right _ (List.mem_append_right _ (List.mem_append_right _ (List.mem_append_left _ (List.mem_of_getElem? (l := tables_1_5) (i := 76) rfl))))))) rfl
theorem wd_509 : (Cond.methodLink "CloudDepth$Shapes" (71 : Nat) ({ cls := "CloudDepth$Shapes", name := "isConvex", desc := "(LCloudDepth$Cloud;I)Z" } : MethodName)) ∈ LT := mG (List.mem_append_right _ (List.mem_append_right _ (List.mem_append_right _ (List.mem_append_right _ (List.mem_append_right _ (List.mem_append_left _ (List.mem_of_getElem? (l := tables_1_5) (i := 77) rfl))))))) rfl
theorem wd_510 : (Cond.instanceMethod ({ cls := "CloudDepth$Shapes", name := "isConvex", desc := "(LCloudDepth$Cloud;I)Z" } : MethodName)) ∈ LT := mG (List.mem_append_right _ (List.mem_append_right _ (List.mem_append_right _ (List.mem_append_right _ (List.mem_append_right _ (List.mem_append_left _ (List.mem_of_getElem? (l := tables_1_5) (i := 79) rfl))))))) rfl
theorem wd_511 : (Cond.selects "CloudDepth$Shapes" ⟨"CloudDepth$Shapes", "isConvex", "(LCloudDepth$Cloud;I)Z"⟩ ⟨"CloudDepth$Shapes", "isConvex", "(LCloudDepth$Cloud;I)Z"⟩) ∈ LT := mG (List.mem_append_left _ (List.mem_of_getElem? (i := 26) rfl)) rfl
theorem wd_512 : (Cond.methodLink "CloudDepth$Shapes" (74 : Nat) ({ cls := "CloudDepth$SetMarks", name := "mark", desc := "(I)V" } : MethodName)) ∈ LT := mG (List.mem_append_right _ (List.mem_append_right _ (List.mem_append_right _ (List.mem_append_right _ (List.mem_append_right _ (List.mem_append_left _ (List.mem_of_getElem? (l := tables_1_5) (i := 82) rfl))))))) rfl
theorem wd_513 : (Cond.methodLink "CloudDepth$Shapes" (78 : Nat) ({ cls := "java/lang/Math", name := "max", desc := "(II)I" } : MethodName)) ∈ LT := mG (List.mem_append_right _ (List.mem_append_right _ (List.mem_append_right _ (List.mem_append_right _ (List.mem_append_right _ (List.mem_append_left _ (List.mem_of_getElem? (l := tables_1_5) (i := 83) rfl))))))) rfl
theorem wd_514 : (Cond.methodLink "CloudDepth$Shapes" (32 : Nat) ({ cls := "CloudDepth$Shapes", name := "isEmpty", desc := "(LCloudDepth$Cloud;I)Z" } : MethodName)) ∈ LT := mG (List.mem_append_right _ (List.mem_append_right _ (List.mem_append_right _ (List.mem_append_right _ (List.mem_append_right _ (List.mem_append_left _ (List.mem_of_getElem? (l := tables_1_5) (i := 88) rfl))))))) rfl
theorem wd_515 : (Cond.static ({ cls := "CloudDepth$Shapes", name := "isEmpty", desc := "(LCloudDepth$Cloud;I)Z" } : MethodName)) ∈ LT := mG (List.mem_append_right _ (List.mem_append_right _ (List.mem_append_right _ (List.mem_append_right _ (List.mem_append_right _ (List.mem_append_left _ (List.mem_of_getElem? (l := tables_1_5) (i := 89) rfl))))))) rfl
theorem wd_516 : (Cond.methodLink "CloudDepth$Shapes" (102 : Nat) ({ cls := "CloudDepth$Shapes", name := "meetingBehind", desc := "(LCloudDepth$Cloud;II)I" } : MethodName)) ∈ LT := mG (List.mem_append_right _ (List.mem_append_right _ (List.mem_append_right _ (List.mem_append_right _ (List.mem_append_right _ (List.mem_append_left _ (List.mem_of_getElem? (l := tables_1_5) (i := 95) rfl))))))) rfl
theorem wd_517 : (Cond.static ({ cls := "CloudDepth$Shapes", name := "meetingBehind", desc := "(LCloudDepth$Cloud;II)I" } : MethodName)) ∈ LT := mG (List.mem_append_right _ (List.mem_append_right _ (List.mem_append_right _ (List.mem_append_right _ (List.mem_append_right _ (List.mem_append_left _ (List.mem_of_getElem? (l := tables_1_5) (i := 96) rfl))))))) rfl
theorem wd_518 : (Cond.methodLink "CloudDepth" (379 : Nat) ({ cls := "CloudDepth$Shapes", name := "meetingPairs", desc := "(LCloudDepth$Cloud;)I" } : MethodName)) ∈ LT := mG (List.mem_append_right _ (List.mem_append_right _ (List.mem_append_right _ (List.mem_append_right _ (List.mem_append_right _ (List.mem_append_left _ (List.mem_of_getElem? (l := tables_1_5) (i := 91) rfl))))))) rfl
theorem wd_519 : (Cond.instanceMethod ({ cls := "CloudDepth$Shapes", name := "meetingPairs", desc := "(LCloudDepth$Cloud;)I" } : MethodName)) ∈ LT := mG (List.mem_append_right _ (List.mem_append_right _ (List.mem_append_right _ (List.mem_append_right _ (List.mem_append_right _ (List.mem_append_left _ (List.mem_of_getElem? (l := tables_1_5) (i := 92) rfl))))))) rfl
theorem wd_520 : (Cond.selects "CloudDepth$Shapes" ({ cls := "CloudDepth$Shapes", name := "meetingPairs", desc := "(LCloudDepth$Cloud;)I" } : MethodName) ({ cls := "CloudDepth$Shapes", name := "meetingPairs", desc := "(LCloudDepth$Cloud;)I" } : MethodName)) ∈ LT := mG (List.mem_append_right _ (List.mem_append_right _ (List.mem_append_right _ (List.mem_append_right _ (List.mem_append_right _ (List.mem_append_left _ (List.mem_of_getElem? (l := tables_1_5) (i := 93) rfl))))))) rfl
theorem wd_521 : (Cond.methodLink "CloudDepth" (376 : Nat) ({ cls := "CloudDepth$Shapes", name := "emptyTriangles", desc := "(LCloudDepth$Cloud;)I" } : MethodName)) ∈ LT := mG (List.mem_append_right _ (List.mem_append_right _ (List.mem_append_right _ (List.mem_append_right _ (List.mem_append_right _ (List.mem_append_left _ (List.mem_of_getElem? (l := tables_1_5) (i := 84) rfl))))))) rfl
theorem wd_522 : (Cond.instanceMethod ({ cls := "CloudDepth$Shapes", name := "emptyTriangles", desc := "(LCloudDepth$Cloud;)I" } : MethodName)) ∈ LT := mG (List.mem_append_right _ (List.mem_append_right _ (List.mem_append_right _ (List.mem_append_right _ (List.mem_append_right _ (List.mem_append_left _ (List.mem_of_getElem? (l := tables_1_5) (i := 85) rfl))))))) rfl
theorem wd_523 : (Cond.selects "CloudDepth$Shapes" ({ cls := "CloudDepth$Shapes", name := "emptyTriangles", desc := "(LCloudDepth$Cloud;)I" } : MethodName) ({ cls := "CloudDepth$Shapes", name := "emptyTriangles", desc := "(LCloudDepth$Cloud;)I" } : MethodName)) ∈ LT := mG (List.mem_append_right _ (List.mem_append_right _ (List.mem_append_right _ (List.mem_append_right _ (List.mem_append_right _ (List.mem_append_left _ (List.mem_of_getElem? (l := tables_1_5) (i := 86) rfl))))))) rfl
theorem wd_524 : (Cond.methodLink "CloudDepth" (373 : Nat) ({ cls := "CloudDepth$Shapes", name := "greatestConvex", desc := "(LCloudDepth$Cloud;)I" } : MethodName)) ∈ LT := mG (List.mem_append_right _ (List.mem_append_right _ (List.mem_append_right _ (List.mem_append_right _ (List.mem_append_right _ (List.mem_append_left _ (List.mem_of_getElem? (l := tables_1_5) (i := 71) rfl))))))) rfl
theorem wd_525 : (Cond.instanceMethod ({ cls := "CloudDepth$Shapes", name := "greatestConvex", desc := "(LCloudDepth$Cloud;)I" } : MethodName)) ∈ LT := mG (List.mem_append_right _ (List.mem_append_right _ (List.mem_append_right _ (List.mem_append_right _ (List.mem_append_right _ (List.mem_append_left _ (List.mem_of_getElem? (l := tables_1_5) (i := 72) rfl))))))) rfl
theorem wd_526 : (Cond.selects "CloudDepth$Shapes" ({ cls := "CloudDepth$Shapes", name := "greatestConvex", desc := "(LCloudDepth$Cloud;)I" } : MethodName) ({ cls := "CloudDepth$Shapes", name := "greatestConvex", desc := "(LCloudDepth$Cloud;)I" } : MethodName)) ∈ LT := mG (List.mem_append_right _ (List.mem_append_right _ (List.mem_append_right _ (List.mem_append_right _ (List.mem_append_right _ (List.mem_append_left _ (List.mem_of_getElem? (l := tables_1_5) (i := 73) rfl))))))) rfl
theorem wd_527 : (Cond.methodLink "CloudDepth" (370 : Nat) ({ cls := "CloudDepth", name := "thirdPart", desc := "()I" } : MethodName)) ∈ LT := mG (List.mem_append_right _ (List.mem_append_right _ (List.mem_append_right _ (List.mem_append_right _ (List.mem_append_right _ (List.mem_append_left _ (List.mem_of_getElem? (l := tables_1_5) (i := 67) rfl))))))) rfl
theorem wd_528 : (Cond.instanceMethod ({ cls := "CloudDepth", name := "thirdPart", desc := "()I" } : MethodName)) ∈ LT := mG (List.mem_append_right _ (List.mem_append_right _ (List.mem_append_right _ (List.mem_append_right _ (List.mem_append_right _ (List.mem_append_left _ (List.mem_of_getElem? (l := tables_1_5) (i := 69) rfl))))))) rfl
theorem wd_529 : (Cond.selects "CloudDepth" ⟨"CloudDepth", "thirdPart", "()I"⟩ ⟨"CloudDepth", "thirdPart", "()I"⟩) ∈ LT := mG (List.mem_append_left _ (List.mem_of_getElem? (i := 25) rfl)) rfl
theorem wd_530 : (Cond.methodLink "CloudDepth" (367 : Nat) ({ cls := "CloudDepth", name := "slotsInUse", desc := "()I" } : MethodName)) ∈ LT := mG (List.mem_append_right _ (List.mem_append_right _ (List.mem_append_right _ (List.mem_append_right _ (List.mem_append_right _ (List.mem_append_left _ (List.mem_of_getElem? (l := tables_1_5) (i := 63) rfl))))))) rfl
theorem wd_531 : (Cond.instanceMethod ({ cls := "CloudDepth", name := "slotsInUse", desc := "()I" } : MethodName)) ∈ LT := mG (List.mem_append_right _ (List.mem_append_right _ (List.mem_append_right _ (List.mem_append_right _ (List.mem_append_right _ (List.mem_append_left _ (List.mem_of_getElem? (l := tables_1_5) (i := 65) rfl))))))) rfl
theorem wd_532 : (Cond.selects "CloudDepth" ⟨"CloudDepth", "slotsInUse", "()I"⟩ ⟨"CloudDepth", "slotsInUse", "()I"⟩) ∈ LT := mG (List.mem_append_left _ (List.mem_of_getElem? (i := 24) rfl)) rfl
theorem wd_533 : (Cond.methodLink "CloudDepth" (361 : Nat) ({ cls := "CloudDepth", name := "greatestPointDepth", desc := "()I" } : MethodName)) ∈ LT := mG (List.mem_append_right _ (List.mem_append_right _ (List.mem_append_right _ (List.mem_append_right _ (List.mem_append_right _ (List.mem_append_left _ (List.mem_of_getElem? (l := tables_1_5) (i := 54) rfl))))))) rfl
theorem wd_534 : (Cond.instanceMethod ({ cls := "CloudDepth", name := "greatestPointDepth", desc := "()I" } : MethodName)) ∈ LT := mG (List.mem_append_right _ (List.mem_append_right _ (List.mem_append_right _ (List.mem_append_right _ (List.mem_append_right _ (List.mem_append_left _ (List.mem_of_getElem? (l := tables_1_5) (i := 56) rfl))))))) rfl
theorem wd_535 : (Cond.selects "CloudDepth" ⟨"CloudDepth", "greatestPointDepth", "()I"⟩ ⟨"CloudDepth", "greatestPointDepth", "()I"⟩) ∈ LT := mG (List.mem_append_left _ (List.mem_of_getElem? (i := 22) rfl)) rfl
theorem wd_536 : (Cond.methodLink "CloudDepth" (364 : Nat) ({ cls := "CloudDepth", name := "pointsOfDepth", desc := "(I)I" } : MethodName)) ∈ LT := mG (List.mem_append_right _ (List.mem_append_right _ (List.mem_append_right _ (List.mem_append_right _ (List.mem_append_right _ (List.mem_append_left _ (List.mem_of_getElem? (l := tables_1_5) (i := 59) rfl))))))) rfl
theorem wd_537 : (Cond.instanceMethod ({ cls := "CloudDepth", name := "pointsOfDepth", desc := "(I)I" } : MethodName)) ∈ LT := mG (List.mem_append_right _ (List.mem_append_right _ (List.mem_append_right _ (List.mem_append_right _ (List.mem_append_right _ (List.mem_append_left _ (List.mem_of_getElem? (l := tables_1_5) (i := 61) rfl))))))) rfl
theorem wd_538 : (Cond.selects "CloudDepth" ⟨"CloudDepth", "pointsOfDepth", "(I)I"⟩ ⟨"CloudDepth", "pointsOfDepth", "(I)I"⟩) ∈ LT := mG (List.mem_append_left _ (List.mem_of_getElem? (i := 23) rfl)) rfl
theorem wd_539 : (Cond.methodLink "CloudDepth" (358 : Nat) ({ cls := "CloudDepth$Shapes", name := "triplesOnOneLine", desc := "(LCloudDepth$Cloud;)I" } : MethodName)) ∈ LT := mG (List.mem_append_right _ (List.mem_append_right _ (List.mem_append_right _ (List.mem_append_right _ (List.mem_append_right _ (List.mem_append_left _ (List.mem_of_getElem? (l := tables_1_5) (i := 50) rfl))))))) rfl
theorem wd_540 : (Cond.instanceMethod ({ cls := "CloudDepth$Shapes", name := "triplesOnOneLine", desc := "(LCloudDepth$Cloud;)I" } : MethodName)) ∈ LT := mG (List.mem_append_right _ (List.mem_append_right _ (List.mem_append_right _ (List.mem_append_right _ (List.mem_append_right _ (List.mem_append_left _ (List.mem_of_getElem? (l := tables_1_5) (i := 51) rfl))))))) rfl
theorem wd_541 : (Cond.selects "CloudDepth$Shapes" ({ cls := "CloudDepth$Shapes", name := "triplesOnOneLine", desc := "(LCloudDepth$Cloud;)I" } : MethodName) ({ cls := "CloudDepth$Shapes", name := "triplesOnOneLine", desc := "(LCloudDepth$Cloud;)I" } : MethodName)) ∈ LT := mG (List.mem_append_right _ (List.mem_append_right _ (List.mem_append_right _ (List.mem_append_right _ (List.mem_append_right _ (List.mem_append_left _ (List.mem_of_getElem? (l := tables_1_5) (i := 52) rfl))))))) rfl
theorem wd_542 : (Cond.methodLink "CloudDepth" (355 : Nat) ({ cls := "CloudDepth$Hulls", name := "areaTwice", desc := "(LCloudDepth$Cloud;)I" } : MethodName)) ∈ LT := mG (List.mem_append_right _ (List.mem_append_right _ (List.mem_append_right _ (List.mem_append_right _ (List.mem_append_right _ (List.mem_append_left _ (List.mem_of_getElem? (l := tables_1_5) (i := 46) rfl))))))) rfl
theorem wd_543 : (Cond.instanceMethod ({ cls := "CloudDepth$Hulls", name := "areaTwice", desc := "(LCloudDepth$Cloud;)I" } : MethodName)) ∈ LT := mG (List.mem_append_right _ (List.mem_append_right _ (List.mem_append_right _ (List.mem_append_right _ (List.mem_append_right _ (List.mem_append_left _ (List.mem_of_getElem? (l := tables_1_5) (i := 47) rfl))))))) rfl
theorem wd_544 : (Cond.selects "CloudDepth$Hulls" ({ cls := "CloudDepth$Hulls", name := "areaTwice", desc := "(LCloudDepth$Cloud;)I" } : MethodName) ({ cls := "CloudDepth$Hulls", name := "areaTwice", desc := "(LCloudDepth$Cloud;)I" } : MethodName)) ∈ LT := mG (List.mem_append_right _ (List.mem_append_right _ (List.mem_append_right _ (List.mem_append_right _ (List.mem_append_right _ (List.mem_append_left _ (List.mem_of_getElem? (l := tables_1_5) (i := 48) rfl))))))) rfl
theorem wd_545 : (Cond.methodLink "CloudDepthModel" (284 : Nat) ({ cls := "CloudDepthModel", name := "isEmpty", desc := "(III)Z" } : MethodName)) ∈ LT := mG (List.mem_append_right _ (List.mem_append_right _ (List.mem_append_right _ (List.mem_append_right _ (List.mem_append_right _ (List.mem_append_right _ (List.mem_append_right _ (List.mem_of_getElem? (l := tables_1_7) (i := 140) rfl)))))))) rfl
theorem wd_546 : (Cond.instanceMethod ({ cls := "CloudDepthModel", name := "isEmpty", desc := "(III)Z" } : MethodName)) ∈ LT := mG (List.mem_append_right _ (List.mem_append_right _ (List.mem_append_right _ (List.mem_append_right _ (List.mem_append_right _ (List.mem_append_right _ (List.mem_append_right _ (List.mem_of_getElem? (l := tables_1_7) (i := 142) rfl)))))))) rfl
theorem wd_547 : (Cond.selects "CloudDepthModel" ⟨"CloudDepthModel", "isEmpty", "(III)Z"⟩ ⟨"CloudDepthModel", "isEmpty", "(III)Z"⟩) ∈ LT := mG (List.mem_append_left _ (List.mem_of_getElem? (i := 83) rfl)) rfl
theorem wd_548 : (Cond.methodLink "CloudDepthModel" (355 : Nat) ({ cls := "CloudDepthModel", name := "crossingWays", desc := "()I" } : MethodName)) ∈ LT := mG (List.mem_append_right _ (List.mem_append_right _ (List.mem_append_right _ (List.mem_append_right _ (List.mem_append_right _ (List.mem_append_right _ (List.mem_append_right _ (List.mem_of_getElem? (l := tables_1_7) (i := 144) rfl)))))))) rfl
theorem wd_549 : (Cond.instanceMethod ({ cls := "CloudDepthModel", name := "crossingWays", desc := "()I" } : MethodName)) ∈ LT := mG (List.mem_append_right _ (List.mem_append_right _ (List.mem_append_right _ (List.mem_append_right _ (List.mem_append_right _ (List.mem_append_right _ (List.mem_append_right _ (List.mem_of_getElem? (l := tables_1_7) (i := 146) rfl)))))))) rfl
theorem wd_550 : (Cond.selects "CloudDepthModel" ⟨"CloudDepthModel", "crossingWays", "()I"⟩ ⟨"CloudDepthModel", "crossingWays", "()I"⟩) ∈ LT := mG (List.mem_append_left _ (List.mem_of_getElem? (i := 84) rfl)) rfl
theorem wd_551 : (Cond.methodLink "CloudDepthModel" (352 : Nat) ({ cls := "CloudDepthModel", name := "emptyOnes", desc := "()I" } : MethodName)) ∈ LT := mG (List.mem_append_right _ (List.mem_append_right _ (List.mem_append_right _ (List.mem_append_right _ (List.mem_append_right _ (List.mem_append_right _ (List.mem_append_right _ (List.mem_of_getElem? (l := tables_1_7) (i := 136) rfl)))))))) rfl
theorem wd_552 : (Cond.instanceMethod ({ cls := "CloudDepthModel", name := "emptyOnes", desc := "()I" } : MethodName)) ∈ LT := mG (List.mem_append_right _ (List.mem_append_right _ (List.mem_append_right _ (List.mem_append_right _ (List.mem_append_right _ (List.mem_append_right _ (List.mem_append_right _ (List.mem_of_getElem? (l := tables_1_7) (i := 138) rfl)))))))) rfl
theorem wd_553 : (Cond.selects "CloudDepthModel" ⟨"CloudDepthModel", "emptyOnes", "()I"⟩ ⟨"CloudDepthModel", "emptyOnes", "()I"⟩) ∈ LT := mG (List.mem_append_left _ (List.mem_of_getElem? (i := 82) rfl)) rfl
theorem wd_554 : (Cond.methodLink "CloudDepthModel" (349 : Nat) ({ cls := "CloudDepthModel", name := "convexMost", desc := "()I" } : MethodName)) ∈ LT := mG (List.mem_append_right _ (List.mem_append_right _ (List.mem_append_right _ (List.mem_append_right _ (List.mem_append_right _ (List.mem_append_right _ (List.mem_append_right _ (List.mem_of_getElem? (l := tables_1_7) (i := 132) rfl)))))))) rfl
theorem wd_555 : (Cond.instanceMethod ({ cls := "CloudDepthModel", name := "convexMost", desc := "()I" } : MethodName)) ∈ LT := mG (List.mem_append_right _ (List.mem_append_right _ (List.mem_append_right _ (List.mem_append_right _ (List.mem_append_right _ (List.mem_append_right _ (List.mem_append_right _ (List.mem_of_getElem? (l := tables_1_7) (i := 134) rfl)))))))) rfl
theorem wd_556 : (Cond.selects "CloudDepthModel" ⟨"CloudDepthModel", "convexMost", "()I"⟩ ⟨"CloudDepthModel", "convexMost", "()I"⟩) ∈ LT := mG (List.mem_append_left _ (List.mem_of_getElem? (i := 81) rfl)) rfl
theorem wd_557 : (Cond.methodLink "CloudDepthModel" (346 : Nat) ({ cls := "CloudDepthModel", name := "third", desc := "()I" } : MethodName)) ∈ LT := mG (List.mem_append_right _ (List.mem_append_right _ (List.mem_append_right _ (List.mem_append_right _ (List.mem_append_right _ (List.mem_append_right _ (List.mem_append_right _ (List.mem_of_getElem? (l := tables_1_7) (i := 128) rfl)))))))) rfl
theorem wd_558 : (Cond.instanceMethod ({ cls := "CloudDepthModel", name := "third", desc := "()I" } : MethodName)) ∈ LT := mG (List.mem_append_right _ (List.mem_append_right _ (List.mem_append_right _ (List.mem_append_right _ (List.mem_append_right _ (List.mem_append_right _ (List.mem_append_right _ (List.mem_of_getElem? (l := tables_1_7) (i := 130) rfl)))))))) rfl
theorem wd_559 : (Cond.selects "CloudDepthModel" ⟨"CloudDepthModel", "third", "()I"⟩ ⟨"CloudDepthModel", "third", "()I"⟩) ∈ LT := mG (List.mem_append_left _ (List.mem_of_getElem? (i := 80) rfl)) rfl
theorem wd_560 : (Cond.methodLink "CloudDepthModel" (342 : Nat) ({ cls := "CloudDepthModel", name := "deepestPoint", desc := "(Z)I" } : MethodName)) ∈ LT := mG (List.mem_append_right _ (List.mem_append_right _ (List.mem_append_right _ (List.mem_append_right _ (List.mem_append_right _ (List.mem_append_right _ (List.mem_append_right _ (List.mem_of_getElem? (l := tables_1_7) (i := 124) rfl)))))))) rfl
theorem wd_561 : (Cond.instanceMethod ({ cls := "CloudDepthModel", name := "deepestPoint", desc := "(Z)I" } : MethodName)) ∈ LT := mG (List.mem_append_right _ (List.mem_append_right _ (List.mem_append_right _ (List.mem_append_right _ (List.mem_append_right _ (List.mem_append_right _ (List.mem_append_right _ (List.mem_of_getElem? (l := tables_1_7) (i := 126) rfl)))))))) rfl
theorem wd_562 : (Cond.selects "CloudDepthModel" ⟨"CloudDepthModel", "deepestPoint", "(Z)I"⟩ ⟨"CloudDepthModel", "deepestPoint", "(Z)I"⟩) ∈ LT := mG (List.mem_append_left _ (List.mem_of_getElem? (i := 79) rfl)) rfl
theorem wd_563 : (Cond.methodLink "CloudDepthModel" (339 : Nat) ({ cls := "CloudDepthModel", name := "onLine", desc := "()I" } : MethodName)) ∈ LT := mG (List.mem_append_right _ (List.mem_append_right _ (List.mem_append_right _ (List.mem_append_right _ (List.mem_append_right _ (List.mem_append_right _ (List.mem_append_right _ (List.mem_of_getElem? (l := tables_1_7) (i := 120) rfl)))))))) rfl
theorem wd_564 : (Cond.instanceMethod ({ cls := "CloudDepthModel", name := "onLine", desc := "()I" } : MethodName)) ∈ LT := mG (List.mem_append_right _ (List.mem_append_right _ (List.mem_append_right _ (List.mem_append_right _ (List.mem_append_right _ (List.mem_append_right _ (List.mem_append_right _ (List.mem_of_getElem? (l := tables_1_7) (i := 122) rfl)))))))) rfl
theorem wd_565 : (Cond.selects "CloudDepthModel" ⟨"CloudDepthModel", "onLine", "()I"⟩ ⟨"CloudDepthModel", "onLine", "()I"⟩) ∈ LT := mG (List.mem_append_left _ (List.mem_of_getElem? (i := 78) rfl)) rfl
theorem wd_566 : (Cond.methodLink "CloudDepthModel" (336 : Nat) ({ cls := "CloudDepthModel", name := "area", desc := "()I" } : MethodName)) ∈ LT := mG (List.mem_append_right _ (List.mem_append_right _ (List.mem_append_right _ (List.mem_append_right _ (List.mem_append_right _ (List.mem_append_right _ (List.mem_append_right _ (List.mem_of_getElem? (l := tables_1_7) (i := 116) rfl)))))))) rfl
theorem wd_567 : (Cond.instanceMethod ({ cls := "CloudDepthModel", name := "area", desc := "()I" } : MethodName)) ∈ LT := mG (List.mem_append_right _ (List.mem_append_right _ (List.mem_append_right _ (List.mem_append_right _ (List.mem_append_right _ (List.mem_append_right _ (List.mem_append_right _ (List.mem_of_getElem? (l := tables_1_7) (i := 118) rfl)))))))) rfl
theorem wd_568 : (Cond.selects "CloudDepthModel" ⟨"CloudDepthModel", "area", "()I"⟩ ⟨"CloudDepthModel", "area", "()I"⟩) ∈ LT := mG (List.mem_append_left _ (List.mem_of_getElem? (i := 77) rfl)) rfl
theorem wd_569 : (Cond.fieldLink "CloudDepth$Cloud" (37 : Nat) "CloudDepth$Cloud" "stamp" "I") ∈ LT := mG (List.mem_append_right _ (List.mem_append_left _ (List.mem_of_getElem? (l := tables_1_1) (i := 111) rfl))) rfl
theorem wd_570 : (Cond.fieldLink "CloudDepth$Cloud" (18 : Nat) "CloudDepth$Cloud" "grid" "I") ∈ LT := mG (List.mem_append_right _ (List.mem_append_left _ (List.mem_of_getElem? (l := tables_1_1) (i := 102) rfl))) rfl
theorem wd_571 : (Cond.fieldLink "CloudDepth$Cloud" (22 : Nat) "CloudDepth$Cloud" "size" "I") ∈ LT := mG (List.mem_append_right _ (List.mem_append_left _ (List.mem_of_getElem? (l := tables_1_1) (i := 93) rfl))) rfl
theorem wd_572 : (Cond.fieldLink "CloudDepth$Cloud" (15 : Nat) "CloudDepth$Cloud" "ys" "[I") ∈ LT := mG (List.mem_append_right _ (List.mem_append_left _ (List.mem_of_getElem? (l := tables_1_1) (i := 84) rfl))) rfl
theorem wd_573 : (Cond.fieldLink "CloudDepth$Cloud" (9 : Nat) "CloudDepth$Cloud" "xs" "[I") ∈ LT := mG (List.mem_append_right _ (List.mem_append_left _ (List.mem_of_getElem? (l := tables_1_1) (i := 76) rfl))) rfl
theorem wd_574 : (Cond.fieldLink "CloudDepth$Cuts" (18 : Nat) "CloudDepth$Cuts" "stamp" "I") ∈ LT := mG (List.mem_append_right _ (List.mem_append_right _ (List.mem_append_left _ (List.mem_of_getElem? (l := tables_1_2) (i := 13) rfl)))) rfl
theorem wd_575 : (Cond.fieldLink "CloudDepth$Cuts" (12 : Nat) "CloudDepth$Cuts" "found" "LCloudDepth$SetMarks;") ∈ LT := mG (List.mem_append_right _ (List.mem_append_right _ (List.mem_append_left _ (List.mem_of_getElem? (l := tables_1_2) (i := 11) rfl)))) rfl
theorem wd_576 : (Cond.fieldLink "CloudDepth$Cuts" (22 : Nat) "CloudDepth$Cloud" "stamp" "I") ∈ LT := mG (List.mem_append_right _ (List.mem_append_left _ (List.mem_of_getElem? (l := tables_1_1) (i := 108) rfl))) rfl
theorem wd_577 : (Cond.fieldLink "CloudDepth$Cuts" (36 : Nat) "CloudDepth$Cloud" "size" "I") ∈ LT := mG (List.mem_append_right _ (List.mem_append_left _ (List.mem_of_getElem? (l := tables_1_1) (i := 97) rfl))) rfl
theorem wd_578 : (Cond.fieldLink "CloudDepth$Depths" (88 : Nat) "CloudDepth$Depths" "mostY" "I") ∈ LT := mG (List.mem_append_right _ (List.mem_append_left _ (List.mem_of_getElem? (l := tables_1_1) (i := 206) rfl))) rfl
theorem wd_579 : (Cond.fieldLink "CloudDepth$Depths" (85 : Nat) "CloudDepth$Depths" "leastY" "I") ∈ LT := mG (List.mem_append_right _ (List.mem_append_left _ (List.mem_of_getElem? (l := tables_1_1) (i := 204) rfl))) rfl
theorem wd_580 : (Cond.fieldLink "CloudDepth$Depths" (82 : Nat) "CloudDepth$Depths" "mostX" "I") ∈ LT := mG (List.mem_append_right _ (List.mem_append_left _ (List.mem_of_getElem? (l := tables_1_1) (i := 202) rfl))) rfl
theorem wd_581 : (Cond.fieldLink "CloudDepth$Depths" (79 : Nat) "CloudDepth$Depths" "leastX" "I") ∈ LT := mG (List.mem_append_right _ (List.mem_append_left _ (List.mem_of_getElem? (l := tables_1_1) (i := 200) rfl))) rfl
theorem wd_582 : (Cond.fieldLink "CloudDepth$Depths" (76 : Nat) "CloudDepth$Depths" "regionCount" "I") ∈ LT := mG (List.mem_append_right _ (List.mem_append_left _ (List.mem_of_getElem? (l := tables_1_1) (i := 198) rfl))) rfl
theorem wd_583 : (Cond.fieldLink "CloudDepth$Depths" (73 : Nat) "CloudDepth$Depths" "firstY" "I") ∈ LT := mG (List.mem_append_right _ (List.mem_append_left _ (List.mem_of_getElem? (l := tables_1_1) (i := 196) rfl))) rfl
theorem wd_584 : (Cond.fieldLink "CloudDepth$Depths" (70 : Nat) "CloudDepth$Depths" "firstX" "I") ∈ LT := mG (List.mem_append_right _ (List.mem_append_left _ (List.mem_of_getElem? (l := tables_1_1) (i := 194) rfl))) rfl
theorem wd_585 : (Cond.fieldLink "CloudDepth$Depths" (67 : Nat) "CloudDepth$Depths" "greatestCount" "I") ∈ LT := mG (List.mem_append_right _ (List.mem_append_left _ (List.mem_of_getElem? (l := tables_1_1) (i := 192) rfl))) rfl
theorem wd_586 : (Cond.fieldLink "CloudDepth$Depths" (50 : Nat) "CloudDepth$Depths" "greatest" "I") ∈ LT := mG (List.mem_append_right _ (List.mem_append_left _ (List.mem_of_getElem? (l := tables_1_1) (i := 190) rfl))) rfl
theorem wd_587 : (Cond.fieldLink "CloudDepth$Depths" (21 : Nat) "CloudDepth$Depths" "stamp" "I") ∈ LT := mG (List.mem_append_right _ (List.mem_append_left _ (List.mem_of_getElem? (l := tables_1_1) (i := 189) rfl))) rfl
theorem wd_588 : (Cond.fieldLink "CloudDepth$Depths" (18 : Nat) "CloudDepth$Depths" "dy" "[I") ∈ LT := mG (List.mem_append_right _ (List.mem_append_left _ (List.mem_of_getElem? (l := tables_1_1) (i := 188) rfl))) rfl
theorem wd_589 : (Cond.fieldLink "CloudDepth$Depths" (15 : Nat) "CloudDepth$Depths" "dx" "[I") ∈ LT := mG (List.mem_append_right _ (List.mem_append_left _ (List.mem_of_getElem? (l := tables_1_1) (i := 187) rfl))) rfl
theorem wd_590 : (Cond.fieldLink "CloudDepth$Depths" (9 : Nat) "CloudDepth$Depths" "values" "[I") ∈ LT := mG (List.mem_append_right _ (List.mem_append_left _ (List.mem_of_getElem? (l := tables_1_1) (i := 186) rfl))) rfl
theorem wd_591 : (Cond.fieldLink "CloudDepth$Depths" (49 : Nat) "CloudDepth$Cloud" "stamp" "I") ∈ LT := mG (List.mem_append_right _ (List.mem_append_left _ (List.mem_of_getElem? (l := tables_1_1) (i := 110) rfl))) rfl
theorem wd_592 : (Cond.fieldLink "CloudDepth$Depths" (53 : Nat) "CloudDepth$Cloud" "grid" "I") ∈ LT := mG (List.mem_append_right _ (List.mem_append_left _ (List.mem_of_getElem? (l := tables_1_1) (i := 104) rfl))) rfl
theorem wd_593 : (Cond.fieldLink "CloudDepth$Depths" (29 : Nat) "CloudDepth$Cloud" "size" "I") ∈ LT := mG (List.mem_append_right _ (List.mem_append_left _ (List.mem_of_getElem? (l := tables_1_1) (i := 98) rfl))) rfl
theorem wd_594 : (Cond.fieldLink "CloudDepth$Depths" (37 : Nat) "CloudDepth$Cloud" "ys" "[I") ∈ LT := mG (List.mem_append_right _ (List.mem_append_left _ (List.mem_of_getElem? (l := tables_1_1) (i := 88) rfl))) rfl
theorem wd_595 : (Cond.fieldLink "CloudDepth$Depths" (34 : Nat) "CloudDepth$Cloud" "xs" "[I") ∈ LT := mG (List.mem_append_right _ (List.mem_append_left _ (List.mem_of_getElem? (l := tables_1_1) (i := 80) rfl))) rfl
theorem wd_596 : (Cond.fieldLink "CloudDepth$Fits" (58 : Nat) "CloudDepth$Fits" "firstB" "I") ∈ LT := mG (List.mem_append_right _ (List.mem_append_right _ (List.mem_append_left _ (List.mem_of_getElem? (l := tables_1_2) (i := 47) rfl)))) rfl
theorem wd_597 : (Cond.fieldLink "CloudDepth$Fits" (55 : Nat) "CloudDepth$Fits" "firstA" "I") ∈ LT := mG (List.mem_append_right _ (List.mem_append_right _ (List.mem_append_left _ (List.mem_of_getElem? (l := tables_1_2) (i := 45) rfl)))) rfl
theorem wd_598 : (Cond.fieldLink "CloudDepth$Fits" (52 : Nat) "CloudDepth$Fits" "greatestCount" "I") ∈ LT := mG (List.mem_append_right _ (List.mem_append_right _ (List.mem_append_left _ (List.mem_of_getElem? (l := tables_1_2) (i := 43) rfl)))) rfl
theorem wd_599 : (Cond.fieldLink "CloudDepth$Fits" (41 : Nat) "CloudDepth$Fits" "greatest" "I") ∈ LT := mG (List.mem_append_right _ (List.mem_append_right _ (List.mem_append_left _ (List.mem_of_getElem? (l := tables_1_2) (i := 41) rfl)))) rfl
theorem wd_600 : (Cond.fieldLink "CloudDepth$Fits" (15 : Nat) "CloudDepth$Fits" "stamp" "I") ∈ LT := mG (List.mem_append_right _ (List.mem_append_right _ (List.mem_append_left _ (List.mem_of_getElem? (l := tables_1_2) (i := 40) rfl)))) rfl
theorem wd_601 : (Cond.fieldLink "CloudDepth$Fits" (9 : Nat) "CloudDepth$Fits" "byX" "[I") ∈ LT := mG (List.mem_append_right _ (List.mem_append_right _ (List.mem_append_left _ (List.mem_of_getElem? (l := tables_1_2) (i := 39) rfl)))) rfl
theorem wd_602 : (Cond.fieldLink "CloudDepth$Fits" (36 : Nat) "CloudDepth$Cloud" "stamp" "I") ∈ LT := mG (List.mem_append_right _ (List.mem_append_left _ (List.mem_of_getElem? (l := tables_1_1) (i := 109) rfl))) rfl
theorem wd_603 : (Cond.fieldLink "CloudDepth$Fits" (19 : Nat) "CloudDepth$Cloud" "size" "I") ∈ LT := mG (List.mem_append_right _ (List.mem_append_left _ (List.mem_of_getElem? (l := tables_1_1) (i := 92) rfl))) rfl
theorem wd_604 : (Cond.fieldLink "CloudDepth$Fits" (27 : Nat) "CloudDepth$Cloud" "ys" "[I") ∈ LT := mG (List.mem_append_right _ (List.mem_append_left _ (List.mem_of_getElem? (l := tables_1_1) (i := 87) rfl))) rfl
theorem wd_605 : (Cond.fieldLink "CloudDepth$Fits" (24 : Nat) "CloudDepth$Cloud" "xs" "[I") ∈ LT := mG (List.mem_append_right _ (List.mem_append_left _ (List.mem_of_getElem? (l := tables_1_1) (i := 77) rfl))) rfl
theorem wd_606 : (Cond.fieldLink "CloudDepth$Hulls" (48 : Nat) "CloudDepth$Hulls" "cornerCount" "I") ∈ LT := mG (List.mem_append_right _ (List.mem_append_left _ (List.mem_of_getElem? (l := tables_1_1) (i := 169) rfl))) rfl
theorem wd_607 : (Cond.fieldLink "CloudDepth$Hulls" (24 : Nat) "CloudDepth$Hulls" "layerCount" "I") ∈ LT := mG (List.mem_append_right _ (List.mem_append_left _ (List.mem_of_getElem? (l := tables_1_1) (i := 167) rfl))) rfl
theorem wd_608 : (Cond.fieldLink "CloudDepth$Hulls" (15 : Nat) "CloudDepth$Hulls" "corners" "[I") ∈ LT := mG (List.mem_append_right _ (List.mem_append_left _ (List.mem_of_getElem? (l := tables_1_1) (i := 166) rfl))) rfl
theorem wd_609 : (Cond.fieldLink "CloudDepth$Hulls" (9 : Nat) "CloudDepth$Hulls" "layers" "[I") ∈ LT := mG (List.mem_append_right _ (List.mem_append_left _ (List.mem_of_getElem? (l := tables_1_1) (i := 165) rfl))) rfl
theorem wd_610 : (Cond.fieldLink "CloudDepth$Hulls" (59 : Nat) "CloudDepth$Cloud" "size" "I") ∈ LT := mG (List.mem_append_right _ (List.mem_append_left _ (List.mem_of_getElem? (l := tables_1_1) (i := 101) rfl))) rfl
theorem wd_611 : (Cond.fieldLink "CloudDepth$Hulls" (75 : Nat) "CloudDepth$Cloud" "ys" "[I") ∈ LT := mG (List.mem_append_right _ (List.mem_append_left _ (List.mem_of_getElem? (l := tables_1_1) (i := 90) rfl))) rfl
theorem wd_612 : (Cond.fieldLink "CloudDepth$Hulls" (78 : Nat) "CloudDepth$Cloud" "xs" "[I") ∈ LT := mG (List.mem_append_right _ (List.mem_append_left _ (List.mem_of_getElem? (l := tables_1_1) (i := 82) rfl))) rfl
theorem wd_613 : (Cond.fieldLink "CloudDepth$Lines" (31 : Nat) "CloudDepth$Lines" "crossings" "I") ∈ LT := mG (List.mem_append_right _ (List.mem_append_right _ (List.mem_append_left _ (List.mem_of_getElem? (l := tables_1_2) (i := 26) rfl)))) rfl
theorem wd_614 : (Cond.fieldLink "CloudDepth$Lines" (9 : Nat) "CloudDepth$Lines" "pairs" "[I") ∈ LT := mG (List.mem_append_right _ (List.mem_append_right _ (List.mem_append_left _ (List.mem_of_getElem? (l := tables_1_2) (i := 25) rfl)))) rfl
theorem wd_615 : (Cond.fieldLink "CloudDepth$Lines" (15 : Nat) "CloudDepth$Cloud" "size" "I") ∈ LT := mG (List.mem_append_right _ (List.mem_append_left _ (List.mem_of_getElem? (l := tables_1_1) (i := 94) rfl))) rfl
theorem wd_616 : (Cond.fieldLink "CloudDepth$Lines" (28 : Nat) "CloudDepth$Cloud" "ys" "[I") ∈ LT := mG (List.mem_append_right _ (List.mem_append_left _ (List.mem_of_getElem? (l := tables_1_1) (i := 86) rfl))) rfl
theorem wd_617 : (Cond.fieldLink "CloudDepth$Lines" (25 : Nat) "CloudDepth$Cloud" "xs" "[I") ∈ LT := mG (List.mem_append_right _ (List.mem_append_left _ (List.mem_of_getElem? (l := tables_1_1) (i := 79) rfl))) rfl
theorem wd_618 : (Cond.fieldLink "CloudDepth$SetMarks" (7 : Nat) "CloudDepth$SetMarks" "words" "[I") ∈ LT := mG (List.mem_append_right _ (List.mem_append_right _ (List.mem_append_left _ (List.mem_of_getElem? (l := tables_1_2) (i := 7) rfl)))) rfl
theorem wd_619 : (Cond.fieldLink "CloudDepth$Shapes" (12 : Nat) "CloudDepth$Shapes" "convex" "LCloudDepth$SetMarks;") ∈ LT := mG (List.mem_append_right _ (List.mem_append_right _ (List.mem_append_left _ (List.mem_of_getElem? (l := tables_1_2) (i := 70) rfl)))) rfl
theorem wd_620 : (Cond.fieldLink "CloudDepth$Shapes" (106 : Nat) "CloudDepth$Cloud" "grid" "I") ∈ LT := mG (List.mem_append_right _ (List.mem_append_left _ (List.mem_of_getElem? (l := tables_1_1) (i := 106) rfl))) rfl
theorem wd_621 : (Cond.fieldLink "CloudDepth$Shapes" (18 : Nat) "CloudDepth$Cloud" "size" "I") ∈ LT := mG (List.mem_append_right _ (List.mem_append_left _ (List.mem_of_getElem? (l := tables_1_1) (i := 95) rfl))) rfl
theorem wd_622 : (Cond.fieldLink "CloudDepth$Shapes" (44 : Nat) "CloudDepth$Cloud" "ys" "[I") ∈ LT := mG (List.mem_append_right _ (List.mem_append_left _ (List.mem_of_getElem? (l := tables_1_1) (i := 89) rfl))) rfl
theorem wd_623 : (Cond.fieldLink "CloudDepth$Shapes" (40 : Nat) "CloudDepth$Cloud" "xs" "[I") ∈ LT := mG (List.mem_append_right _ (List.mem_append_left _ (List.mem_of_getElem? (l := tables_1_1) (i := 81) rfl))) rfl
theorem wd_624 : (Cond.fieldLink "CloudDepth$Shelf" (17 : Nat) "CloudDepth$Shelf" "rows" "[[I") ∈ LT := mG (List.mem_append_right _ (List.mem_append_right _ (List.mem_append_left _ (List.mem_of_getElem? (l := tables_1_2) (i := 85) rfl)))) rfl
theorem wd_625 : (Cond.fieldLink "CloudDepth$Shelf" (22 : Nat) "CloudDepth$Cloud" "grid" "I") ∈ LT := mG (List.mem_append_right _ (List.mem_append_left _ (List.mem_of_getElem? (l := tables_1_1) (i := 103) rfl))) rfl
theorem wd_626 : (Cond.fieldLink "CloudDepth$Shelf" (28 : Nat) "CloudDepth$Cloud" "size" "I") ∈ LT := mG (List.mem_append_right _ (List.mem_append_left _ (List.mem_of_getElem? (l := tables_1_1) (i := 96) rfl))) rfl
theorem wd_627 : (Cond.fieldLink "CloudDepth$Shelf" (35 : Nat) "CloudDepth$Cloud" "ys" "[I") ∈ LT := mG (List.mem_append_right _ (List.mem_append_left _ (List.mem_of_getElem? (l := tables_1_1) (i := 85) rfl))) rfl
theorem wd_628 : (Cond.fieldLink "CloudDepth$Shelf" (31 : Nat) "CloudDepth$Cloud" "xs" "[I") ∈ LT := mG (List.mem_append_right _ (List.mem_append_left _ (List.mem_of_getElem? (l := tables_1_1) (i := 78) rfl))) rfl
theorem wd_629 : (Cond.fieldLink "CloudDepth$Tape" (19 : Nat) "CloudDepth$Tape" "next" "I") ∈ LT := mG (List.mem_append_right _ (List.mem_append_left _ (List.mem_of_getElem? (l := tables_1_1) (i := 47) rfl))) rfl
theorem wd_630 : (Cond.fieldLink "CloudDepth$Tape" (48 : Nat) "CloudDepth$Tape" "name" "J") ∈ LT := mG (List.mem_append_right _ (List.mem_append_left _ (List.mem_of_getElem? (l := tables_1_1) (i := 45) rfl))) rfl
theorem wd_631 : (Cond.fieldLink "CloudDepth$Tape" (71 : Nat) "CloudDepth$Tape" "number" "I") ∈ LT := mG (List.mem_append_right _ (List.mem_append_left _ (List.mem_of_getElem? (l := tables_1_1) (i := 43) rfl))) rfl
theorem wd_632 : (Cond.fieldLink "CloudDepth$Tape" (45 : Nat) "CloudDepth$Tape" "kind" "I") ∈ LT := mG (List.mem_append_right _ (List.mem_append_left _ (List.mem_of_getElem? (l := tables_1_1) (i := 42) rfl))) rfl
theorem wd_633 : (Cond.fieldLink "CloudDepth$Tape" (22 : Nat) "CloudDepth$Tape" "start" "I") ∈ LT := mG (List.mem_append_right _ (List.mem_append_left _ (List.mem_of_getElem? (l := tables_1_1) (i := 40) rfl))) rfl
theorem wd_634 : (Cond.fieldLink "CloudDepth$Tape" (15 : Nat) "CloudDepth$Tape" "length" "I") ∈ LT := mG (List.mem_append_right _ (List.mem_append_left _ (List.mem_of_getElem? (l := tables_1_1) (i := 37) rfl))) rfl
theorem wd_635 : (Cond.fieldLink "CloudDepth$Tape" (9 : Nat) "CloudDepth$Tape" "bytes" "[I") ∈ LT := mG (List.mem_append_right _ (List.mem_append_left _ (List.mem_of_getElem? (l := tables_1_1) (i := 35) rfl))) rfl
theorem wd_636 : (Cond.fieldLink "CloudDepth$TextReader" (80 : Nat) "CloudDepth$TextReader" "minus" "Z") ∈ LT := mG (List.mem_append_right _ (List.mem_append_left _ (List.mem_of_getElem? (l := tables_1_1) (i := 134) rfl))) rfl
theorem wd_637 : (Cond.fieldLink "CloudDepth$TextReader" (108 : Nat) "CloudDepth$TextReader" "x" "I") ∈ LT := mG (List.mem_append_right _ (List.mem_append_left _ (List.mem_of_getElem? (l := tables_1_1) (i := 133) rfl))) rfl
theorem wd_638 : (Cond.fieldLink "CloudDepth$TextReader" (77 : Nat) "CloudDepth$TextReader" "pointLines" "I") ∈ LT := mG (List.mem_append_right _ (List.mem_append_left _ (List.mem_of_getElem? (l := tables_1_1) (i := 132) rfl))) rfl
theorem wd_639 : (Cond.fieldLink "CloudDepth$TextReader" (74 : Nat) "CloudDepth$TextReader" "tokenCount" "I") ∈ LT := mG (List.mem_append_right _ (List.mem_append_left _ (List.mem_of_getElem? (l := tables_1_1) (i := 131) rfl))) rfl
theorem wd_640 : (Cond.fieldLink "CloudDepth$TextReader" (53 : Nat) "CloudDepth$TextReader" "state" "I") ∈ LT := mG (List.mem_append_right _ (List.mem_append_left _ (List.mem_of_getElem? (l := tables_1_1) (i := 130) rfl))) rfl
theorem wd_641 : (Cond.fieldLink "CloudDepth$TextReader" (65 : Nat) "CloudDepth$TextReader" "fault" "I") ∈ LT := mG (List.mem_append_right _ (List.mem_append_left _ (List.mem_of_getElem? (l := tables_1_1) (i := 129) rfl))) rfl
theorem wd_642 : (Cond.fieldLink "CloudDepth$TextReader" (22 : Nat) "CloudDepth$TextReader" "names" "[J") ∈ LT := mG (List.mem_append_right _ (List.mem_append_left _ (List.mem_of_getElem? (l := tables_1_1) (i := 128) rfl))) rfl
theorem wd_643 : (Cond.fieldLink "CloudDepth$TextReader" (26 : Nat) "CloudDepth$TextReader" "tape" "LCloudDepth$Tape;") ∈ LT := mG (List.mem_append_right _ (List.mem_append_left _ (List.mem_of_getElem? (l := tables_1_1) (i := 127) rfl))) rfl
theorem wd_644 : (Cond.fieldLink "CloudDepth$TextReader" (18 : Nat) "CloudDepth$TextReader" "faultPlace" "I") ∈ LT := mG (List.mem_append_right _ (List.mem_append_left _ (List.mem_of_getElem? (l := tables_1_1) (i := 125) rfl))) rfl
theorem wd_645 : (Cond.fieldLink "CloudDepth$TextReader" (12 : Nat) "CloudDepth$TextReader" "told" "LCloudDepth$Cloud;") ∈ LT := mG (List.mem_append_right _ (List.mem_append_left _ (List.mem_of_getElem? (l := tables_1_1) (i := 123) rfl))) rfl
theorem wd_646 : (Cond.fieldLink "CloudDepth$TextReader" (119 : Nat) "CloudDepth$Cloud" "grid" "I") ∈ LT := mG (List.mem_append_right _ (List.mem_append_left _ (List.mem_of_getElem? (l := tables_1_1) (i := 105) rfl))) rfl
theorem wd_647 : (Cond.fieldLink "CloudDepth$TextReader" (94 : Nat) "CloudDepth$Cloud" "size" "I") ∈ LT := mG (List.mem_append_right _ (List.mem_append_left _ (List.mem_of_getElem? (l := tables_1_1) (i := 100) rfl))) rfl
theorem wd_648 : (Cond.fieldLink "CloudDepth$TextReader" (97 : Nat) "CloudDepth$Tape" "name" "J") ∈ LT := mG (List.mem_append_right _ (List.mem_append_left _ (List.mem_of_getElem? (l := tables_1_1) (i := 46) rfl))) rfl
theorem wd_649 : (Cond.fieldLink "CloudDepth$TextReader" (87 : Nat) "CloudDepth$Tape" "number" "I") ∈ LT := mG (List.mem_append_right _ (List.mem_append_left _ (List.mem_of_getElem? (l := tables_1_1) (i := 44) rfl))) rfl
theorem wd_650 : (Cond.fieldLink "CloudDepth$TextReader" (56 : Nat) "CloudDepth$Tape" "kind" "I") ∈ LT := mG (List.mem_append_right _ (List.mem_append_left _ (List.mem_of_getElem? (l := tables_1_1) (i := 41) rfl))) rfl
theorem wd_651 : (Cond.fieldLink "CloudDepth$TextReader" (43 : Nat) "CloudDepth$Tape" "start" "I") ∈ LT := mG (List.mem_append_right _ (List.mem_append_left _ (List.mem_of_getElem? (l := tables_1_1) (i := 39) rfl))) rfl
theorem wd_652 : (Cond.fieldLink "CloudDepth$TextReader" (62 : Nat) "CloudDepth$Tape" "length" "I") ∈ LT := mG (List.mem_append_right _ (List.mem_append_left _ (List.mem_of_getElem? (l := tables_1_1) (i := 38) rfl))) rfl
theorem wd_653 : (Cond.fieldLink "CloudDepth" (154 : Nat) "CloudDepth" "nextPast" "I") ∈ LT := mG (List.mem_append_right _ (List.mem_append_right _ (List.mem_append_left _ (List.mem_of_getElem? (l := tables_1_2) (i := 103) rfl)))) rfl
theorem wd_654 : (Cond.fieldLink "CloudDepth" (151 : Nat) "CloudDepth" "undoable" "I") ∈ LT := mG (List.mem_append_right _ (List.mem_append_right _ (List.mem_append_left _ (List.mem_of_getElem? (l := tables_1_2) (i := 102) rfl)))) rfl
theorem wd_655 : (Cond.fieldLink "CloudDepth" (89 : Nat) "CloudDepth" "slotHolds" "[Z") ∈ LT := mG (List.mem_append_right _ (List.mem_append_right _ (List.mem_append_left _ (List.mem_of_getElem? (l := tables_1_2) (i := 101) rfl)))) rfl
theorem wd_656 : (Cond.fieldLink "CloudDepth" (86 : Nat) "CloudDepth" "slots" "LCloudDepth$Shelf;") ∈ LT := mG (List.mem_append_right _ (List.mem_append_right _ (List.mem_append_left _ (List.mem_of_getElem? (l := tables_1_2) (i := 100) rfl)))) rfl
theorem wd_657 : (Cond.fieldLink "CloudDepth" (82 : Nat) "CloudDepth" "past" "LCloudDepth$Shelf;") ∈ LT := mG (List.mem_append_right _ (List.mem_append_right _ (List.mem_append_left _ (List.mem_of_getElem? (l := tables_1_2) (i := 99) rfl)))) rfl
theorem wd_658 : (Cond.fieldLink "CloudDepth" (73 : Nat) "CloudDepth" "shapes" "LCloudDepth$Shapes;") ∈ LT := mG (List.mem_append_right _ (List.mem_append_right _ (List.mem_append_left _ (List.mem_of_getElem? (l := tables_1_2) (i := 98) rfl)))) rfl
theorem wd_659 : (Cond.fieldLink "CloudDepth" (66 : Nat) "CloudDepth" "fits" "LCloudDepth$Fits;") ∈ LT := mG (List.mem_append_right _ (List.mem_append_right _ (List.mem_append_left _ (List.mem_of_getElem? (l := tables_1_2) (i := 97) rfl)))) rfl
theorem wd_660 : (Cond.fieldLink "CloudDepth" (59 : Nat) "CloudDepth" "lines" "LCloudDepth$Lines;") ∈ LT := mG (List.mem_append_right _ (List.mem_append_right _ (List.mem_append_left _ (List.mem_of_getElem? (l := tables_1_2) (i := 96) rfl)))) rfl
theorem wd_661 : (Cond.fieldLink "CloudDepth" (52 : Nat) "CloudDepth" "cuts" "LCloudDepth$Cuts;") ∈ LT := mG (List.mem_append_right _ (List.mem_append_right _ (List.mem_append_left _ (List.mem_of_getElem? (l := tables_1_2) (i := 95) rfl)))) rfl
theorem wd_662 : (Cond.fieldLink "CloudDepth" (45 : Nat) "CloudDepth" "depths" "LCloudDepth$Depths;") ∈ LT := mG (List.mem_append_right _ (List.mem_append_right _ (List.mem_append_left _ (List.mem_of_getElem? (l := tables_1_2) (i := 94) rfl)))) rfl
theorem wd_663 : (Cond.fieldLink "CloudDepth" (38 : Nat) "CloudDepth" "hulls" "LCloudDepth$Hulls;") ∈ LT := mG (List.mem_append_right _ (List.mem_append_right _ (List.mem_append_left _ (List.mem_of_getElem? (l := tables_1_2) (i := 93) rfl)))) rfl
theorem wd_664 : (Cond.fieldLink "CloudDepth" (32 : Nat) "CloudDepth" "trial" "LCloudDepth$Cloud;") ∈ LT := mG (List.mem_append_right _ (List.mem_append_right _ (List.mem_append_left _ (List.mem_of_getElem? (l := tables_1_2) (i := 92) rfl)))) rfl
theorem wd_665 : (Cond.fieldLink "CloudDepth" (28 : Nat) "CloudDepth" "cloud" "LCloudDepth$Cloud;") ∈ LT := mG (List.mem_append_right _ (List.mem_append_right _ (List.mem_append_left _ (List.mem_of_getElem? (l := tables_1_2) (i := 91) rfl)))) rfl
theorem wd_666 : (Cond.fieldLink "CloudDepth" (21 : Nat) "CloudDepth" "reader" "LCloudDepth$TextReader;") ∈ LT := mG (List.mem_append_right _ (List.mem_append_right _ (List.mem_append_left _ (List.mem_of_getElem? (l := tables_1_2) (i := 90) rfl)))) rfl
theorem wd_667 : (Cond.fieldLink "CloudDepth" (10 : Nat) "CloudDepth" "tape" "LCloudDepth$Tape;") ∈ LT := mG (List.mem_append_right _ (List.mem_append_right _ (List.mem_append_left _ (List.mem_of_getElem? (l := tables_1_2) (i := 89) rfl)))) rfl
theorem wd_668 : (Cond.fieldLink "CloudDepth" (348 : Nat) "CloudDepth$Fits" "firstB" "I") ∈ LT := mG (List.mem_append_right _ (List.mem_append_right _ (List.mem_append_left _ (List.mem_of_getElem? (l := tables_1_2) (i := 48) rfl)))) rfl
theorem wd_669 : (Cond.fieldLink "CloudDepth" (345 : Nat) "CloudDepth$Fits" "firstA" "I") ∈ LT := mG (List.mem_append_right _ (List.mem_append_right _ (List.mem_append_left _ (List.mem_of_getElem? (l := tables_1_2) (i := 46) rfl)))) rfl
theorem wd_670 : (Cond.fieldLink "CloudDepth" (351 : Nat) "CloudDepth$Fits" "greatestCount" "I") ∈ LT := mG (List.mem_append_right _ (List.mem_append_right _ (List.mem_append_left _ (List.mem_of_getElem? (l := tables_1_2) (i := 44) rfl)))) rfl
theorem wd_671 : (Cond.fieldLink "CloudDepth" (344 : Nat) "CloudDepth$Fits" "greatest" "I") ∈ LT := mG (List.mem_append_right _ (List.mem_append_right _ (List.mem_append_left _ (List.mem_of_getElem? (l := tables_1_2) (i := 42) rfl)))) rfl
theorem wd_672 : (Cond.fieldLink "CloudDepth" (314 : Nat) "CloudDepth$Lines" "crossings" "I") ∈ LT := mG (List.mem_append_right _ (List.mem_append_right _ (List.mem_append_left _ (List.mem_of_getElem? (l := tables_1_2) (i := 27) rfl)))) rfl
theorem wd_673 : (Cond.fieldLink "CloudDepth" (245 : Nat) "CloudDepth$Cuts" "found" "LCloudDepth$SetMarks;") ∈ LT := mG (List.mem_append_right _ (List.mem_append_right _ (List.mem_append_left _ (List.mem_of_getElem? (l := tables_1_2) (i := 12) rfl)))) rfl
theorem wd_674 : (Cond.fieldLink "CloudDepth" (292 : Nat) "CloudDepth$Depths" "mostY" "I") ∈ LT := mG (List.mem_append_right _ (List.mem_append_left _ (List.mem_of_getElem? (l := tables_1_1) (i := 207) rfl))) rfl
theorem wd_675 : (Cond.fieldLink "CloudDepth" (289 : Nat) "CloudDepth$Depths" "leastY" "I") ∈ LT := mG (List.mem_append_right _ (List.mem_append_left _ (List.mem_of_getElem? (l := tables_1_1) (i := 205) rfl))) rfl
theorem wd_676 : (Cond.fieldLink "CloudDepth" (286 : Nat) "CloudDepth$Depths" "mostX" "I") ∈ LT := mG (List.mem_append_right _ (List.mem_append_left _ (List.mem_of_getElem? (l := tables_1_1) (i := 203) rfl))) rfl
theorem wd_677 : (Cond.fieldLink "CloudDepth" (283 : Nat) "CloudDepth$Depths" "leastX" "I") ∈ LT := mG (List.mem_append_right _ (List.mem_append_left _ (List.mem_of_getElem? (l := tables_1_1) (i := 201) rfl))) rfl
theorem wd_678 : (Cond.fieldLink "CloudDepth" (280 : Nat) "CloudDepth$Depths" "regionCount" "I") ∈ LT := mG (List.mem_append_right _ (List.mem_append_left _ (List.mem_of_getElem? (l := tables_1_1) (i := 199) rfl))) rfl
theorem wd_679 : (Cond.fieldLink "CloudDepth" (273 : Nat) "CloudDepth$Depths" "firstY" "I") ∈ LT := mG (List.mem_append_right _ (List.mem_append_left _ (List.mem_of_getElem? (l := tables_1_1) (i := 197) rfl))) rfl
theorem wd_680 : (Cond.fieldLink "CloudDepth" (270 : Nat) "CloudDepth$Depths" "firstX" "I") ∈ LT := mG (List.mem_append_right _ (List.mem_append_left _ (List.mem_of_getElem? (l := tables_1_1) (i := 195) rfl))) rfl
theorem wd_681 : (Cond.fieldLink "CloudDepth" (267 : Nat) "CloudDepth$Depths" "greatestCount" "I") ∈ LT := mG (List.mem_append_right _ (List.mem_append_left _ (List.mem_of_getElem? (l := tables_1_1) (i := 193) rfl))) rfl
theorem wd_682 : (Cond.fieldLink "CloudDepth" (264 : Nat) "CloudDepth$Depths" "greatest" "I") ∈ LT := mG (List.mem_append_right _ (List.mem_append_left _ (List.mem_of_getElem? (l := tables_1_1) (i := 191) rfl))) rfl
theorem wd_683 : (Cond.fieldLink "CloudDepth" (220 : Nat) "CloudDepth$Hulls" "cornerCount" "I") ∈ LT := mG (List.mem_append_right _ (List.mem_append_left _ (List.mem_of_getElem? (l := tables_1_1) (i := 170) rfl))) rfl
theorem wd_684 : (Cond.fieldLink "CloudDepth" (226 : Nat) "CloudDepth$Hulls" "layerCount" "I") ∈ LT := mG (List.mem_append_right _ (List.mem_append_left _ (List.mem_of_getElem? (l := tables_1_1) (i := 168) rfl))) rfl
theorem wd_685 : (Cond.fieldLink "CloudDepth" (117 : Nat) "CloudDepth$TextReader" "faultPlace" "I") ∈ LT := mG (List.mem_append_right _ (List.mem_append_left _ (List.mem_of_getElem? (l := tables_1_1) (i := 126) rfl))) rfl
theorem wd_686 : (Cond.fieldLink "CloudDepth" (104 : Nat) "CloudDepth$TextReader" "told" "LCloudDepth$Cloud;") ∈ LT := mG (List.mem_append_right _ (List.mem_append_left _ (List.mem_of_getElem? (l := tables_1_1) (i := 124) rfl))) rfl
theorem wd_687 : (Cond.fieldLink "CloudDepth" (352 : Nat) "CloudDepth$Cloud" "grid" "I") ∈ LT := mG (List.mem_append_right _ (List.mem_append_left _ (List.mem_of_getElem? (l := tables_1_1) (i := 107) rfl))) rfl
theorem wd_688 : (Cond.fieldLink "CloudDepth" (120 : Nat) "CloudDepth$Cloud" "size" "I") ∈ LT := mG (List.mem_append_right _ (List.mem_append_left _ (List.mem_of_getElem? (l := tables_1_1) (i := 99) rfl))) rfl
theorem wd_689 : (Cond.fieldLink "CloudDepth" (175 : Nat) "CloudDepth$Cloud" "ys" "[I") ∈ LT := mG (List.mem_append_right _ (List.mem_append_left _ (List.mem_of_getElem? (l := tables_1_1) (i := 91) rfl))) rfl
theorem wd_690 : (Cond.fieldLink "CloudDepth" (171 : Nat) "CloudDepth$Cloud" "xs" "[I") ∈ LT := mG (List.mem_append_right _ (List.mem_append_left _ (List.mem_of_getElem? (l := tables_1_1) (i := 83) rfl))) rfl
theorem wd_691 : (Cond.fieldLink "CloudDepth" (93 : Nat) "CloudDepth$Tape" "length" "I") ∈ LT := mG (List.mem_append_right _ (List.mem_append_left _ (List.mem_of_getElem? (l := tables_1_1) (i := 36) rfl))) rfl
theorem wd_692 : (Cond.fieldLink "CloudDepthModel" (86 : Nat) "CloudDepthModel" "restOf" "[I") ∈ LT := mG (List.mem_append_right _ (List.mem_append_right _ (List.mem_append_right _ (List.mem_append_right _ (List.mem_append_right _ (List.mem_append_left _ (List.mem_of_getElem? (l := tables_1_5) (i := 149) rfl))))))) rfl
theorem wd_693 : (Cond.fieldLink "CloudDepthModel" (83 : Nat) "CloudDepthModel" "uppers" "[I") ∈ LT := mG (List.mem_append_right _ (List.mem_append_right _ (List.mem_append_right _ (List.mem_append_right _ (List.mem_append_right _ (List.mem_append_left _ (List.mem_of_getElem? (l := tables_1_5) (i := 148) rfl))))))) rfl
theorem wd_694 : (Cond.fieldLink "CloudDepthModel" (80 : Nat) "CloudDepthModel" "lowers" "[I") ∈ LT := mG (List.mem_append_right _ (List.mem_append_right _ (List.mem_append_right _ (List.mem_append_right _ (List.mem_append_right _ (List.mem_append_left _ (List.mem_of_getElem? (l := tables_1_5) (i := 147) rfl))))))) rfl
theorem wd_695 : (Cond.fieldLink "CloudDepthModel" (77 : Nat) "CloudDepthModel" "unders" "[I") ∈ LT := mG (List.mem_append_right _ (List.mem_append_right _ (List.mem_append_right _ (List.mem_append_right _ (List.mem_append_right _ (List.mem_append_left _ (List.mem_of_getElem? (l := tables_1_5) (i := 146) rfl))))))) rfl
theorem wd_696 : (Cond.fieldLink "CloudDepthModel" (74 : Nat) "CloudDepthModel" "overs" "[I") ∈ LT := mG (List.mem_append_right _ (List.mem_append_right _ (List.mem_append_right _ (List.mem_append_right _ (List.mem_append_right _ (List.mem_append_left _ (List.mem_of_getElem? (l := tables_1_5) (i := 145) rfl))))))) rfl
theorem wd_697 : (Cond.fieldLink "CloudDepthModel" (299 : Nat) "CloudDepthModel" "deepMany" "I") ∈ LT := mG (List.mem_append_right _ (List.mem_append_right _ (List.mem_append_right _ (List.mem_append_right _ (List.mem_append_right _ (List.mem_append_left _ (List.mem_of_getElem? (l := tables_1_5) (i := 144) rfl))))))) rfl
theorem wd_698 : (Cond.fieldLink "CloudDepthModel" (296 : Nat) "CloudDepthModel" "deepY" "I") ∈ LT := mG (List.mem_append_right _ (List.mem_append_right _ (List.mem_append_right _ (List.mem_append_right _ (List.mem_append_right _ (List.mem_append_left _ (List.mem_of_getElem? (l := tables_1_5) (i := 143) rfl))))))) rfl
theorem wd_699 : (Cond.fieldLink "CloudDepthModel" (293 : Nat) "CloudDepthModel" "deepX" "I") ∈ LT := mG (List.mem_append_right _ (List.mem_append_right _ (List.mem_append_right _ (List.mem_append_right _ (List.mem_append_right _ (List.mem_append_left _ (List.mem_of_getElem? (l := tables_1_5) (i := 142) rfl))))))) rfl
theorem wd_700 : (Cond.fieldLink "CloudDepthModel" (258 : Nat) "CloudDepthModel" "meetings" "I") ∈ LT := mG (List.mem_append_right _ (List.mem_append_right _ (List.mem_append_right _ (List.mem_append_right _ (List.mem_append_right _ (List.mem_append_left _ (List.mem_of_getElem? (l := tables_1_5) (i := 141) rfl))))))) rfl
theorem wd_701 : (Cond.fieldLink "CloudDepthModel" (71 : Nat) "CloudDepthModel" "otherOf" "[I") ∈ LT := mG (List.mem_append_right _ (List.mem_append_right _ (List.mem_append_right _ (List.mem_append_right _ (List.mem_append_right _ (List.mem_append_left _ (List.mem_of_getElem? (l := tables_1_5) (i := 140) rfl))))))) rfl
theorem wd_702 : (Cond.fieldLink "CloudDepthModel" (68 : Nat) "CloudDepthModel" "oneOf" "[I") ∈ LT := mG (List.mem_append_right _ (List.mem_append_right _ (List.mem_append_right _ (List.mem_append_right _ (List.mem_append_right _ (List.mem_append_left _ (List.mem_of_getElem? (l := tables_1_5) (i := 139) rfl))))))) rfl
theorem wd_703 : (Cond.fieldLink "CloudDepthModel" (65 : Nat) "CloudDepthModel" "cornerAt" "[I") ∈ LT := mG (List.mem_append_right _ (List.mem_append_right _ (List.mem_append_right _ (List.mem_append_right _ (List.mem_append_right _ (List.mem_append_left _ (List.mem_of_getElem? (l := tables_1_5) (i := 138) rfl))))))) rfl
theorem wd_704 : (Cond.fieldLink "CloudDepthModel" (62 : Nat) "CloudDepthModel" "layers" "[I") ∈ LT := mG (List.mem_append_right _ (List.mem_append_right _ (List.mem_append_right _ (List.mem_append_right _ (List.mem_append_right _ (List.mem_append_left _ (List.mem_of_getElem? (l := tables_1_5) (i := 137) rfl))))))) rfl
theorem wd_705 : (Cond.fieldLink "CloudDepthModel" (59 : Nat) "CloudDepthModel" "isHeld" "[Z") ∈ LT := mG (List.mem_append_right _ (List.mem_append_right _ (List.mem_append_right _ (List.mem_append_right _ (List.mem_append_right _ (List.mem_append_left _ (List.mem_of_getElem? (l := tables_1_5) (i := 136) rfl))))))) rfl
theorem wd_706 : (Cond.fieldLink "CloudDepthModel" (56 : Nat) "CloudDepthModel" "held" "[I") ∈ LT := mG (List.mem_append_right _ (List.mem_append_right _ (List.mem_append_right _ (List.mem_append_right _ (List.mem_append_right _ (List.mem_append_left _ (List.mem_of_getElem? (l := tables_1_5) (i := 135) rfl))))))) rfl
theorem wd_707 : (Cond.fieldLink "CloudDepthModel" (167 : Nat) "CloudDepthModel" "undos" "I") ∈ LT := mG (List.mem_append_right _ (List.mem_append_right _ (List.mem_append_right _ (List.mem_append_right _ (List.mem_append_right _ (List.mem_append_left _ (List.mem_of_getElem? (l := tables_1_5) (i := 134) rfl))))))) rfl
theorem wd_708 : (Cond.fieldLink "CloudDepthModel" (200 : Nat) "CloudDepthModel" "earliest" "I") ∈ LT := mG (List.mem_append_right _ (List.mem_append_right _ (List.mem_append_right _ (List.mem_append_right _ (List.mem_append_right _ (List.mem_append_left _ (List.mem_of_getElem? (l := tables_1_5) (i := 133) rfl))))))) rfl
theorem wd_709 : (Cond.fieldLink "CloudDepthModel" (53 : Nat) "CloudDepthModel" "earlier" "[I") ∈ LT := mG (List.mem_append_right _ (List.mem_append_right _ (List.mem_append_right _ (List.mem_append_right _ (List.mem_append_right _ (List.mem_append_left _ (List.mem_of_getElem? (l := tables_1_5) (i := 132) rfl))))))) rfl
theorem wd_710 : (Cond.fieldLink "CloudDepthModel" (158 : Nat) "CloudDepthModel" "newPoints" "I") ∈ LT := mG (List.mem_append_right _ (List.mem_append_right _ (List.mem_append_right _ (List.mem_append_right _ (List.mem_append_right _ (List.mem_append_left _ (List.mem_of_getElem? (l := tables_1_5) (i := 131) rfl))))))) rfl
theorem wd_711 : (Cond.fieldLink "CloudDepthModel" (49 : Nat) "CloudDepthModel" "isGood" "[Z") ∈ LT := mG (List.mem_append_right _ (List.mem_append_right _ (List.mem_append_right _ (List.mem_append_right _ (List.mem_append_right _ (List.mem_append_left _ (List.mem_of_getElem? (l := tables_1_5) (i := 130) rfl))))))) rfl
theorem wd_712 : (Cond.fieldLink "CloudDepthModel" (46 : Nat) "CloudDepthModel" "names" "[J") ∈ LT := mG (List.mem_append_right _ (List.mem_append_right _ (List.mem_append_right _ (List.mem_append_right _ (List.mem_append_right _ (List.mem_append_left _ (List.mem_of_getElem? (l := tables_1_5) (i := 129) rfl))))))) rfl
theorem wd_713 : (Cond.fieldLink "CloudDepthModel" (43 : Nat) "CloudDepthModel" "draft" "[I") ∈ LT := mG (List.mem_append_right _ (List.mem_append_right _ (List.mem_append_right _ (List.mem_append_right _ (List.mem_append_right _ (List.mem_append_left _ (List.mem_of_getElem? (l := tables_1_5) (i := 128) rfl))))))) rfl
theorem wd_714 : (Cond.fieldLink "CloudDepthModel" (40 : Nat) "CloudDepthModel" "now" "[I") ∈ LT := mG (List.mem_append_right _ (List.mem_append_right _ (List.mem_append_right _ (List.mem_append_right _ (List.mem_append_right _ (List.mem_append_left _ (List.mem_of_getElem? (l := tables_1_5) (i := 127) rfl))))))) rfl
theorem wd_715 : (Cond.fieldLink "CloudDepthModel" (37 : Nat) "CloudDepthModel" "place" "I") ∈ LT := mG (List.mem_append_right _ (List.mem_append_right _ (List.mem_append_right _ (List.mem_append_right _ (List.mem_append_right _ (List.mem_append_left _ (List.mem_of_getElem? (l := tables_1_5) (i := 126) rfl))))))) rfl
theorem wd_716 : (Cond.fieldLink "CloudDepthModel" (143 : Nat) "CloudDepthModel" "worstPlace" "I") ∈ LT := mG (List.mem_append_right _ (List.mem_append_right _ (List.mem_append_right _ (List.mem_append_right _ (List.mem_append_right _ (List.mem_append_left _ (List.mem_of_getElem? (l := tables_1_5) (i := 125) rfl))))))) rfl
theorem wd_717 : (Cond.fieldLink "CloudDepthModel" (140 : Nat) "CloudDepthModel" "worst" "I") ∈ LT := mG (List.mem_append_right _ (List.mem_append_right _ (List.mem_append_right _ (List.mem_append_right _ (List.mem_append_right _ (List.mem_append_left _ (List.mem_of_getElem? (l := tables_1_5) (i := 124) rfl))))))) rfl
theorem wd_718 : (Cond.fieldLink "CloudDepthModel" (137 : Nat) "CloudDepthModel" "faultPlace" "I") ∈ LT := mG (List.mem_append_right _ (List.mem_append_right _ (List.mem_append_right _ (List.mem_append_right _ (List.mem_append_right _ (List.mem_append_left _ (List.mem_of_getElem? (l := tables_1_5) (i := 123) rfl))))))) rfl
theorem wd_719 : (Cond.fieldLink "CloudDepthModel" (131 : Nat) "CloudDepthModel" "fault" "I") ∈ LT := mG (List.mem_append_right _ (List.mem_append_right _ (List.mem_append_right _ (List.mem_append_right _ (List.mem_append_right _ (List.mem_append_left _ (List.mem_of_getElem? (l := tables_1_5) (i := 122) rfl))))))) rfl
theorem wd_720 : (Cond.fieldLink "CloudDepthModel" (134 : Nat) "CloudDepthModel" "t" "I") ∈ LT := mG (List.mem_append_right _ (List.mem_append_right _ (List.mem_append_right _ (List.mem_append_right _ (List.mem_append_right _ (List.mem_append_left _ (List.mem_of_getElem? (l := tables_1_5) (i := 121) rfl))))))) rfl
theorem wd_721 : (Cond.fieldLink "CloudDepthModel" (109 : Nat) "CloudDepthModel" "tokens" "I") ∈ LT := mG (List.mem_append_right _ (List.mem_append_right _ (List.mem_append_right _ (List.mem_append_right _ (List.mem_append_right _ (List.mem_append_left _ (List.mem_of_getElem? (l := tables_1_5) (i := 120) rfl))))))) rfl
theorem wd_722 : (Cond.fieldLink "CloudDepthModel" (34 : Nat) "CloudDepthModel" "keys" "[J") ∈ LT := mG (List.mem_append_right _ (List.mem_append_right _ (List.mem_append_right _ (List.mem_append_right _ (List.mem_append_right _ (List.mem_append_left _ (List.mem_of_getElem? (l := tables_1_5) (i := 119) rfl))))))) rfl
theorem wd_723 : (Cond.fieldLink "CloudDepthModel" (30 : Nat) "CloudDepthModel" "tName" "[J") ∈ LT := mG (List.mem_append_right _ (List.mem_append_right _ (List.mem_append_right _ (List.mem_append_right _ (List.mem_append_right _ (List.mem_append_left _ (List.mem_of_getElem? (l := tables_1_5) (i := 118) rfl))))))) rfl
theorem wd_724 : (Cond.fieldLink "CloudDepthModel" (27 : Nat) "CloudDepthModel" "tValue" "[I") ∈ LT := mG (List.mem_append_right _ (List.mem_append_right _ (List.mem_append_right _ (List.mem_append_right _ (List.mem_append_right _ (List.mem_append_left _ (List.mem_of_getElem? (l := tables_1_5) (i := 117) rfl))))))) rfl
theorem wd_725 : (Cond.fieldLink "CloudDepthModel" (24 : Nat) "CloudDepthModel" "tPlace" "[I") ∈ LT := mG (List.mem_append_right _ (List.mem_append_right _ (List.mem_append_right _ (List.mem_append_right _ (List.mem_append_right _ (List.mem_append_left _ (List.mem_of_getElem? (l := tables_1_5) (i := 116) rfl))))))) rfl
theorem wd_726 : (Cond.fieldLink "CloudDepthModel" (20 : Nat) "CloudDepthModel" "tKind" "[I") ∈ LT := mG (List.mem_append_right _ (List.mem_append_right _ (List.mem_append_right _ (List.mem_append_right _ (List.mem_append_right _ (List.mem_append_left _ (List.mem_of_getElem? (l := tables_1_5) (i := 115) rfl))))))) rfl
theorem wd_727 : (Cond.fieldLink "CloudDepthModel" (100 : Nat) "CloudDepthModel" "size" "I") ∈ LT := mG (List.mem_append_right _ (List.mem_append_right _ (List.mem_append_right _ (List.mem_append_right _ (List.mem_append_right _ (List.mem_append_left _ (List.mem_of_getElem? (l := tables_1_5) (i := 114) rfl))))))) rfl
theorem wd_728 : (Cond.fieldLink "CloudDepthModel" (17 : Nat) "CloudDepthModel" "text" "[B") ∈ LT := mG (List.mem_append_right _ (List.mem_append_right _ (List.mem_append_right _ (List.mem_append_right _ (List.mem_append_right _ (List.mem_append_left _ (List.mem_of_getElem? (l := tables_1_5) (i := 113) rfl))))))) rfl
theorem wd_729 : (Cond.fieldLink "CloudDepthModel" (93 : Nat) "CloudDepthModel" "taped" "I") ∈ LT := mG (List.mem_append_right _ (List.mem_append_right _ (List.mem_append_right _ (List.mem_append_right _ (List.mem_append_right _ (List.mem_append_left _ (List.mem_of_getElem? (l := tables_1_5) (i := 112) rfl))))))) rfl
theorem wd_730 : (Cond.fieldLink "CloudDepthModel" (13 : Nat) "CloudDepthModel" "tape" "[B") ∈ LT := mG (List.mem_append_right _ (List.mem_append_right _ (List.mem_append_right _ (List.mem_append_right _ (List.mem_append_right _ (List.mem_append_left _ (List.mem_of_getElem? (l := tables_1_5) (i := 111) rfl))))))) rfl
theorem wd_731 : (Cond.constant "CloudDepth" (170 : Nat) (-100000 : Int32)) ∈ LT := mG (List.mem_append_right _ (List.mem_append_right _ (List.mem_append_right _ (List.mem_append_left _ (List.mem_of_getElem? (l := tables_1_3) (i := 143) rfl))))) rfl
theorem wd_732 : (Cond.constant "CloudDepthModel" (220 : Nat) (-100000 : Int32)) ∈ LT := mG (List.mem_append_right _ (List.mem_append_right _ (List.mem_append_right _ (List.mem_append_right _ (List.mem_append_right _ (List.mem_append_right _ (List.mem_append_left _ (List.mem_of_getElem? (l := tables_1_6) (i := 136) rfl)))))))) rfl
theorem wd_733 : (Cond.constant "java/lang/Integer" (265 : Nat) (1431655765 : Int32)) ∈ LT := mG (List.mem_append_right _ (List.mem_append_right _ (List.mem_append_right _ (List.mem_append_left _ (List.mem_of_getElem? (l := tables_1_3) (i := 232) rfl))))) rfl
theorem wd_734 : (Cond.constant "java/lang/Integer" (266 : Nat) (858993459 : Int32)) ∈ LT := mG (List.mem_append_right _ (List.mem_append_right _ (List.mem_append_right _ (List.mem_append_left _ (List.mem_of_getElem? (l := tables_1_3) (i := 233) rfl))))) rfl
theorem wd_735 : (Cond.constant "java/lang/Integer" (267 : Nat) (252645135 : Int32)) ∈ LT := mG (List.mem_append_right _ (List.mem_append_right _ (List.mem_append_right _ (List.mem_append_left _ (List.mem_of_getElem? (l := tables_1_3) (i := 234) rfl))))) rfl
theorem wd_736 : (Cond.code ({ cls := "CloudDepth$Tape", name := "push", desc := "(I)V" } : MethodName) prog_11_method_2_code (3 : Nat) (Option.none : Option Jvm.ClassFile.FieldType)) ∈ LT := mG (List.mem_append_right _ (List.mem_append_right _ (List.mem_append_left _ (List.mem_of_getElem? (l := tables_1_2) (i := 143) rfl)))) rfl
theorem wd_737 : (Cond.code ({ cls := "CloudDepth", name := "feed", desc := "(IIIII)I" } : MethodName) prog_1_method_2_code (6 : Nat) (Option.some Jvm.ClassFile.FieldType.int)) ∈ LT := mG (List.mem_append_right _ (List.mem_append_right _ (List.mem_append_left _ (List.mem_of_getElem? (l := tables_1_2) (i := 139) rfl)))) rfl
theorem wd_738 : (Cond.code ({ cls := "CloudDepthModel", name := "lays", desc := "(I)V" } : MethodName) prog_14_method_4_code (3 : Nat) (Option.none : Option Jvm.ClassFile.FieldType)) ∈ LT := mG (List.mem_append_right _ (List.mem_append_right _ (List.mem_append_right _ (List.mem_append_right _ (List.mem_append_right _ (List.mem_append_left _ (List.mem_of_getElem? (l := tables_1_5) (i := 238) rfl))))))) rfl
theorem wd_739 : (Cond.code ({ cls := "CloudDepthModel", name := "feed", desc := "(IIIII)I" } : MethodName) prog_14_method_3_code (6 : Nat) (Option.some Jvm.ClassFile.FieldType.int)) ∈ LT := mG (List.mem_append_right _ (List.mem_append_right _ (List.mem_append_right _ (List.mem_append_right _ (List.mem_append_right _ (List.mem_append_left _ (List.mem_of_getElem? (l := tables_1_5) (i := 234) rfl))))))) rfl
theorem wd_740 : (Cond.code ({ cls := "CloudDepth", name := "back", desc := "(I)I" } : MethodName) prog_1_method_3_code (2 : Nat) (Option.some Jvm.ClassFile.FieldType.int)) ∈ LT := mG (List.mem_append_right _ (List.mem_append_right _ (List.mem_append_left _ (List.mem_of_getElem? (l := tables_1_2) (i := 147) rfl)))) rfl
theorem wd_741 : (Cond.code ({ cls := "CloudDepthModel", name := "back", desc := "(I)I" } : MethodName) prog_14_method_5_code (2 : Nat) (Option.some Jvm.ClassFile.FieldType.int)) ∈ LT := mG (List.mem_append_right _ (List.mem_append_right _ (List.mem_append_right _ (List.mem_append_right _ (List.mem_append_right _ (List.mem_append_right _ (List.mem_append_left _ (List.mem_of_getElem? (l := tables_1_6) (i := 2) rfl)))))))) rfl
theorem wd_742 : (Cond.code ({ cls := "CloudDepth$Tape", name := "rewind", desc := "()V" } : MethodName) prog_11_method_3_code (1 : Nat) (Option.none : Option Jvm.ClassFile.FieldType)) ∈ LT := mG (List.mem_append_right _ (List.mem_append_right _ (List.mem_append_left _ (List.mem_of_getElem? (l := tables_1_2) (i := 163) rfl)))) rfl
theorem wd_743 : (Cond.code ({ cls := "CloudDepth$Cloud", name := "clear", desc := "()V" } : MethodName) prog_2_method_7_code (1 : Nat) (Option.none : Option Jvm.ClassFile.FieldType)) ∈ LT := mG (List.mem_append_right _ (List.mem_append_right _ (List.mem_append_left _ (List.mem_of_getElem? (l := tables_1_2) (i := 167) rfl)))) rfl
theorem wd_744 : (Cond.code ({ cls := "CloudDepth$TextReader", name := "reset", desc := "()V" } : MethodName) prog_12_method_3_code (1 : Nat) (Option.none : Option Jvm.ClassFile.FieldType)) ∈ LT := mG (List.mem_append_right _ (List.mem_append_right _ (List.mem_append_left _ (List.mem_of_getElem? (l := tables_1_2) (i := 159) rfl)))) rfl
theorem wd_745 : (Cond.code ({ cls := "CloudDepth$Tape", name := "byteAt", desc := "(I)I" } : MethodName) prog_11_method_8_code (2 : Nat) (Option.some Jvm.ClassFile.FieldType.int)) ∈ LT := mG (List.mem_append_right _ (List.mem_append_right _ (List.mem_append_left _ (List.mem_of_getElem? (l := tables_1_2) (i := 175) rfl)))) rfl
theorem wd_746 : (Cond.code ({ cls := "CloudDepth$Tape", name := "isBlank", desc := "(I)Z" } : MethodName) prog_11_method_9_code (1 : Nat) (Option.some Jvm.ClassFile.FieldType.boolean)) ∈ LT := mG (List.mem_append_right _ (List.mem_append_right _ (List.mem_append_left _ (List.mem_of_getElem? (l := tables_1_2) (i := 178) rfl)))) rfl
theorem wd_747 : (Cond.code ({ cls := "CloudDepth$Tape", name := "isLetter", desc := "(I)Z" } : MethodName) prog_11_method_10_code (1 : Nat) (Option.some Jvm.ClassFile.FieldType.boolean)) ∈ LT := mG (List.mem_append_right _ (List.mem_append_right _ (List.mem_append_left _ (List.mem_of_getElem? (l := tables_1_2) (i := 181) rfl)))) rfl
theorem wd_748 : (Cond.code ({ cls := "CloudDepth$Tape", name := "spells", desc := "(Ljava/lang/String;)Z" } : MethodName) prog_11_method_6_code (3 : Nat) (Option.some Jvm.ClassFile.FieldType.boolean)) ∈ LT := mG (List.mem_append_right _ (List.mem_append_right _ (List.mem_append_left _ (List.mem_of_getElem? (l := tables_1_2) (i := 191) rfl)))) rfl
theorem wd_749 : (Cond.code ({ cls := "CloudDepth$Tape", name := "scanLetters", desc := "()V" } : MethodName) prog_11_method_5_code (1 : Nat) (Option.none : Option Jvm.ClassFile.FieldType)) ∈ LT := mG (List.mem_append_right _ (List.mem_append_right _ (List.mem_append_left _ (List.mem_of_getElem? (l := tables_1_2) (i := 185) rfl)))) rfl
theorem wd_750 : (Cond.code ({ cls := "CloudDepth$Tape", name := "isDigit", desc := "(I)Z" } : MethodName) prog_11_method_11_code (1 : Nat) (Option.some Jvm.ClassFile.FieldType.boolean)) ∈ LT := mG (List.mem_append_right _ (List.mem_append_right _ (List.mem_append_right _ (List.mem_append_left _ (List.mem_of_getElem? (l := tables_1_3) (i := 3) rfl))))) rfl
theorem wd_751 : (Cond.code ({ cls := "CloudDepth$Tape", name := "scanDigits", desc := "()V" } : MethodName) prog_11_method_7_code (1 : Nat) (Option.none : Option Jvm.ClassFile.FieldType)) ∈ LT := mG (List.mem_append_right _ (List.mem_append_right _ (List.mem_append_right _ (List.mem_append_left _ (List.mem_of_getElem? (l := tables_1_3) (i := 7) rfl))))) rfl
theorem wd_752 : (Cond.code ({ cls := "CloudDepth$Tape", name := "advance", desc := "()Z" } : MethodName) prog_11_method_4_code (2 : Nat) (Option.some Jvm.ClassFile.FieldType.boolean)) ∈ LT := mG (List.mem_append_right _ (List.mem_append_right _ (List.mem_append_left _ (List.mem_of_getElem? (l := tables_1_2) (i := 171) rfl)))) rfl
theorem wd_753 : (Cond.code ({ cls := "CloudDepth$TextReader", name := "following", desc := "(II)I" } : MethodName) prog_12_method_6_code (2 : Nat) (Option.some Jvm.ClassFile.FieldType.int)) ∈ LT := mG (List.mem_append_right _ (List.mem_append_right _ (List.mem_append_right _ (List.mem_append_left _ (List.mem_of_getElem? (l := tables_1_3) (i := 14) rfl))))) rfl
theorem wd_754 : (Cond.code ({ cls := "CloudDepth$TextReader", name := "hardFault", desc := "()I" } : MethodName) prog_12_method_5_code (1 : Nat) (Option.some Jvm.ClassFile.FieldType.int)) ∈ LT := mG (List.mem_append_right _ (List.mem_append_right _ (List.mem_append_right _ (List.mem_append_left _ (List.mem_of_getElem? (l := tables_1_3) (i := 11) rfl))))) rfl
theorem wd_755 : (Cond.code ({ cls := "CloudDepth$TextReader", name := "endWith", desc := "(II)I" } : MethodName) prog_12_method_4_code (3 : Nat) (Option.some Jvm.ClassFile.FieldType.int)) ∈ LT := mG (List.mem_append_right _ (List.mem_append_right _ (List.mem_append_right _ (List.mem_append_left _ (List.mem_of_getElem? (l := tables_1_3) (i := 18) rfl))))) rfl
theorem wd_756 : (Cond.code ({ cls := "CloudDepth$TextReader", name := "takeName", desc := "()V" } : MethodName) prog_12_method_8_code (2 : Nat) (Option.none : Option Jvm.ClassFile.FieldType)) ∈ LT := mG (List.mem_append_right _ (List.mem_append_right _ (List.mem_append_right _ (List.mem_append_left _ (List.mem_of_getElem? (l := tables_1_3) (i := 26) rfl))))) rfl
theorem wd_757 : (Cond.code ({ cls := "CloudDepth$TextReader", name := "takeGrid", desc := "(I)V" } : MethodName) prog_12_method_10_code (2 : Nat) (Option.none : Option Jvm.ClassFile.FieldType)) ∈ LT := mG (List.mem_append_right _ (List.mem_append_right _ (List.mem_append_right _ (List.mem_append_left _ (List.mem_of_getElem? (l := tables_1_3) (i := 34) rfl))))) rfl
theorem wd_758 : (Cond.code ({ cls := "CloudDepth", name := "isWithinReach", desc := "(I)Z" } : MethodName) prog_1_method_45_code (1 : Nat) (Option.some Jvm.ClassFile.FieldType.boolean)) ∈ LT := mG (List.mem_append_right _ (List.mem_append_right _ (List.mem_append_right _ (List.mem_append_left _ (List.mem_of_getElem? (l := tables_1_3) (i := 37) rfl))))) rfl
theorem wd_759 : (Cond.code ({ cls := "CloudDepth$Cloud", name := "isTaken", desc := "(II)Z" } : MethodName) prog_2_method_5_code (4 : Nat) (Option.some Jvm.ClassFile.FieldType.boolean)) ∈ LT := mG (List.mem_append_right _ (List.mem_append_right _ (List.mem_append_right _ (List.mem_append_left _ (List.mem_of_getElem? (l := tables_1_3) (i := 46) rfl))))) rfl
theorem wd_760 : (Cond.code ({ cls := "CloudDepth$Cloud", name := "isFree", desc := "(II)Z" } : MethodName) prog_2_method_6_code (3 : Nat) (Option.some Jvm.ClassFile.FieldType.boolean)) ∈ LT := mG (List.mem_append_right _ (List.mem_append_right _ (List.mem_append_right _ (List.mem_append_left _ (List.mem_of_getElem? (l := tables_1_3) (i := 41) rfl))))) rfl
theorem wd_761 : (Cond.code ({ cls := "CloudDepth$Cloud", name := "append", desc := "(II)V" } : MethodName) prog_2_method_8_code (3 : Nat) (Option.none : Option Jvm.ClassFile.FieldType)) ∈ LT := mG (List.mem_append_right _ (List.mem_append_right _ (List.mem_append_right _ (List.mem_append_left _ (List.mem_of_getElem? (l := tables_1_3) (i := 50) rfl))))) rfl
theorem wd_762 : (Cond.code ({ cls := "CloudDepth$TextReader", name := "takeNumber", desc := "(I)V" } : MethodName) prog_12_method_9_code (2 : Nat) (Option.none : Option Jvm.ClassFile.FieldType)) ∈ LT := mG (List.mem_append_right _ (List.mem_append_right _ (List.mem_append_right _ (List.mem_append_left _ (List.mem_of_getElem? (l := tables_1_3) (i := 30) rfl))))) rfl
theorem wd_763 : (Cond.code ({ cls := "CloudDepth$TextReader", name := "take", desc := "()V" } : MethodName) prog_12_method_7_code (1 : Nat) (Option.none : Option Jvm.ClassFile.FieldType)) ∈ LT := mG (List.mem_append_right _ (List.mem_append_right _ (List.mem_append_right _ (List.mem_append_left _ (List.mem_of_getElem? (l := tables_1_3) (i := 22) rfl))))) rfl
theorem wd_764 : (Cond.code ({ cls := "CloudDepth$TextReader", name := "parse", desc := "()I" } : MethodName) prog_12_method_2_code (3 : Nat) (Option.some Jvm.ClassFile.FieldType.int)) ∈ LT := mG (List.mem_append_right _ (List.mem_append_right _ (List.mem_append_left _ (List.mem_of_getElem? (l := tables_1_2) (i := 155) rfl)))) rfl
theorem wd_765 : (Cond.code ({ cls := "CloudDepth$Cloud", name := "takeFrom", desc := "(LCloudDepth$Cloud;)V" } : MethodName) prog_2_method_13_code (3 : Nat) (Option.none : Option Jvm.ClassFile.FieldType)) ∈ LT := mG (List.mem_append_right _ (List.mem_append_right _ (List.mem_append_right _ (List.mem_append_left _ (List.mem_of_getElem? (l := tables_1_3) (i := 54) rfl))))) rfl
theorem wd_766 : (Cond.code ({ cls := "CloudDepth", name := "forgetPast", desc := "()V" } : MethodName) prog_1_method_14_code (1 : Nat) (Option.none : Option Jvm.ClassFile.FieldType)) ∈ LT := mG (List.mem_append_right _ (List.mem_append_right _ (List.mem_append_right _ (List.mem_append_left _ (List.mem_of_getElem? (l := tables_1_3) (i := 60) rfl))))) rfl
theorem wd_767 : (Cond.code ({ cls := "CloudDepth", name := "emptySlots", desc := "()V" } : MethodName) prog_1_method_15_code (2 : Nat) (Option.none : Option Jvm.ClassFile.FieldType)) ∈ LT := mG (List.mem_append_right _ (List.mem_append_right _ (List.mem_append_right _ (List.mem_append_left _ (List.mem_of_getElem? (l := tables_1_3) (i := 64) rfl))))) rfl
theorem wd_768 : (Cond.code ({ cls := "CloudDepth", name := "read", desc := "()I" } : MethodName) prog_1_method_4_code (2 : Nat) (Option.some Jvm.ClassFile.FieldType.int)) ∈ LT := mG (List.mem_append_right _ (List.mem_append_right _ (List.mem_append_left _ (List.mem_of_getElem? (l := tables_1_2) (i := 151) rfl)))) rfl
theorem wd_769 : (Cond.code ({ cls := "CloudDepthModel", name := "byteAt", desc := "(I)I" } : MethodName) prog_14_method_6_code (2 : Nat) (Option.some Jvm.ClassFile.FieldType.int)) ∈ LT := mG (List.mem_append_right _ (List.mem_append_right _ (List.mem_append_right _ (List.mem_append_right _ (List.mem_append_right _ (List.mem_append_right _ (List.mem_append_left _ (List.mem_of_getElem? (l := tables_1_6) (i := 14) rfl)))))))) rfl
theorem wd_770 : (Cond.code ({ cls := "CloudDepthModel", name := "token", desc := "(IIIJ)V" } : MethodName) prog_14_method_11_code (6 : Nat) (Option.none : Option Jvm.ClassFile.FieldType)) ∈ LT := mG (List.mem_append_right _ (List.mem_append_right _ (List.mem_append_right _ (List.mem_append_right _ (List.mem_append_right _ (List.mem_append_right _ (List.mem_append_left _ (List.mem_of_getElem? (l := tables_1_6) (i := 18) rfl)))))))) rfl
theorem wd_771 : (Cond.code ({ cls := "CloudDepthModel", name := "isLetter", desc := "(I)Z" } : MethodName) prog_14_method_8_code (1 : Nat) (Option.some Jvm.ClassFile.FieldType.boolean)) ∈ LT := mG (List.mem_append_right _ (List.mem_append_right _ (List.mem_append_right _ (List.mem_append_right _ (List.mem_append_right _ (List.mem_append_right _ (List.mem_append_left _ (List.mem_of_getElem? (l := tables_1_6) (i := 21) rfl)))))))) rfl
theorem wd_772 : (Cond.code ({ cls := "CloudDepthModel", name := "appends", desc := "(JI)J" } : MethodName) prog_14_method_9_code (3 : Nat) (Option.some Jvm.ClassFile.FieldType.long)) ∈ LT := mG (List.mem_append_right _ (List.mem_append_right _ (List.mem_append_right _ (List.mem_append_right _ (List.mem_append_right _ (List.mem_append_left _ (List.mem_of_getElem? (l := tables_1_5) (i := 109) rfl))))))) rfl
theorem wd_773 : (Cond.code ({ cls := "CloudDepthModel", name := "isDigit", desc := "(I)Z" } : MethodName) prog_14_method_7_code (1 : Nat) (Option.some Jvm.ClassFile.FieldType.boolean)) ∈ LT := mG (List.mem_append_right _ (List.mem_append_right _ (List.mem_append_right _ (List.mem_append_right _ (List.mem_append_right _ (List.mem_append_right _ (List.mem_append_left _ (List.mem_of_getElem? (l := tables_1_6) (i := 24) rfl)))))))) rfl
theorem wd_774 : (Cond.code ({ cls := "CloudDepthModel", name := "sign", desc := "(II)I" } : MethodName) prog_14_method_13_code (3 : Nat) (Option.some Jvm.ClassFile.FieldType.int)) ∈ LT := mG (List.mem_append_right _ (List.mem_append_right _ (List.mem_append_right _ (List.mem_append_right _ (List.mem_append_right _ (List.mem_append_right _ (List.mem_append_left _ (List.mem_of_getElem? (l := tables_1_6) (i := 28) rfl)))))))) rfl
theorem wd_775 : (Cond.code ({ cls := "CloudDepthModel", name := "cutsText", desc := "()V" } : MethodName) prog_14_method_12_code (8 : Nat) (Option.none : Option Jvm.ClassFile.FieldType)) ∈ LT := mG (List.mem_append_right _ (List.mem_append_right _ (List.mem_append_right _ (List.mem_append_right _ (List.mem_append_right _ (List.mem_append_right _ (List.mem_append_left _ (List.mem_of_getElem? (l := tables_1_6) (i := 10) rfl)))))))) rfl
theorem wd_776 : (Cond.code ({ cls := "CloudDepthModel", name := "is", desc := "(I)Z" } : MethodName) prog_14_method_14_code (2 : Nat) (Option.some Jvm.ClassFile.FieldType.boolean)) ∈ LT := mG (List.mem_append_right _ (List.mem_append_right _ (List.mem_append_right _ (List.mem_append_right _ (List.mem_append_right _ (List.mem_append_right _ (List.mem_append_left _ (List.mem_of_getElem? (l := tables_1_6) (i := 32) rfl)))))))) rfl
theorem wd_777 : (Cond.code ({ cls := "CloudDepthModel", name := "fail", desc := "(I)V" } : MethodName) prog_14_method_15_code (2 : Nat) (Option.none : Option Jvm.ClassFile.FieldType)) ∈ LT := mG (List.mem_append_right _ (List.mem_append_right _ (List.mem_append_right _ (List.mem_append_right _ (List.mem_append_right _ (List.mem_append_right _ (List.mem_append_left _ (List.mem_of_getElem? (l := tables_1_6) (i := 40) rfl)))))))) rfl
theorem wd_778 : (Cond.code ({ cls := "CloudDepthModel", name := "passes", desc := "()V" } : MethodName) prog_14_method_17_code (1 : Nat) (Option.none : Option Jvm.ClassFile.FieldType)) ∈ LT := mG (List.mem_append_right _ (List.mem_append_right _ (List.mem_append_right _ (List.mem_append_right _ (List.mem_append_right _ (List.mem_append_right _ (List.mem_append_left _ (List.mem_of_getElem? (l := tables_1_6) (i := 44) rfl)))))))) rfl
theorem wd_779 : (Cond.code ({ cls := "CloudDepthModel", name := "must", desc := "(I)V" } : MethodName) prog_14_method_18_code (2 : Nat) (Option.none : Option Jvm.ClassFile.FieldType)) ∈ LT := mG (List.mem_append_right _ (List.mem_append_right _ (List.mem_append_right _ (List.mem_append_right _ (List.mem_append_right _ (List.mem_append_right _ (List.mem_append_left _ (List.mem_of_getElem? (l := tables_1_6) (i := 48) rfl)))))))) rfl
theorem wd_780 : (Cond.code ({ cls := "CloudDepthModel", name := "signed", desc := "()V" } : MethodName) prog_14_method_21_code (1 : Nat) (Option.none : Option Jvm.ClassFile.FieldType)) ∈ LT := mG (List.mem_append_right _ (List.mem_append_right _ (List.mem_append_right _ (List.mem_append_right _ (List.mem_append_right _ (List.mem_append_right _ (List.mem_append_left _ (List.mem_of_getElem? (l := tables_1_6) (i := 52) rfl)))))))) rfl
theorem wd_781 : (Cond.code ({ cls := "CloudDepthModel", name := "line", desc := "()V" } : MethodName) prog_14_method_22_code (1 : Nat) (Option.none : Option Jvm.ClassFile.FieldType)) ∈ LT := mG (List.mem_append_right _ (List.mem_append_right _ (List.mem_append_right _ (List.mem_append_right _ (List.mem_append_right _ (List.mem_append_right _ (List.mem_append_left _ (List.mem_of_getElem? (l := tables_1_6) (i := 36) rfl)))))))) rfl
theorem wd_782 : (Cond.code ({ cls := "CloudDepthModel", name := "wrong", desc := "(II)V" } : MethodName) prog_14_method_16_code (4 : Nat) (Option.none : Option Jvm.ClassFile.FieldType)) ∈ LT := mG (List.mem_append_right _ (List.mem_append_right _ (List.mem_append_right _ (List.mem_append_right _ (List.mem_append_right _ (List.mem_append_right _ (List.mem_append_left _ (List.mem_of_getElem? (l := tables_1_6) (i := 64) rfl)))))))) rfl
theorem wd_783 : (Cond.code ({ cls := "CloudDepthModel", name := "meansPoint", desc := "(I)V" } : MethodName) prog_14_method_24_code (6 : Nat) (Option.none : Option Jvm.ClassFile.FieldType)) ∈ LT := mG (List.mem_append_right _ (List.mem_append_right _ (List.mem_append_right _ (List.mem_append_right _ (List.mem_append_right _ (List.mem_append_right _ (List.mem_append_left _ (List.mem_of_getElem? (l := tables_1_6) (i := 60) rfl)))))))) rfl
theorem wd_784 : (Cond.code ({ cls := "CloudDepthModel", name := "in", desc := "(III)Z" } : MethodName) prog_14_method_25_code (3 : Nat) (Option.some Jvm.ClassFile.FieldType.boolean)) ∈ LT := mG (List.mem_append_right _ (List.mem_append_right _ (List.mem_append_right _ (List.mem_append_right _ (List.mem_append_right _ (List.mem_append_right _ (List.mem_append_left _ (List.mem_of_getElem? (l := tables_1_6) (i := 67) rfl)))))))) rfl
theorem wd_785 : (Cond.code ({ cls := "CloudDepthModel", name := "means", desc := "()V" } : MethodName) prog_14_method_23_code (2 : Nat) (Option.none : Option Jvm.ClassFile.FieldType)) ∈ LT := mG (List.mem_append_right _ (List.mem_append_right _ (List.mem_append_right _ (List.mem_append_right _ (List.mem_append_right _ (List.mem_append_right _ (List.mem_append_left _ (List.mem_of_getElem? (l := tables_1_6) (i := 56) rfl)))))))) rfl
theorem wd_786 : (Cond.code ({ cls := "CloudDepthModel", name := "read", desc := "()I" } : MethodName) prog_14_method_19_code (2 : Nat) (Option.some Jvm.ClassFile.FieldType.int)) ∈ LT := mG (List.mem_append_right _ (List.mem_append_right _ (List.mem_append_right _ (List.mem_append_right _ (List.mem_append_right _ (List.mem_append_right _ (List.mem_append_left _ (List.mem_of_getElem? (l := tables_1_6) (i := 6) rfl)))))))) rfl
theorem wd_787 : (Cond.code ({ cls := "CloudDepth", name := "place", desc := "()I" } : MethodName) prog_1_method_5_code (1 : Nat) (Option.some Jvm.ClassFile.FieldType.int)) ∈ LT := mG (List.mem_append_right _ (List.mem_append_right _ (List.mem_append_right _ (List.mem_append_left _ (List.mem_of_getElem? (l := tables_1_3) (i := 69) rfl))))) rfl
theorem wd_788 : (Cond.code ({ cls := "CloudDepthModel", name := "place", desc := "()I" } : MethodName) prog_14_method_20_code (1 : Nat) (Option.some Jvm.ClassFile.FieldType.int)) ∈ LT := mG (List.mem_append_right _ (List.mem_append_right _ (List.mem_append_right _ (List.mem_append_right _ (List.mem_append_right _ (List.mem_append_right _ (List.mem_append_left _ (List.mem_of_getElem? (l := tables_1_6) (i := 71) rfl)))))))) rfl
theorem wd_789 : (Cond.code ({ cls := "CloudDepth$Shelf", name := "keep", desc := "(ILCloudDepth$Cloud;)V" } : MethodName) prog_10_method_2_code (5 : Nat) (Option.none : Option Jvm.ClassFile.FieldType)) ∈ LT := mG (List.mem_append_right _ (List.mem_append_right _ (List.mem_append_right _ (List.mem_append_left _ (List.mem_of_getElem? (l := tables_1_3) (i := 82) rfl))))) rfl
theorem wd_790 : (Cond.code ({ cls := "CloudDepth", name := "rememberPast", desc := "()V" } : MethodName) prog_1_method_13_code (1 : Nat) (Option.none : Option Jvm.ClassFile.FieldType)) ∈ LT := mG (List.mem_append_right _ (List.mem_append_right _ (List.mem_append_right _ (List.mem_append_left _ (List.mem_of_getElem? (l := tables_1_3) (i := 78) rfl))))) rfl
theorem wd_791 : (Cond.code ({ cls := "CloudDepth", name := "add", desc := "(II)I" } : MethodName) prog_1_method_6_code (3 : Nat) (Option.some Jvm.ClassFile.FieldType.int)) ∈ LT := mG (List.mem_append_right _ (List.mem_append_right _ (List.mem_append_right _ (List.mem_append_left _ (List.mem_of_getElem? (l := tables_1_3) (i := 73) rfl))))) rfl
theorem wd_792 : (Cond.code ({ cls := "CloudDepthModel", name := "all", desc := "()I" } : MethodName) prog_14_method_28_code (1 : Nat) (Option.some Jvm.ClassFile.FieldType.int)) ∈ LT := mG (List.mem_append_right _ (List.mem_append_right _ (List.mem_append_right _ (List.mem_append_right _ (List.mem_append_right _ (List.mem_append_right _ (List.mem_append_left _ (List.mem_of_getElem? (l := tables_1_6) (i := 91) rfl)))))))) rfl
theorem wd_793 : (Cond.code ({ cls := "CloudDepthModel", name := "x", desc := "(I)I" } : MethodName) prog_14_method_30_code (2 : Nat) (Option.some Jvm.ClassFile.FieldType.int)) ∈ LT := mG (List.mem_append_right _ (List.mem_append_right _ (List.mem_append_right _ (List.mem_append_right _ (List.mem_append_right _ (List.mem_append_right _ (List.mem_append_left _ (List.mem_of_getElem? (l := tables_1_6) (i := 103) rfl)))))))) rfl
theorem wd_794 : (Cond.code ({ cls := "CloudDepthModel", name := "y", desc := "(I)I" } : MethodName) prog_14_method_31_code (2 : Nat) (Option.some Jvm.ClassFile.FieldType.int)) ∈ LT := mG (List.mem_append_right _ (List.mem_append_right _ (List.mem_append_right _ (List.mem_append_right _ (List.mem_append_right _ (List.mem_append_right _ (List.mem_append_left _ (List.mem_of_getElem? (l := tables_1_6) (i := 107) rfl)))))))) rfl
theorem wd_795 : (Cond.code ({ cls := "CloudDepthModel", name := "pointAt", desc := "(II)I" } : MethodName) prog_14_method_33_code (4 : Nat) (Option.some Jvm.ClassFile.FieldType.int)) ∈ LT := mG (List.mem_append_right _ (List.mem_append_right _ (List.mem_append_right _ (List.mem_append_right _ (List.mem_append_right _ (List.mem_append_right _ (List.mem_append_left _ (List.mem_of_getElem? (l := tables_1_6) (i := 99) rfl)))))))) rfl
theorem wd_796 : (Cond.code ({ cls := "CloudDepthModel", name := "canBe", desc := "(II)Z" } : MethodName) prog_14_method_34_code (3 : Nat) (Option.some Jvm.ClassFile.FieldType.boolean)) ∈ LT := mG (List.mem_append_right _ (List.mem_append_right _ (List.mem_append_right _ (List.mem_append_right _ (List.mem_append_right _ (List.mem_append_right _ (List.mem_append_left _ (List.mem_of_getElem? (l := tables_1_6) (i := 95) rfl)))))))) rfl
theorem wd_797 : (Cond.code ({ cls := "CloudDepthModel", name := "marks", desc := "()V" } : MethodName) prog_14_method_35_code (3 : Nat) (Option.none : Option Jvm.ClassFile.FieldType)) ∈ LT := mG (List.mem_append_right _ (List.mem_append_right _ (List.mem_append_right _ (List.mem_append_right _ (List.mem_append_right _ (List.mem_append_right _ (List.mem_append_left _ (List.mem_of_getElem? (l := tables_1_6) (i := 111) rfl)))))))) rfl
theorem wd_798 : (Cond.code ({ cls := "CloudDepthModel", name := "lays", desc := "(III)V" } : MethodName) prog_14_method_39_code (4 : Nat) (Option.none : Option Jvm.ClassFile.FieldType)) ∈ LT := mG (List.mem_append_right _ (List.mem_append_right _ (List.mem_append_right _ (List.mem_append_right _ (List.mem_append_right _ (List.mem_append_right _ (List.mem_append_left _ (List.mem_of_getElem? (l := tables_1_6) (i := 115) rfl)))))))) rfl
theorem wd_799 : (Cond.code ({ cls := "CloudDepthModel", name := "add", desc := "(II)I" } : MethodName) prog_14_method_40_code (3 : Nat) (Option.some Jvm.ClassFile.FieldType.int)) ∈ LT := mG (List.mem_append_right _ (List.mem_append_right _ (List.mem_append_right _ (List.mem_append_right _ (List.mem_append_right _ (List.mem_append_right _ (List.mem_append_left _ (List.mem_of_getElem? (l := tables_1_6) (i := 87) rfl)))))))) rfl
theorem wd_800 : (Cond.code ({ cls := "CloudDepth$Cloud", name := "has", desc := "(I)Z" } : MethodName) prog_2_method_2_code (2 : Nat) (Option.some Jvm.ClassFile.FieldType.boolean)) ∈ LT := mG (List.mem_append_right _ (List.mem_append_right _ (List.mem_append_right _ (List.mem_append_left _ (List.mem_of_getElem? (l := tables_1_3) (i := 94) rfl))))) rfl
theorem wd_801 : (Cond.code ({ cls := "CloudDepth$Cloud", name := "drop", desc := "(I)V" } : MethodName) prog_2_method_10_code (3 : Nat) (Option.none : Option Jvm.ClassFile.FieldType)) ∈ LT := mG (List.mem_append_right _ (List.mem_append_right _ (List.mem_append_right _ (List.mem_append_left _ (List.mem_of_getElem? (l := tables_1_3) (i := 98) rfl))))) rfl
theorem wd_802 : (Cond.code ({ cls := "CloudDepth", name := "goes", desc := "(I)Z" } : MethodName) prog_1_method_7_code (2 : Nat) (Option.some Jvm.ClassFile.FieldType.boolean)) ∈ LT := mG (List.mem_append_right _ (List.mem_append_right _ (List.mem_append_right _ (List.mem_append_left _ (List.mem_of_getElem? (l := tables_1_3) (i := 90) rfl))))) rfl
theorem wd_803 : (Cond.code ({ cls := "CloudDepthModel", name := "isPoint", desc := "(I)Z" } : MethodName) prog_14_method_32_code (2 : Nat) (Option.some Jvm.ClassFile.FieldType.boolean)) ∈ LT := mG (List.mem_append_right _ (List.mem_append_right _ (List.mem_append_right _ (List.mem_append_right _ (List.mem_append_right _ (List.mem_append_right _ (List.mem_append_left _ (List.mem_of_getElem? (l := tables_1_6) (i := 123) rfl)))))))) rfl
theorem wd_804 : (Cond.code ({ cls := "CloudDepthModel", name := "goes", desc := "(I)Z" } : MethodName) prog_14_method_41_code (3 : Nat) (Option.some Jvm.ClassFile.FieldType.boolean)) ∈ LT := mG (List.mem_append_right _ (List.mem_append_right _ (List.mem_append_right _ (List.mem_append_right _ (List.mem_append_right _ (List.mem_append_right _ (List.mem_append_left _ (List.mem_of_getElem? (l := tables_1_6) (i := 119) rfl)))))))) rfl
theorem wd_805 : (Cond.code ({ cls := "CloudDepth$Cloud", name := "put", desc := "(III)V" } : MethodName) prog_2_method_9_code (4 : Nat) (Option.none : Option Jvm.ClassFile.FieldType)) ∈ LT := mG (List.mem_append_right _ (List.mem_append_right _ (List.mem_append_right _ (List.mem_append_left _ (List.mem_of_getElem? (l := tables_1_3) (i := 107) rfl))))) rfl
theorem wd_806 : (Cond.code ({ cls := "CloudDepth", name := "move", desc := "(III)Z" } : MethodName) prog_1_method_8_code (4 : Nat) (Option.some Jvm.ClassFile.FieldType.boolean)) ∈ LT := mG (List.mem_append_right _ (List.mem_append_right _ (List.mem_append_right _ (List.mem_append_left _ (List.mem_of_getElem? (l := tables_1_3) (i := 103) rfl))))) rfl
theorem wd_807 : (Cond.code ({ cls := "CloudDepthModel", name := "move", desc := "(III)Z" } : MethodName) prog_14_method_42_code (4 : Nat) (Option.some Jvm.ClassFile.FieldType.boolean)) ∈ LT := mG (List.mem_append_right _ (List.mem_append_right _ (List.mem_append_right _ (List.mem_append_right _ (List.mem_append_right _ (List.mem_append_right _ (List.mem_append_left _ (List.mem_of_getElem? (l := tables_1_6) (i := 127) rfl)))))))) rfl
theorem wd_808 : (Cond.code ({ cls := "CloudDepth$Cloud", name := "mirror", desc := "()V" } : MethodName) prog_2_method_12_code (2 : Nat) (Option.none : Option Jvm.ClassFile.FieldType)) ∈ LT := mG (List.mem_append_right _ (List.mem_append_right _ (List.mem_append_right _ (List.mem_append_left _ (List.mem_of_getElem? (l := tables_1_3) (i := 115) rfl))))) rfl
theorem wd_809 : (Cond.code ({ cls := "CloudDepth$Cloud", name := "turnQuarter", desc := "()V" } : MethodName) prog_2_method_11_code (2 : Nat) (Option.none : Option Jvm.ClassFile.FieldType)) ∈ LT := mG (List.mem_append_right _ (List.mem_append_right _ (List.mem_append_right _ (List.mem_append_left _ (List.mem_of_getElem? (l := tables_1_3) (i := 120) rfl))))) rfl
theorem wd_810 : (Cond.code ({ cls := "CloudDepth", name := "turn", desc := "(Z)Z" } : MethodName) prog_1_method_9_code (2 : Nat) (Option.some Jvm.ClassFile.FieldType.boolean)) ∈ LT := mG (List.mem_append_right _ (List.mem_append_right _ (List.mem_append_right _ (List.mem_append_left _ (List.mem_of_getElem? (l := tables_1_3) (i := 111) rfl))))) rfl
theorem wd_811 : (Cond.code ({ cls := "CloudDepthModel", name := "turn", desc := "(Z)Z" } : MethodName) prog_14_method_43_code (3 : Nat) (Option.some Jvm.ClassFile.FieldType.boolean)) ∈ LT := mG (List.mem_append_right _ (List.mem_append_right _ (List.mem_append_right _ (List.mem_append_right _ (List.mem_append_right _ (List.mem_append_right _ (List.mem_append_left _ (List.mem_of_getElem? (l := tables_1_6) (i := 131) rfl)))))))) rfl
theorem wd_812 : (Cond.code ({ cls := "CloudDepth$Shelf", name := "give", desc := "(ILCloudDepth$Cloud;)V" } : MethodName) prog_10_method_3_code (5 : Nat) (Option.none : Option Jvm.ClassFile.FieldType)) ∈ LT := mG (List.mem_append_right _ (List.mem_append_right _ (List.mem_append_right _ (List.mem_append_left _ (List.mem_of_getElem? (l := tables_1_3) (i := 128) rfl))))) rfl
theorem wd_813 : (Cond.code ({ cls := "CloudDepth", name := "undo", desc := "()Z" } : MethodName) prog_1_method_10_code (1 : Nat) (Option.some Jvm.ClassFile.FieldType.boolean)) ∈ LT := mG (List.mem_append_right _ (List.mem_append_right _ (List.mem_append_right _ (List.mem_append_left _ (List.mem_of_getElem? (l := tables_1_3) (i := 124) rfl))))) rfl
theorem wd_814 : (Cond.code ({ cls := "CloudDepthModel", name := "undo", desc := "()Z" } : MethodName) prog_14_method_36_code (3 : Nat) (Option.some Jvm.ClassFile.FieldType.boolean)) ∈ LT := mG (List.mem_append_right _ (List.mem_append_right _ (List.mem_append_right _ (List.mem_append_right _ (List.mem_append_right _ (List.mem_append_right _ (List.mem_append_left _ (List.mem_of_getElem? (l := tables_1_6) (i := 75) rfl)))))))) rfl
theorem wd_815 : (Cond.code ({ cls := "CloudDepth$Cloud", name := "everyone", desc := "()I" } : MethodName) prog_2_method_4_code (1 : Nat) (Option.some Jvm.ClassFile.FieldType.int)) ∈ LT := mG (List.mem_append_right _ (List.mem_append_right _ (List.mem_append_right _ (List.mem_append_left _ (List.mem_of_getElem? (l := tables_1_3) (i := 151) rfl))))) rfl
theorem wd_816 : (Cond.code ({ cls := "CloudDepth", name := "bit", desc := "(II)I" } : MethodName) prog_1_method_47_code (2 : Nat) (Option.some Jvm.ClassFile.FieldType.int)) ∈ LT := mG (List.mem_append_right _ (List.mem_append_right _ (List.mem_append_right _ (List.mem_append_left _ (List.mem_of_getElem? (l := tables_1_3) (i := 157) rfl))))) rfl
theorem wd_817 : (Cond.code ({ cls := "CloudDepth$Cloud", name := "turnAt", desc := "(IIII)I" } : MethodName) prog_2_method_14_code (5 : Nat) (Option.some Jvm.ClassFile.FieldType.int)) ∈ LT := mG (List.mem_append_right _ (List.mem_append_right _ (List.mem_append_right _ (List.mem_append_left _ (List.mem_of_getElem? (l := tables_1_3) (i := 168) rfl))))) rfl
theorem wd_818 : (Cond.code ({ cls := "CloudDepth", name := "signOf", desc := "(I)I" } : MethodName) prog_1_method_46_code (1 : Nat) (Option.some Jvm.ClassFile.FieldType.int)) ∈ LT := mG (List.mem_append_right _ (List.mem_append_right _ (List.mem_append_right _ (List.mem_append_left _ (List.mem_of_getElem? (l := tables_1_3) (i := 171) rfl))))) rfl
theorem wd_819 : (Cond.code ({ cls := "CloudDepth$Cloud", name := "sideBits", desc := "(III)I" } : MethodName) prog_2_method_16_code (6 : Nat) (Option.some Jvm.ClassFile.FieldType.int)) ∈ LT := mG (List.mem_append_right _ (List.mem_append_right _ (List.mem_append_right _ (List.mem_append_left _ (List.mem_of_getElem? (l := tables_1_3) (i := 164) rfl))))) rfl
theorem wd_820 : (Cond.code ({ cls := "CloudDepth$Hulls", name := "isOnRim", desc := "(LCloudDepth$Cloud;II)Z" } : MethodName) prog_6_method_10_code (4 : Nat) (Option.some Jvm.ClassFile.FieldType.boolean)) ∈ LT := mG (List.mem_append_right _ (List.mem_append_right _ (List.mem_append_right _ (List.mem_append_left _ (List.mem_of_getElem? (l := tables_1_3) (i := 160) rfl))))) rfl
theorem wd_821 : (Cond.code ({ cls := "CloudDepth$Hulls", name := "rimOf", desc := "(LCloudDepth$Cloud;I)I" } : MethodName) prog_6_method_9_code (4 : Nat) (Option.some Jvm.ClassFile.FieldType.int)) ∈ LT := mG (List.mem_append_right _ (List.mem_append_right _ (List.mem_append_right _ (List.mem_append_left _ (List.mem_of_getElem? (l := tables_1_3) (i := 154) rfl))))) rfl
theorem wd_822 : (Cond.code ({ cls := "CloudDepth$Hulls", name := "peel", desc := "(LCloudDepth$Cloud;)V" } : MethodName) prog_6_method_2_code (4 : Nat) (Option.none : Option Jvm.ClassFile.FieldType)) ∈ LT := mG (List.mem_append_right _ (List.mem_append_right _ (List.mem_append_right _ (List.mem_append_left _ (List.mem_of_getElem? (l := tables_1_3) (i := 147) rfl))))) rfl
theorem wd_823 : (Cond.code ({ cls := "CloudDepth$Hulls", name := "layerWith", desc := "(I)I" } : MethodName) prog_6_method_4_code (3 : Nat) (Option.some Jvm.ClassFile.FieldType.int)) ∈ LT := mG (List.mem_append_right _ (List.mem_append_right _ (List.mem_append_right _ (List.mem_append_left _ (List.mem_of_getElem? (l := tables_1_3) (i := 175) rfl))))) rfl
theorem wd_824 : (Cond.code ({ cls := "CloudDepth$Depths", name := "fewestAbout", desc := "(II)I" } : MethodName) prog_4_method_4_code (10 : Nat) (Option.some Jvm.ClassFile.FieldType.int)) ∈ LT := mG (List.mem_append_right _ (List.mem_append_right _ (List.mem_append_right _ (List.mem_append_left _ (List.mem_of_getElem? (l := tables_1_3) (i := 187) rfl))))) rfl
theorem wd_825 : (Cond.code ({ cls := "CloudDepth$Depths", name := "depthOver", desc := "(LCloudDepth$Cloud;III)I" } : MethodName) prog_4_method_3_code (8 : Nat) (Option.some Jvm.ClassFile.FieldType.int)) ∈ LT := mG (List.mem_append_right _ (List.mem_append_right _ (List.mem_append_right _ (List.mem_append_left _ (List.mem_of_getElem? (l := tables_1_3) (i := 183) rfl))))) rfl
theorem wd_826 : (Cond.code ({ cls := "CloudDepth$Depths", name := "depthAt", desc := "(LCloudDepth$Cloud;II)I" } : MethodName) prog_4_method_2_code (4 : Nat) (Option.some Jvm.ClassFile.FieldType.int)) ∈ LT := mG (List.mem_append_right _ (List.mem_append_right _ (List.mem_append_right _ (List.mem_append_left _ (List.mem_of_getElem? (l := tables_1_3) (i := 179) rfl))))) rfl
theorem wd_827 : (Cond.code ({ cls := "CloudDepth$Hulls", name := "layerBits", desc := "(I)I" } : MethodName) prog_6_method_3_code (2 : Nat) (Option.some Jvm.ClassFile.FieldType.int)) ∈ LT := mG (List.mem_append_right _ (List.mem_append_right _ (List.mem_append_right _ (List.mem_append_left _ (List.mem_of_getElem? (l := tables_1_3) (i := 192) rfl))))) rfl
theorem wd_828 : (Cond.code ({ cls := "CloudDepth$Cloud", name := "turnOf", desc := "(III)I" } : MethodName) prog_2_method_15_code (4 : Nat) (Option.some Jvm.ClassFile.FieldType.int)) ∈ LT := mG (List.mem_append_right _ (List.mem_append_right _ (List.mem_append_right _ (List.mem_append_left _ (List.mem_of_getElem? (l := tables_1_3) (i := 202) rfl))))) rfl
theorem wd_829 : (Cond.code ({ cls := "CloudDepth$Cloud", name := "wayAlong", desc := "(III)I" } : MethodName) prog_2_method_18_code (4 : Nat) (Option.some Jvm.ClassFile.FieldType.int)) ∈ LT := mG (List.mem_append_right _ (List.mem_append_right _ (List.mem_append_right _ (List.mem_append_left _ (List.mem_of_getElem? (l := tables_1_3) (i := 206) rfl))))) rfl
theorem wd_830 : (Cond.code ({ cls := "CloudDepth$Hulls", name := "isBetweenOthers", desc := "(LCloudDepth$Cloud;II)Z" } : MethodName) prog_6_method_11_code (5 : Nat) (Option.some Jvm.ClassFile.FieldType.boolean)) ∈ LT := mG (List.mem_append_right _ (List.mem_append_right _ (List.mem_append_right _ (List.mem_append_left _ (List.mem_of_getElem? (l := tables_1_3) (i := 198) rfl))))) rfl
theorem wd_831 : (Cond.code ({ cls := "CloudDepth$Hulls", name := "cornersOf", desc := "(LCloudDepth$Cloud;I)I" } : MethodName) prog_6_method_8_code (5 : Nat) (Option.some Jvm.ClassFile.FieldType.int)) ∈ LT := mG (List.mem_append_right _ (List.mem_append_right _ (List.mem_append_right _ (List.mem_append_left _ (List.mem_of_getElem? (l := tables_1_3) (i := 195) rfl))))) rfl
theorem wd_832 : (Cond.code ({ cls := "CloudDepth$Shapes", name := "squareApart", desc := "(LCloudDepth$Cloud;III)I" } : MethodName) prog_9_method_20_code (6 : Nat) (Option.some Jvm.ClassFile.FieldType.int)) ∈ LT := mG (List.mem_append_right _ (List.mem_append_right _ (List.mem_append_right _ (List.mem_append_left _ (List.mem_of_getElem? (l := tables_1_3) (i := 217) rfl))))) rfl
theorem wd_833 : (Cond.code ({ cls := "CloudDepth$Shapes", name := "isNearest", desc := "(LCloudDepth$Cloud;III)Z" } : MethodName) prog_9_method_19_code (6 : Nat) (Option.some Jvm.ClassFile.FieldType.boolean)) ∈ LT := mG (List.mem_append_right _ (List.mem_append_right _ (List.mem_append_right _ (List.mem_append_left _ (List.mem_of_getElem? (l := tables_1_3) (i := 214) rfl))))) rfl
theorem wd_834 : (Cond.code ({ cls := "CloudDepth$Shapes", name := "shareOf", desc := "(LCloudDepth$Cloud;I)I" } : MethodName) prog_9_method_18_code (6 : Nat) (Option.some Jvm.ClassFile.FieldType.int)) ∈ LT := mG (List.mem_append_right _ (List.mem_append_right _ (List.mem_append_right _ (List.mem_append_left _ (List.mem_of_getElem? (l := tables_1_3) (i := 211) rfl))))) rfl
theorem wd_835 : (Cond.code ({ cls := "CloudDepth", name := "point", desc := "(II)I" } : MethodName) prog_1_method_16_code (3 : Nat) (Option.some Jvm.ClassFile.FieldType.int)) ∈ LT := mG (List.mem_append_right _ (List.mem_append_right _ (List.mem_append_right _ (List.mem_append_left _ (List.mem_of_getElem? (l := tables_1_3) (i := 142) rfl))))) rfl
theorem wd_836 : (Cond.code ({ cls := "CloudDepthModel", name := "full", desc := "()I" } : MethodName) prog_14_method_29_code (1 : Nat) (Option.some Jvm.ClassFile.FieldType.int)) ∈ LT := mG (List.mem_append_right _ (List.mem_append_right _ (List.mem_append_right _ (List.mem_append_right _ (List.mem_append_right _ (List.mem_append_right _ (List.mem_append_left _ (List.mem_of_getElem? (l := tables_1_6) (i := 152) rfl)))))))) rfl
theorem wd_837 : (Cond.code ({ cls := "CloudDepthModel", name := "has", desc := "(II)Z" } : MethodName) prog_14_method_26_code (2 : Nat) (Option.some Jvm.ClassFile.FieldType.boolean)) ∈ LT := mG (List.mem_append_right _ (List.mem_append_right _ (List.mem_append_right _ (List.mem_append_right _ (List.mem_append_right _ (List.mem_append_right _ (List.mem_append_left _ (List.mem_of_getElem? (l := tables_1_6) (i := 159) rfl)))))))) rfl
theorem wd_838 : (Cond.code ({ cls := "CloudDepthModel", name := "turnOf", desc := "(IIII)I" } : MethodName) prog_14_method_44_code (5 : Nat) (Option.some Jvm.ClassFile.FieldType.int)) ∈ LT := mG (List.mem_append_right _ (List.mem_append_right _ (List.mem_append_right _ (List.mem_append_right _ (List.mem_append_right _ (List.mem_append_right _ (List.mem_append_left _ (List.mem_of_getElem? (l := tables_1_6) (i := 140) rfl)))))))) rfl
theorem wd_839 : (Cond.code ({ cls := "CloudDepthModel", name := "sideOf", desc := "(III)I" } : MethodName) prog_14_method_45_code (5 : Nat) (Option.some Jvm.ClassFile.FieldType.int)) ∈ LT := mG (List.mem_append_right _ (List.mem_append_right _ (List.mem_append_right _ (List.mem_append_right _ (List.mem_append_right _ (List.mem_append_right _ (List.mem_append_left _ (List.mem_of_getElem? (l := tables_1_6) (i := 144) rfl)))))))) rfl
theorem wd_840 : (Cond.code ({ cls := "CloudDepthModel", name := "onSide", desc := "(IIII)I" } : MethodName) prog_14_method_47_code (7 : Nat) (Option.some Jvm.ClassFile.FieldType.int)) ∈ LT := mG (List.mem_append_right _ (List.mem_append_right _ (List.mem_append_right _ (List.mem_append_right _ (List.mem_append_right _ (List.mem_append_right _ (List.mem_append_left _ (List.mem_of_getElem? (l := tables_1_6) (i := 156) rfl)))))))) rfl
theorem wd_841 : (Cond.code ({ cls := "CloudDepthModel", name := "isRim", desc := "(II)Z" } : MethodName) prog_14_method_50_code (4 : Nat) (Option.some Jvm.ClassFile.FieldType.boolean)) ∈ LT := mG (List.mem_append_right _ (List.mem_append_right _ (List.mem_append_right _ (List.mem_append_right _ (List.mem_append_right _ (List.mem_append_right _ (List.mem_append_left _ (List.mem_of_getElem? (l := tables_1_6) (i := 182) rfl)))))))) rfl
theorem wd_842 : (Cond.code ({ cls := "CloudDepthModel", name := "hullOf", desc := "(I)I" } : MethodName) prog_14_method_51_code (4 : Nat) (Option.some Jvm.ClassFile.FieldType.int)) ∈ LT := mG (List.mem_append_right _ (List.mem_append_right _ (List.mem_append_right _ (List.mem_append_right _ (List.mem_append_right _ (List.mem_append_right _ (List.mem_append_left _ (List.mem_of_getElem? (l := tables_1_6) (i := 178) rfl)))))))) rfl
theorem wd_843 : (Cond.code ({ cls := "CloudDepthModel", name := "laysLayers", desc := "()I" } : MethodName) prog_14_method_53_code (3 : Nat) (Option.some Jvm.ClassFile.FieldType.int)) ∈ LT := mG (List.mem_append_right _ (List.mem_append_right _ (List.mem_append_right _ (List.mem_append_right _ (List.mem_append_right _ (List.mem_append_right _ (List.mem_append_left _ (List.mem_of_getElem? (l := tables_1_6) (i := 194) rfl)))))))) rfl
theorem wd_844 : (Cond.code ({ cls := "CloudDepthModel", name := "layerOf", desc := "(I)I" } : MethodName) prog_14_method_57_code (4 : Nat) (Option.some Jvm.ClassFile.FieldType.int)) ∈ LT := mG (List.mem_append_right _ (List.mem_append_right _ (List.mem_append_right _ (List.mem_append_right _ (List.mem_append_right _ (List.mem_append_right _ (List.mem_append_right _ (List.mem_of_getElem? (l := tables_1_7) (i := 48) rfl)))))))) rfl
theorem wd_845 : (Cond.code ({ cls := "CloudDepthModel", name := "lesser", desc := "(II)I" } : MethodName) prog_14_method_80_code (2 : Nat) (Option.some Jvm.ClassFile.FieldType.int)) ∈ LT := mG (List.mem_append_right _ (List.mem_append_right _ (List.mem_append_right _ (List.mem_append_right _ (List.mem_append_right _ (List.mem_append_right _ (List.mem_append_right _ (List.mem_of_getElem? (l := tables_1_7) (i := 28) rfl)))))))) rfl
theorem wd_846 : (Cond.code ({ cls := "CloudDepthModel", name := "depthOf", desc := "(II)I" } : MethodName) prog_14_method_81_code (17 : Nat) (Option.some Jvm.ClassFile.FieldType.int)) ∈ LT := mG (List.mem_append_right _ (List.mem_append_right _ (List.mem_append_right _ (List.mem_append_right _ (List.mem_append_right _ (List.mem_append_right _ (List.mem_append_right _ (List.mem_of_getElem? (l := tables_1_7) (i := 25) rfl)))))))) rfl
theorem wd_847 : (Cond.code ({ cls := "CloudDepthModel", name := "isBetween", desc := "(III)Z" } : MethodName) prog_14_method_49_code (4 : Nat) (Option.some Jvm.ClassFile.FieldType.boolean)) ∈ LT := mG (List.mem_append_right _ (List.mem_append_right _ (List.mem_append_right _ (List.mem_append_right _ (List.mem_append_right _ (List.mem_append_right _ (List.mem_append_left _ (List.mem_of_getElem? (l := tables_1_6) (i := 186) rfl)))))))) rfl
theorem wd_848 : (Cond.code ({ cls := "CloudDepthModel", name := "cornersOf", desc := "(I)I" } : MethodName) prog_14_method_52_code (7 : Nat) (Option.some Jvm.ClassFile.FieldType.int)) ∈ LT := mG (List.mem_append_right _ (List.mem_append_right _ (List.mem_append_right _ (List.mem_append_right _ (List.mem_append_right _ (List.mem_append_right _ (List.mem_append_left _ (List.mem_of_getElem? (l := tables_1_6) (i := 174) rfl)))))))) rfl
theorem wd_849 : (Cond.code ({ cls := "CloudDepthModel", name := "isLayersCorner", desc := "(I)Z" } : MethodName) prog_14_method_90_code (3 : Nat) (Option.some Jvm.ClassFile.FieldType.boolean)) ∈ LT := mG (List.mem_append_right _ (List.mem_append_right _ (List.mem_append_right _ (List.mem_append_right _ (List.mem_append_right _ (List.mem_append_right _ (List.mem_append_right _ (List.mem_of_getElem? (l := tables_1_7) (i := 52) rfl)))))))) rfl
theorem wd_850 : (Cond.code ({ cls := "CloudDepthModel", name := "apart", desc := "(III)I" } : MethodName) prog_14_method_87_code (4 : Nat) (Option.some Jvm.ClassFile.FieldType.int)) ∈ LT := mG (List.mem_append_right _ (List.mem_append_right _ (List.mem_append_right _ (List.mem_append_right _ (List.mem_append_right _ (List.mem_append_right _ (List.mem_append_right _ (List.mem_of_getElem? (l := tables_1_7) (i := 60) rfl)))))))) rfl
theorem wd_851 : (Cond.code ({ cls := "CloudDepthModel", name := "shareOf", desc := "(I)I" } : MethodName) prog_14_method_88_code (8 : Nat) (Option.some Jvm.ClassFile.FieldType.int)) ∈ LT := mG (List.mem_append_right _ (List.mem_append_right _ (List.mem_append_right _ (List.mem_append_right _ (List.mem_append_right _ (List.mem_append_right _ (List.mem_append_right _ (List.mem_of_getElem? (l := tables_1_7) (i := 56) rfl)))))))) rfl
theorem wd_852 : (Cond.code ({ cls := "CloudDepthModel", name := "point", desc := "(II)I" } : MethodName) prog_14_method_89_code (3 : Nat) (Option.some Jvm.ClassFile.FieldType.int)) ∈ LT := mG (List.mem_append_right _ (List.mem_append_right _ (List.mem_append_right _ (List.mem_append_right _ (List.mem_append_right _ (List.mem_append_right _ (List.mem_append_right _ (List.mem_of_getElem? (l := tables_1_7) (i := 44) rfl)))))))) rfl
theorem wd_853 : (Cond.code ({ cls := "CloudDepth", name := "turned", desc := "(IIII)I" } : MethodName) prog_1_method_17_code (6 : Nat) (Option.some Jvm.ClassFile.FieldType.int)) ∈ LT := mG (List.mem_append_right _ (List.mem_append_right _ (List.mem_append_right _ (List.mem_append_left _ (List.mem_of_getElem? (l := tables_1_3) (i := 221) rfl))))) rfl
theorem wd_854 : (Cond.code ({ cls := "CloudDepthModel", name := "turned", desc := "(IIII)I" } : MethodName) prog_14_method_46_code (5 : Nat) (Option.some Jvm.ClassFile.FieldType.int)) ∈ LT := mG (List.mem_append_right _ (List.mem_append_right _ (List.mem_append_right _ (List.mem_append_right _ (List.mem_append_right _ (List.mem_append_right _ (List.mem_append_left _ (List.mem_of_getElem? (l := tables_1_6) (i := 135) rfl)))))))) rfl
theorem wd_855 : (Cond.code ({ cls := "java/lang/Integer", name := "bitCount", desc := "(I)I" } : MethodName) prog_15_method_49_code (1 : Nat) (Option.some Jvm.ClassFile.FieldType.int)) ∈ LT := mG (List.mem_append_right _ (List.mem_append_right _ (List.mem_append_right _ (List.mem_append_left _ (List.mem_of_getElem? (l := tables_1_3) (i := 231) rfl))))) rfl
theorem wd_856 : (Cond.code ({ cls := "CloudDepth", name := "sides", desc := "(III)I" } : MethodName) prog_1_method_18_code (4 : Nat) (Option.some Jvm.ClassFile.FieldType.int)) ∈ LT := mG (List.mem_append_right _ (List.mem_append_right _ (List.mem_append_right _ (List.mem_append_left _ (List.mem_of_getElem? (l := tables_1_3) (i := 227) rfl))))) rfl
theorem wd_857 : (Cond.code ({ cls := "CloudDepthModel", name := "bitsOf", desc := "(I)I" } : MethodName) prog_14_method_27_code (3 : Nat) (Option.some Jvm.ClassFile.FieldType.int)) ∈ LT := mG (List.mem_append_right _ (List.mem_append_right _ (List.mem_append_right _ (List.mem_append_right _ (List.mem_append_right _ (List.mem_append_right _ (List.mem_append_left _ (List.mem_of_getElem? (l := tables_1_6) (i := 162) rfl)))))))) rfl
theorem wd_858 : (Cond.code ({ cls := "CloudDepthModel", name := "sides", desc := "(III)I" } : MethodName) prog_14_method_48_code (5 : Nat) (Option.some Jvm.ClassFile.FieldType.int)) ∈ LT := mG (List.mem_append_right _ (List.mem_append_right _ (List.mem_append_right _ (List.mem_append_right _ (List.mem_append_right _ (List.mem_append_right _ (List.mem_append_left _ (List.mem_of_getElem? (l := tables_1_6) (i := 148) rfl)))))))) rfl
theorem wd_859 : (Cond.code ({ cls := "CloudDepth$Hulls", name := "lowestOf", desc := "(LCloudDepth$Cloud;I)I" } : MethodName) prog_6_method_12_code (4 : Nat) (Option.some Jvm.ClassFile.FieldType.int)) ∈ LT := mG (List.mem_append_right _ (List.mem_append_right _ (List.mem_append_right _ (List.mem_append_right _ (List.mem_append_left _ (List.mem_of_getElem? (l := tables_1_4) (i := 7) rfl)))))) rfl
theorem wd_860 : (Cond.code ({ cls := "CloudDepth$Hulls", name := "nextCorner", desc := "(LCloudDepth$Cloud;II)I" } : MethodName) prog_6_method_13_code (4 : Nat) (Option.some Jvm.ClassFile.FieldType.int)) ∈ LT := mG (List.mem_append_right _ (List.mem_append_right _ (List.mem_append_right _ (List.mem_append_right _ (List.mem_append_left _ (List.mem_of_getElem? (l := tables_1_4) (i := 10) rfl)))))) rfl
theorem wd_861 : (Cond.code ({ cls := "CloudDepth$Hulls", name := "walk", desc := "(LCloudDepth$Cloud;)V" } : MethodName) prog_6_method_5_code (6 : Nat) (Option.none : Option Jvm.ClassFile.FieldType)) ∈ LT := mG (List.mem_append_right _ (List.mem_append_right _ (List.mem_append_right _ (List.mem_append_right _ (List.mem_append_left _ (List.mem_of_getElem? (l := tables_1_4) (i := 2) rfl)))))) rfl
theorem wd_862 : (Cond.code ({ cls := "CloudDepth$Hulls", name := "cornerAt", desc := "(I)I" } : MethodName) prog_6_method_6_code (2 : Nat) (Option.some Jvm.ClassFile.FieldType.int)) ∈ LT := mG (List.mem_append_right _ (List.mem_append_right _ (List.mem_append_right _ (List.mem_append_right _ (List.mem_append_left _ (List.mem_of_getElem? (l := tables_1_4) (i := 14) rfl)))))) rfl
theorem wd_863 : (Cond.code ({ cls := "CloudDepth", name := "corner", desc := "(I)I" } : MethodName) prog_1_method_19_code (2 : Nat) (Option.some Jvm.ClassFile.FieldType.int)) ∈ LT := mG (List.mem_append_right _ (List.mem_append_right _ (List.mem_append_right _ (List.mem_append_left _ (List.mem_of_getElem? (l := tables_1_3) (i := 238) rfl))))) rfl
theorem wd_864 : (Cond.code ({ cls := "CloudDepthModel", name := "laysCorners", desc := "()I" } : MethodName) prog_14_method_54_code (8 : Nat) (Option.some Jvm.ClassFile.FieldType.int)) ∈ LT := mG (List.mem_append_right _ (List.mem_append_right _ (List.mem_append_right _ (List.mem_append_right _ (List.mem_append_right _ (List.mem_append_right _ (List.mem_append_left _ (List.mem_of_getElem? (l := tables_1_6) (i := 170) rfl)))))))) rfl
theorem wd_865 : (Cond.code ({ cls := "CloudDepthModel", name := "corner", desc := "(I)I" } : MethodName) prog_14_method_55_code (3 : Nat) (Option.some Jvm.ClassFile.FieldType.int)) ∈ LT := mG (List.mem_append_right _ (List.mem_append_right _ (List.mem_append_right _ (List.mem_append_right _ (List.mem_append_right _ (List.mem_append_right _ (List.mem_append_left _ (List.mem_of_getElem? (l := tables_1_6) (i := 166) rfl)))))))) rfl
theorem wd_866 : (Cond.code ({ cls := "CloudDepth", name := "layer", desc := "(I)I" } : MethodName) prog_1_method_20_code (2 : Nat) (Option.some Jvm.ClassFile.FieldType.int)) ∈ LT := mG (List.mem_append_right _ (List.mem_append_right _ (List.mem_append_right _ (List.mem_append_right _ (List.mem_append_left _ (List.mem_of_getElem? (l := tables_1_4) (i := 18) rfl)))))) rfl
theorem wd_867 : (Cond.code ({ cls := "CloudDepthModel", name := "layer", desc := "(I)I" } : MethodName) prog_14_method_56_code (3 : Nat) (Option.some Jvm.ClassFile.FieldType.int)) ∈ LT := mG (List.mem_append_right _ (List.mem_append_right _ (List.mem_append_right _ (List.mem_append_right _ (List.mem_append_right _ (List.mem_append_right _ (List.mem_append_left _ (List.mem_of_getElem? (l := tables_1_6) (i := 190) rfl)))))))) rfl
theorem wd_868 : (Cond.code ({ cls := "CloudDepth", name := "edges", desc := "(I)I" } : MethodName) prog_1_method_21_code (5 : Nat) (Option.some Jvm.ClassFile.FieldType.int)) ∈ LT := mG (List.mem_append_right _ (List.mem_append_right _ (List.mem_append_right _ (List.mem_append_right _ (List.mem_append_left _ (List.mem_of_getElem? (l := tables_1_4) (i := 22) rfl)))))) rfl
theorem wd_869 : (Cond.code ({ cls := "CloudDepthModel", name := "edges", desc := "(I)I" } : MethodName) prog_14_method_59_code (5 : Nat) (Option.some Jvm.ClassFile.FieldType.int)) ∈ LT := mG (List.mem_append_right _ (List.mem_append_right _ (List.mem_append_right _ (List.mem_append_right _ (List.mem_append_right _ (List.mem_append_right _ (List.mem_append_left _ (List.mem_of_getElem? (l := tables_1_6) (i := 198) rfl)))))))) rfl
theorem wd_870 : (Cond.code ({ cls := "CloudDepth$Cloud", name := "isHalved", desc := "(III)Z" } : MethodName) prog_2_method_17_code (5 : Nat) (Option.some Jvm.ClassFile.FieldType.boolean)) ∈ LT := mG (List.mem_append_right _ (List.mem_append_right _ (List.mem_append_right _ (List.mem_append_right _ (List.mem_append_left _ (List.mem_of_getElem? (l := tables_1_4) (i := 31) rfl)))))) rfl
theorem wd_871 : (Cond.code ({ cls := "CloudDepth", name := "halving", desc := "(I)I" } : MethodName) prog_1_method_22_code (5 : Nat) (Option.some Jvm.ClassFile.FieldType.int)) ∈ LT := mG (List.mem_append_right _ (List.mem_append_right _ (List.mem_append_right _ (List.mem_append_right _ (List.mem_append_left _ (List.mem_of_getElem? (l := tables_1_4) (i := 26) rfl)))))) rfl
theorem wd_872 : (Cond.code ({ cls := "CloudDepthModel", name := "halves", desc := "(III)Z" } : MethodName) prog_14_method_60_code (5 : Nat) (Option.some Jvm.ClassFile.FieldType.boolean)) ∈ LT := mG (List.mem_append_right _ (List.mem_append_right _ (List.mem_append_right _ (List.mem_append_right _ (List.mem_append_right _ (List.mem_append_right _ (List.mem_append_left _ (List.mem_of_getElem? (l := tables_1_6) (i := 206) rfl)))))))) rfl
theorem wd_873 : (Cond.code ({ cls := "CloudDepthModel", name := "halving", desc := "(I)I" } : MethodName) prog_14_method_61_code (5 : Nat) (Option.some Jvm.ClassFile.FieldType.int)) ∈ LT := mG (List.mem_append_right _ (List.mem_append_right _ (List.mem_append_right _ (List.mem_append_right _ (List.mem_append_right _ (List.mem_append_right _ (List.mem_append_left _ (List.mem_of_getElem? (l := tables_1_6) (i := 202) rfl)))))))) rfl
theorem wd_874 : (Cond.code ({ cls := "java/util/Arrays", name := "fill", desc := "([II)V" } : MethodName) prog_20_method_103_code (4 : Nat) (Option.none : Option Jvm.ClassFile.FieldType)) ∈ LT := mG (List.mem_append_right _ (List.mem_append_right _ (List.mem_append_right _ (List.mem_append_right _ (List.mem_append_left _ (List.mem_of_getElem? (l := tables_1_4) (i := 57) rfl)))))) rfl
theorem wd_875 : (Cond.code ({ cls := "CloudDepth$SetMarks", name := "clear", desc := "()V" } : MethodName) prog_8_method_2_code (1 : Nat) (Option.none : Option Jvm.ClassFile.FieldType)) ∈ LT := mG (List.mem_append_right _ (List.mem_append_right _ (List.mem_append_right _ (List.mem_append_right _ (List.mem_append_left _ (List.mem_of_getElem? (l := tables_1_4) (i := 54) rfl)))))) rfl
theorem wd_876 : (Cond.code ({ cls := "CloudDepth$SetMarks", name := "mark", desc := "(I)V" } : MethodName) prog_8_method_3_code (2 : Nat) (Option.none : Option Jvm.ClassFile.FieldType)) ∈ LT := mG (List.mem_append_right _ (List.mem_append_right _ (List.mem_append_right _ (List.mem_append_right _ (List.mem_append_left _ (List.mem_of_getElem? (l := tables_1_4) (i := 61) rfl)))))) rfl
theorem wd_877 : (Cond.code ({ cls := "CloudDepth$Cuts", name := "markBoth", desc := "(IIII)V" } : MethodName) prog_3_method_4_code (6 : Nat) (Option.none : Option Jvm.ClassFile.FieldType)) ∈ LT := mG (List.mem_append_right _ (List.mem_append_right _ (List.mem_append_right _ (List.mem_append_right _ (List.mem_append_left _ (List.mem_of_getElem? (l := tables_1_4) (i := 71) rfl)))))) rfl
theorem wd_878 : (Cond.code ({ cls := "CloudDepth$Cuts", name := "upTo", desc := "(LCloudDepth$Cloud;III)I" } : MethodName) prog_3_method_5_code (7 : Nat) (Option.some Jvm.ClassFile.FieldType.int)) ∈ LT := mG (List.mem_append_right _ (List.mem_append_right _ (List.mem_append_right _ (List.mem_append_right _ (List.mem_append_left _ (List.mem_of_getElem? (l := tables_1_4) (i := 75) rfl)))))) rfl
theorem wd_879 : (Cond.code ({ cls := "CloudDepth$Cuts", name := "cutAlong", desc := "(LCloudDepth$Cloud;II)V" } : MethodName) prog_3_method_3_code (8 : Nat) (Option.none : Option Jvm.ClassFile.FieldType)) ∈ LT := mG (List.mem_append_right _ (List.mem_append_right _ (List.mem_append_right _ (List.mem_append_right _ (List.mem_append_left _ (List.mem_of_getElem? (l := tables_1_4) (i := 66) rfl)))))) rfl
theorem wd_880 : (Cond.code ({ cls := "CloudDepth$Cuts", name := "find", desc := "(LCloudDepth$Cloud;)V" } : MethodName) prog_3_method_2_code (4 : Nat) (Option.none : Option Jvm.ClassFile.FieldType)) ∈ LT := mG (List.mem_append_right _ (List.mem_append_right _ (List.mem_append_right _ (List.mem_append_right _ (List.mem_append_left _ (List.mem_of_getElem? (l := tables_1_4) (i := 50) rfl)))))) rfl
theorem wd_881 : (Cond.code ({ cls := "CloudDepth$SetMarks", name := "isMarked", desc := "(I)Z" } : MethodName) prog_8_method_4_code (2 : Nat) (Option.some Jvm.ClassFile.FieldType.boolean)) ∈ LT := mG (List.mem_append_right _ (List.mem_append_right _ (List.mem_append_right _ (List.mem_append_right _ (List.mem_append_left _ (List.mem_of_getElem? (l := tables_1_4) (i := 85) rfl)))))) rfl
theorem wd_882 : (Cond.code ({ cls := "CloudDepth$Cuts", name := "countOfSize", desc := "(LCloudDepth$Cloud;I)I" } : MethodName) prog_3_method_6_code (5 : Nat) (Option.some Jvm.ClassFile.FieldType.int)) ∈ LT := mG (List.mem_append_right _ (List.mem_append_right _ (List.mem_append_right _ (List.mem_append_right _ (List.mem_append_left _ (List.mem_of_getElem? (l := tables_1_4) (i := 80) rfl)))))) rfl
theorem wd_883 : (Cond.code ({ cls := "CloudDepth", name := "cutOff", desc := "(I)I" } : MethodName) prog_1_method_24_code (2 : Nat) (Option.some Jvm.ClassFile.FieldType.int)) ∈ LT := mG (List.mem_append_right _ (List.mem_append_right _ (List.mem_append_right _ (List.mem_append_right _ (List.mem_append_left _ (List.mem_of_getElem? (l := tables_1_4) (i := 46) rfl)))))) rfl
theorem wd_884 : (Cond.code ({ cls := "CloudDepthModel", name := "meets", desc := "(II)V" } : MethodName) prog_14_method_63_code (3 : Nat) (Option.none : Option Jvm.ClassFile.FieldType)) ∈ LT := mG (List.mem_append_right _ (List.mem_append_right _ (List.mem_append_right _ (List.mem_append_right _ (List.mem_append_right _ (List.mem_append_right _ (List.mem_append_left _ (List.mem_of_getElem? (l := tables_1_6) (i := 222) rfl)))))))) rfl
theorem wd_885 : (Cond.code ({ cls := "CloudDepthModel", name := "isWithin", desc := "(IIII)Z" } : MethodName) prog_14_method_64_code (6 : Nat) (Option.some Jvm.ClassFile.FieldType.boolean)) ∈ LT := mG (List.mem_append_right _ (List.mem_append_right _ (List.mem_append_right _ (List.mem_append_right _ (List.mem_append_right _ (List.mem_append_right _ (List.mem_append_left _ (List.mem_of_getElem? (l := tables_1_6) (i := 226) rfl)))))))) rfl
theorem wd_886 : (Cond.code ({ cls := "CloudDepthModel", name := "areAcross", desc := "(IIII)Z" } : MethodName) prog_14_method_65_code (5 : Nat) (Option.some Jvm.ClassFile.FieldType.boolean)) ∈ LT := mG (List.mem_append_right _ (List.mem_append_right _ (List.mem_append_right _ (List.mem_append_right _ (List.mem_append_right _ (List.mem_append_right _ (List.mem_append_left _ (List.mem_of_getElem? (l := tables_1_6) (i := 230) rfl)))))))) rfl
theorem wd_887 : (Cond.code ({ cls := "CloudDepthModel", name := "laysMeetings", desc := "()V" } : MethodName) prog_14_method_66_code (5 : Nat) (Option.none : Option Jvm.ClassFile.FieldType)) ∈ LT := mG (List.mem_append_right _ (List.mem_append_right _ (List.mem_append_right _ (List.mem_append_right _ (List.mem_append_right _ (List.mem_append_right _ (List.mem_append_left _ (List.mem_of_getElem? (l := tables_1_6) (i := 218) rfl)))))))) rfl
theorem wd_888 : (Cond.code ({ cls := "CloudDepthModel", name := "areParted", desc := "(I)Z" } : MethodName) prog_14_method_67_code (5 : Nat) (Option.some Jvm.ClassFile.FieldType.boolean)) ∈ LT := mG (List.mem_append_right _ (List.mem_append_right _ (List.mem_append_right _ (List.mem_append_right _ (List.mem_append_right _ (List.mem_append_right _ (List.mem_append_left _ (List.mem_of_getElem? (l := tables_1_6) (i := 234) rfl)))))))) rfl
theorem wd_889 : (Cond.code ({ cls := "CloudDepthModel", name := "cutOff", desc := "(I)I" } : MethodName) prog_14_method_68_code (4 : Nat) (Option.some Jvm.ClassFile.FieldType.int)) ∈ LT := mG (List.mem_append_right _ (List.mem_append_right _ (List.mem_append_right _ (List.mem_append_right _ (List.mem_append_right _ (List.mem_append_right _ (List.mem_append_left _ (List.mem_of_getElem? (l := tables_1_6) (i := 214) rfl)))))))) rfl
theorem wd_890 : (Cond.code ({ cls := "CloudDepth$Cloud", name := "hasSet", desc := "(I)Z" } : MethodName) prog_2_method_3_code (2 : Nat) (Option.some Jvm.ClassFile.FieldType.boolean)) ∈ LT := mG (List.mem_append_right _ (List.mem_append_right _ (List.mem_append_right _ (List.mem_append_right _ (List.mem_append_left _ (List.mem_of_getElem? (l := tables_1_4) (i := 41) rfl)))))) rfl
theorem wd_891 : (Cond.code ({ cls := "CloudDepth", name := "isCutOff", desc := "(I)I" } : MethodName) prog_1_method_25_code (2 : Nat) (Option.some Jvm.ClassFile.FieldType.int)) ∈ LT := mG (List.mem_append_right _ (List.mem_append_right _ (List.mem_append_right _ (List.mem_append_right _ (List.mem_append_left _ (List.mem_of_getElem? (l := tables_1_4) (i := 89) rfl)))))) rfl
theorem wd_892 : (Cond.code ({ cls := "CloudDepthModel", name := "isCutOff", desc := "(I)I" } : MethodName) prog_14_method_69_code (2 : Nat) (Option.some Jvm.ClassFile.FieldType.int)) ∈ LT := mG (List.mem_append_right _ (List.mem_append_right _ (List.mem_append_right _ (List.mem_append_right _ (List.mem_append_right _ (List.mem_append_right _ (List.mem_append_left _ (List.mem_of_getElem? (l := tables_1_6) (i := 238) rfl)))))))) rfl
theorem wd_893 : (Cond.code ({ cls := "CloudDepth", name := "isPlace", desc := "(II)Z" } : MethodName) prog_1_method_44_code (2 : Nat) (Option.some Jvm.ClassFile.FieldType.boolean)) ∈ LT := mG (List.mem_append_right _ (List.mem_append_right _ (List.mem_append_right _ (List.mem_append_right _ (List.mem_append_left _ (List.mem_of_getElem? (l := tables_1_4) (i := 105) rfl)))))) rfl
theorem wd_894 : (Cond.code ({ cls := "CloudDepth", name := "depth", desc := "(II)I" } : MethodName) prog_1_method_27_code (3 : Nat) (Option.some Jvm.ClassFile.FieldType.int)) ∈ LT := mG (List.mem_append_right _ (List.mem_append_right _ (List.mem_append_right _ (List.mem_append_right _ (List.mem_append_left _ (List.mem_of_getElem? (l := tables_1_4) (i := 102) rfl)))))) rfl
theorem wd_895 : (Cond.code ({ cls := "CloudDepthModel", name := "depth", desc := "(II)I" } : MethodName) prog_14_method_82_code (3 : Nat) (Option.some Jvm.ClassFile.FieldType.int)) ∈ LT := mG (List.mem_append_right _ (List.mem_append_right _ (List.mem_append_right _ (List.mem_append_right _ (List.mem_append_right _ (List.mem_append_right _ (List.mem_append_right _ (List.mem_of_getElem? (l := tables_1_7) (i := 21) rfl)))))))) rfl
theorem wd_896 : (Cond.code ({ cls := "CloudDepth$Depths", name := "noteDepth", desc := "(III)V" } : MethodName) prog_4_method_7_code (4 : Nat) (Option.none : Option Jvm.ClassFile.FieldType)) ∈ LT := mG (List.mem_append_right _ (List.mem_append_right _ (List.mem_append_right _ (List.mem_append_right _ (List.mem_append_left _ (List.mem_of_getElem? (l := tables_1_4) (i := 118) rfl)))))) rfl
theorem wd_897 : (Cond.code ({ cls := "CloudDepth$Depths", name := "survey", desc := "(LCloudDepth$Cloud;)V" } : MethodName) prog_4_method_5_code (6 : Nat) (Option.none : Option Jvm.ClassFile.FieldType)) ∈ LT := mG (List.mem_append_right _ (List.mem_append_right _ (List.mem_append_right _ (List.mem_append_right _ (List.mem_append_left _ (List.mem_of_getElem? (l := tables_1_4) (i := 113) rfl)))))) rfl
theorem wd_898 : (Cond.code ({ cls := "CloudDepth", name := "deepest", desc := "(I)I" } : MethodName) prog_1_method_28_code (2 : Nat) (Option.some Jvm.ClassFile.FieldType.int)) ∈ LT := mG (List.mem_append_right _ (List.mem_append_right _ (List.mem_append_right _ (List.mem_append_right _ (List.mem_append_left _ (List.mem_of_getElem? (l := tables_1_4) (i := 109) rfl)))))) rfl
theorem wd_899 : (Cond.code ({ cls := "CloudDepthModel", name := "deepestOf", desc := "()I" } : MethodName) prog_14_method_83_code (6 : Nat) (Option.some Jvm.ClassFile.FieldType.int)) ∈ LT := mG (List.mem_append_right _ (List.mem_append_right _ (List.mem_append_right _ (List.mem_append_right _ (List.mem_append_right _ (List.mem_append_right _ (List.mem_append_right _ (List.mem_of_getElem? (l := tables_1_7) (i := 36) rfl)))))))) rfl
theorem wd_900 : (Cond.code ({ cls := "CloudDepthModel", name := "deepest", desc := "(I)I" } : MethodName) prog_14_method_84_code (3 : Nat) (Option.some Jvm.ClassFile.FieldType.int)) ∈ LT := mG (List.mem_append_right _ (List.mem_append_right _ (List.mem_append_right _ (List.mem_append_right _ (List.mem_append_right _ (List.mem_append_right _ (List.mem_append_right _ (List.mem_of_getElem? (l := tables_1_7) (i := 32) rfl)))))))) rfl
theorem wd_901 : (Cond.code ({ cls := "CloudDepth$Depths", name := "bound", desc := "(LCloudDepth$Cloud;I)V" } : MethodName) prog_4_method_8_code (6 : Nat) (Option.none : Option Jvm.ClassFile.FieldType)) ∈ LT := mG (List.mem_append_right _ (List.mem_append_right _ (List.mem_append_right _ (List.mem_append_right _ (List.mem_append_left _ (List.mem_of_getElem? (l := tables_1_4) (i := 126) rfl)))))) rfl
theorem wd_902 : (Cond.code ({ cls := "CloudDepth", name := "region", desc := "(II)I" } : MethodName) prog_1_method_29_code (3 : Nat) (Option.some Jvm.ClassFile.FieldType.int)) ∈ LT := mG (List.mem_append_right _ (List.mem_append_right _ (List.mem_append_right _ (List.mem_append_right _ (List.mem_append_left _ (List.mem_of_getElem? (l := tables_1_4) (i := 122) rfl)))))) rfl
theorem wd_903 : (Cond.code ({ cls := "CloudDepthModel", name := "region", desc := "(II)I" } : MethodName) prog_14_method_85_code (10 : Nat) (Option.some Jvm.ClassFile.FieldType.int)) ∈ LT := mG (List.mem_append_right _ (List.mem_append_right _ (List.mem_append_right _ (List.mem_append_right _ (List.mem_append_right _ (List.mem_append_right _ (List.mem_append_right _ (List.mem_of_getElem? (l := tables_1_7) (i := 40) rfl)))))))) rfl
theorem wd_904 : (Cond.code ({ cls := "CloudDepth$Shapes", name := "leastOf", desc := "(I)I" } : MethodName) prog_9_method_7_code (1 : Nat) (Option.some Jvm.ClassFile.FieldType.int)) ∈ LT := mG (List.mem_append_right _ (List.mem_append_right _ (List.mem_append_right _ (List.mem_append_right _ (List.mem_append_left _ (List.mem_of_getElem? (l := tables_1_4) (i := 150) rfl)))))) rfl
theorem wd_905 : (Cond.code ({ cls := "CloudDepth$Shapes", name := "covers", desc := "(LCloudDepth$Cloud;III)Z" } : MethodName) prog_9_method_6_code (12 : Nat) (Option.some Jvm.ClassFile.FieldType.boolean)) ∈ LT := mG (List.mem_append_right _ (List.mem_append_right _ (List.mem_append_right _ (List.mem_append_right _ (List.mem_append_left _ (List.mem_of_getElem? (l := tables_1_4) (i := 147) rfl)))))) rfl
theorem wd_906 : (Cond.code ({ cls := "CloudDepth$Shapes", name := "trianglesAbout", desc := "(LCloudDepth$Cloud;II)I" } : MethodName) prog_9_method_2_code (8 : Nat) (Option.some Jvm.ClassFile.FieldType.int)) ∈ LT := mG (List.mem_append_right _ (List.mem_append_right _ (List.mem_append_right _ (List.mem_append_right _ (List.mem_append_left _ (List.mem_of_getElem? (l := tables_1_4) (i := 143) rfl)))))) rfl
theorem wd_907 : (Cond.code ({ cls := "CloudDepth", name := "triangles", desc := "(II)I" } : MethodName) prog_1_method_31_code (3 : Nat) (Option.some Jvm.ClassFile.FieldType.int)) ∈ LT := mG (List.mem_append_right _ (List.mem_append_right _ (List.mem_append_right _ (List.mem_append_right _ (List.mem_append_left _ (List.mem_of_getElem? (l := tables_1_4) (i := 139) rfl)))))) rfl
theorem wd_908 : (Cond.code ({ cls := "CloudDepthModel", name := "isInside", desc := "(IIIII)Z" } : MethodName) prog_14_method_75_code (7 : Nat) (Option.some Jvm.ClassFile.FieldType.boolean)) ∈ LT := mG (List.mem_append_right _ (List.mem_append_right _ (List.mem_append_right _ (List.mem_append_right _ (List.mem_append_right _ (List.mem_append_right _ (List.mem_append_right _ (List.mem_of_getElem? (l := tables_1_7) (i := 17) rfl)))))))) rfl
theorem wd_909 : (Cond.code ({ cls := "CloudDepthModel", name := "triangles", desc := "(II)I" } : MethodName) prog_14_method_76_code (7 : Nat) (Option.some Jvm.ClassFile.FieldType.int)) ∈ LT := mG (List.mem_append_right _ (List.mem_append_right _ (List.mem_append_right _ (List.mem_append_right _ (List.mem_append_right _ (List.mem_append_right _ (List.mem_append_right _ (List.mem_of_getElem? (l := tables_1_7) (i := 13) rfl)))))))) rfl
theorem wd_910 : (Cond.code ({ cls := "CloudDepth$Lines", name := "rankOf", desc := "(LCloudDepth$Cloud;IIII)I" } : MethodName) prog_7_method_3_code (9 : Nat) (Option.some Jvm.ClassFile.FieldType.int)) ∈ LT := mG (List.mem_append_right _ (List.mem_append_right _ (List.mem_append_right _ (List.mem_append_right _ (List.mem_append_left _ (List.mem_of_getElem? (l := tables_1_4) (i := 195) rfl)))))) rfl
theorem wd_911 : (Cond.code ({ cls := "CloudDepth$Lines", name := "lineAt", desc := "(LCloudDepth$Cloud;IIII)I" } : MethodName) prog_7_method_2_code (6 : Nat) (Option.some Jvm.ClassFile.FieldType.int)) ∈ LT := mG (List.mem_append_right _ (List.mem_append_right _ (List.mem_append_right _ (List.mem_append_right _ (List.mem_append_left _ (List.mem_of_getElem? (l := tables_1_4) (i := 192) rfl)))))) rfl
theorem wd_912 : (Cond.code ({ cls := "CloudDepth", name := "order", desc := "(II)I" } : MethodName) prog_1_method_34_code (3 : Nat) (Option.some Jvm.ClassFile.FieldType.int)) ∈ LT := mG (List.mem_append_right _ (List.mem_append_right _ (List.mem_append_right _ (List.mem_append_right _ (List.mem_append_left _ (List.mem_of_getElem? (l := tables_1_4) (i := 189) rfl)))))) rfl
theorem wd_913 : (Cond.code ({ cls := "CloudDepthModel", name := "valueAt", desc := "(III)I" } : MethodName) prog_14_method_94_code (4 : Nat) (Option.some Jvm.ClassFile.FieldType.int)) ∈ LT := mG (List.mem_append_right _ (List.mem_append_right _ (List.mem_append_right _ (List.mem_append_right _ (List.mem_append_right _ (List.mem_append_right _ (List.mem_append_right _ (List.mem_of_getElem? (l := tables_1_7) (i := 84) rfl)))))))) rfl
theorem wd_914 : (Cond.code ({ cls := "CloudDepthModel", name := "lineAt", desc := "(IIIZ)I" } : MethodName) prog_14_method_95_code (9 : Nat) (Option.some Jvm.ClassFile.FieldType.int)) ∈ LT := mG (List.mem_append_right _ (List.mem_append_right _ (List.mem_append_right _ (List.mem_append_right _ (List.mem_append_right _ (List.mem_append_right _ (List.mem_append_right _ (List.mem_of_getElem? (l := tables_1_7) (i := 80) rfl)))))))) rfl
theorem wd_915 : (Cond.code ({ cls := "CloudDepthModel", name := "order", desc := "(II)I" } : MethodName) prog_14_method_96_code (3 : Nat) (Option.some Jvm.ClassFile.FieldType.int)) ∈ LT := mG (List.mem_append_right _ (List.mem_append_right _ (List.mem_append_right _ (List.mem_append_right _ (List.mem_append_right _ (List.mem_append_right _ (List.mem_append_right _ (List.mem_of_getElem? (l := tables_1_7) (i := 76) rfl)))))))) rfl
theorem wd_916 : (Cond.code ({ cls := "CloudDepth$Lines", name := "lesser", desc := "(I)I" } : MethodName) prog_7_method_7_code (2 : Nat) (Option.some Jvm.ClassFile.FieldType.int)) ∈ LT := mG (List.mem_append_right _ (List.mem_append_right _ (List.mem_append_right _ (List.mem_append_right _ (List.mem_append_left _ (List.mem_of_getElem? (l := tables_1_4) (i := 219) rfl)))))) rfl
theorem wd_917 : (Cond.code ({ cls := "CloudDepth$Lines", name := "other", desc := "(I)I" } : MethodName) prog_7_method_8_code (2 : Nat) (Option.some Jvm.ClassFile.FieldType.int)) ∈ LT := mG (List.mem_append_right _ (List.mem_append_right _ (List.mem_append_right _ (List.mem_append_right _ (List.mem_append_left _ (List.mem_of_getElem? (l := tables_1_4) (i := 223) rfl)))))) rfl
theorem wd_918 : (Cond.code ({ cls := "CloudDepth$Lines", name := "over", desc := "(LCloudDepth$Cloud;I)I" } : MethodName) prog_7_method_9_code (4 : Nat) (Option.some Jvm.ClassFile.FieldType.int)) ∈ LT := mG (List.mem_append_right _ (List.mem_append_right _ (List.mem_append_right _ (List.mem_append_right _ (List.mem_append_left _ (List.mem_of_getElem? (l := tables_1_4) (i := 215) rfl)))))) rfl
theorem wd_919 : (Cond.code ({ cls := "CloudDepth$Lines", name := "under", desc := "(LCloudDepth$Cloud;I)I" } : MethodName) prog_7_method_10_code (3 : Nat) (Option.some Jvm.ClassFile.FieldType.int)) ∈ LT := mG (List.mem_append_right _ (List.mem_append_right _ (List.mem_append_right _ (List.mem_append_right _ (List.mem_append_left _ (List.mem_of_getElem? (l := tables_1_4) (i := 227) rfl)))))) rfl
theorem wd_920 : (Cond.code ({ cls := "java/lang/Integer", name := "compare", desc := "(II)I" } : MethodName) prog_15_method_40_code (2 : Nat) (Option.some Jvm.ClassFile.FieldType.int)) ∈ LT := mG (List.mem_append_right _ (List.mem_append_right _ (List.mem_append_right _ (List.mem_append_right _ (List.mem_append_left _ (List.mem_of_getElem? (l := tables_1_4) (i := 233) rfl)))))) rfl
theorem wd_921 : (Cond.code ({ cls := "CloudDepth$Lines", name := "compareX", desc := "(LCloudDepth$Cloud;II)I" } : MethodName) prog_7_method_6_code (4 : Nat) (Option.some Jvm.ClassFile.FieldType.int)) ∈ LT := mG (List.mem_append_right _ (List.mem_append_right _ (List.mem_append_right _ (List.mem_append_right _ (List.mem_append_left _ (List.mem_of_getElem? (l := tables_1_4) (i := 211) rfl)))))) rfl
theorem wd_922 : (Cond.code ({ cls := "CloudDepth$Lines", name := "sinkLast", desc := "(LCloudDepth$Cloud;)V" } : MethodName) prog_7_method_5_code (4 : Nat) (Option.none : Option Jvm.ClassFile.FieldType)) ∈ LT := mG (List.mem_append_right _ (List.mem_append_right _ (List.mem_append_right _ (List.mem_append_right _ (List.mem_append_left _ (List.mem_of_getElem? (l := tables_1_4) (i := 207) rfl)))))) rfl
theorem wd_923 : (Cond.code ({ cls := "CloudDepth$Lines", name := "cross", desc := "(LCloudDepth$Cloud;)V" } : MethodName) prog_7_method_4_code (4 : Nat) (Option.none : Option Jvm.ClassFile.FieldType)) ∈ LT := mG (List.mem_append_right _ (List.mem_append_right _ (List.mem_append_right _ (List.mem_append_right _ (List.mem_append_left _ (List.mem_of_getElem? (l := tables_1_4) (i := 203) rfl)))))) rfl
theorem wd_924 : (Cond.code ({ cls := "CloudDepth$Lines", name := "divisor", desc := "(LCloudDepth$Cloud;I)I" } : MethodName) prog_7_method_11_code (7 : Nat) (Option.some Jvm.ClassFile.FieldType.int)) ∈ LT := mG (List.mem_append_right _ (List.mem_append_right _ (List.mem_append_right _ (List.mem_append_right _ (List.mem_append_left _ (List.mem_of_getElem? (l := tables_1_4) (i := 238) rfl)))))) rfl
theorem wd_925 : (Cond.code ({ cls := "CloudDepth", name := "crossing", desc := "(II)I" } : MethodName) prog_1_method_35_code (3 : Nat) (Option.some Jvm.ClassFile.FieldType.int)) ∈ LT := mG (List.mem_append_right _ (List.mem_append_right _ (List.mem_append_right _ (List.mem_append_right _ (List.mem_append_left _ (List.mem_of_getElem? (l := tables_1_4) (i := 199) rfl)))))) rfl
theorem wd_926 : (Cond.code ({ cls := "CloudDepthModel", name := "measure", desc := "(II)I" } : MethodName) prog_14_method_97_code (5 : Nat) (Option.some Jvm.ClassFile.FieldType.int)) ∈ LT := mG (List.mem_append_right _ (List.mem_append_right _ (List.mem_append_right _ (List.mem_append_right _ (List.mem_append_right _ (List.mem_append_right _ (List.mem_append_right _ (List.mem_of_getElem? (l := tables_1_7) (i := 95) rfl)))))))) rfl
theorem wd_927 : (Cond.code ({ cls := "CloudDepthModel", name := "laysCrossings", desc := "()I" } : MethodName) prog_14_method_98_code (8 : Nat) (Option.some Jvm.ClassFile.FieldType.int)) ∈ LT := mG (List.mem_append_right _ (List.mem_append_right _ (List.mem_append_right _ (List.mem_append_right _ (List.mem_append_right _ (List.mem_append_right _ (List.mem_append_right _ (List.mem_of_getElem? (l := tables_1_7) (i := 92) rfl)))))))) rfl
theorem wd_928 : (Cond.code ({ cls := "CloudDepthModel", name := "crossing", desc := "(II)I" } : MethodName) prog_14_method_99_code (4 : Nat) (Option.some Jvm.ClassFile.FieldType.int)) ∈ LT := mG (List.mem_append_right _ (List.mem_append_right _ (List.mem_append_right _ (List.mem_append_right _ (List.mem_append_right _ (List.mem_append_right _ (List.mem_append_right _ (List.mem_of_getElem? (l := tables_1_7) (i := 88) rfl)))))))) rfl
theorem wd_929 : (Cond.code ({ cls := "CloudDepth$Lines", name := "bendsAt", desc := "(LCloudDepth$Cloud;III)Z" } : MethodName) prog_7_method_13_code (4 : Nat) (Option.some Jvm.ClassFile.FieldType.boolean)) ∈ LT := mG (List.mem_append_right _ (List.mem_append_right _ (List.mem_append_right _ (List.mem_append_right _ (List.mem_append_right _ (List.mem_append_left _ (List.mem_of_getElem? (l := tables_1_5) (i := 13) rfl))))))) rfl
theorem wd_930 : (Cond.code ({ cls := "CloudDepth$Lines", name := "bendsOf", desc := "(LCloudDepth$Cloud;I)I" } : MethodName) prog_7_method_12_code (6 : Nat) (Option.some Jvm.ClassFile.FieldType.int)) ∈ LT := mG (List.mem_append_right _ (List.mem_append_right _ (List.mem_append_right _ (List.mem_append_right _ (List.mem_append_right _ (List.mem_append_left _ (List.mem_of_getElem? (l := tables_1_5) (i := 10) rfl))))))) rfl
theorem wd_931 : (Cond.code ({ cls := "CloudDepth", name := "bends", desc := "(I)I" } : MethodName) prog_1_method_36_code (2 : Nat) (Option.some Jvm.ClassFile.FieldType.int)) ∈ LT := mG (List.mem_append_right _ (List.mem_append_right _ (List.mem_append_right _ (List.mem_append_right _ (List.mem_append_right _ (List.mem_append_left _ (List.mem_of_getElem? (l := tables_1_5) (i := 6) rfl))))))) rfl
theorem wd_932 : (Cond.code ({ cls := "CloudDepthModel", name := "bends", desc := "(I)I" } : MethodName) prog_14_method_100_code (5 : Nat) (Option.some Jvm.ClassFile.FieldType.int)) ∈ LT := mG (List.mem_append_right _ (List.mem_append_right _ (List.mem_append_right _ (List.mem_append_right _ (List.mem_append_right _ (List.mem_append_right _ (List.mem_append_right _ (List.mem_of_getElem? (l := tables_1_7) (i := 99) rfl)))))))) rfl
theorem wd_933 : (Cond.code ({ cls := "CloudDepth$Fits", name := "arrange", desc := "(LCloudDepth$Cloud;)V" } : MethodName) prog_5_method_2_code (4 : Nat) (Option.none : Option Jvm.ClassFile.FieldType)) ∈ LT := mG (List.mem_append_right _ (List.mem_append_right _ (List.mem_append_right _ (List.mem_append_right _ (List.mem_append_right _ (List.mem_append_left _ (List.mem_of_getElem? (l := tables_1_5) (i := 22) rfl))))))) rfl
theorem wd_934 : (Cond.code ({ cls := "CloudDepth$Fits", name := "fitOf", desc := "(LCloudDepth$Cloud;II)I" } : MethodName) prog_5_method_3_code (14 : Nat) (Option.some Jvm.ClassFile.FieldType.int)) ∈ LT := mG (List.mem_append_right _ (List.mem_append_right _ (List.mem_append_right _ (List.mem_append_right _ (List.mem_append_right _ (List.mem_append_left _ (List.mem_of_getElem? (l := tables_1_5) (i := 26) rfl))))))) rfl
theorem wd_935 : (Cond.code ({ cls := "CloudDepth", name := "fit", desc := "(II)I" } : MethodName) prog_1_method_37_code (3 : Nat) (Option.some Jvm.ClassFile.FieldType.int)) ∈ LT := mG (List.mem_append_right _ (List.mem_append_right _ (List.mem_append_right _ (List.mem_append_right _ (List.mem_append_right _ (List.mem_append_left _ (List.mem_of_getElem? (l := tables_1_5) (i := 18) rfl))))))) rfl
theorem wd_936 : (Cond.code ({ cls := "CloudDepthModel", name := "fitOf", desc := "(II)I" } : MethodName) prog_14_method_101_code (11 : Nat) (Option.some Jvm.ClassFile.FieldType.int)) ∈ LT := mG (List.mem_append_right _ (List.mem_append_right _ (List.mem_append_right _ (List.mem_append_right _ (List.mem_append_right _ (List.mem_append_right _ (List.mem_append_right _ (List.mem_of_getElem? (l := tables_1_7) (i := 107) rfl)))))))) rfl
theorem wd_937 : (Cond.code ({ cls := "CloudDepthModel", name := "fit", desc := "(II)I" } : MethodName) prog_14_method_102_code (3 : Nat) (Option.some Jvm.ClassFile.FieldType.int)) ∈ LT := mG (List.mem_append_right _ (List.mem_append_right _ (List.mem_append_right _ (List.mem_append_right _ (List.mem_append_right _ (List.mem_append_right _ (List.mem_append_right _ (List.mem_of_getElem? (l := tables_1_7) (i := 103) rfl)))))))) rfl
theorem wd_938 : (Cond.code ({ cls := "CloudDepth$Fits", name := "noteFit", desc := "(III)V" } : MethodName) prog_5_method_5_code (4 : Nat) (Option.none : Option Jvm.ClassFile.FieldType)) ∈ LT := mG (List.mem_append_right _ (List.mem_append_right _ (List.mem_append_right _ (List.mem_append_right _ (List.mem_append_right _ (List.mem_append_left _ (List.mem_of_getElem? (l := tables_1_5) (i := 41) rfl))))))) rfl
theorem wd_939 : (Cond.code ({ cls := "CloudDepth$Fits", name := "search", desc := "(LCloudDepth$Cloud;)V" } : MethodName) prog_5_method_4_code (4 : Nat) (Option.none : Option Jvm.ClassFile.FieldType)) ∈ LT := mG (List.mem_append_right _ (List.mem_append_right _ (List.mem_append_right _ (List.mem_append_right _ (List.mem_append_right _ (List.mem_append_left _ (List.mem_of_getElem? (l := tables_1_5) (i := 35) rfl))))))) rfl
theorem wd_940 : (Cond.code ({ cls := "CloudDepth", name := "best", desc := "(I)I" } : MethodName) prog_1_method_38_code (2 : Nat) (Option.some Jvm.ClassFile.FieldType.int)) ∈ LT := mG (List.mem_append_right _ (List.mem_append_right _ (List.mem_append_right _ (List.mem_append_right _ (List.mem_append_right _ (List.mem_append_left _ (List.mem_of_getElem? (l := tables_1_5) (i := 31) rfl))))))) rfl
theorem wd_941 : (Cond.code ({ cls := "CloudDepthModel", name := "best", desc := "(I)I" } : MethodName) prog_14_method_103_code (9 : Nat) (Option.some Jvm.ClassFile.FieldType.int)) ∈ LT := mG (List.mem_append_right _ (List.mem_append_right _ (List.mem_append_right _ (List.mem_append_right _ (List.mem_append_right _ (List.mem_append_right _ (List.mem_append_right _ (List.mem_of_getElem? (l := tables_1_7) (i := 111) rfl)))))))) rfl
theorem wd_942 : (Cond.code ({ cls := "CloudDepth", name := "halvingBoth", desc := "(II)I" } : MethodName) prog_1_method_23_code (7 : Nat) (Option.some Jvm.ClassFile.FieldType.int)) ∈ LT := mG (List.mem_append_right _ (List.mem_append_right _ (List.mem_append_right _ (List.mem_append_right _ (List.mem_append_left _ (List.mem_of_getElem? (l := tables_1_4) (i := 37) rfl)))))) rfl
theorem wd_943 : (Cond.code ({ cls := "CloudDepthModel", name := "halvingBoth", desc := "(II)I" } : MethodName) prog_14_method_62_code (6 : Nat) (Option.some Jvm.ClassFile.FieldType.int)) ∈ LT := mG (List.mem_append_right _ (List.mem_append_right _ (List.mem_append_right _ (List.mem_append_right _ (List.mem_append_right _ (List.mem_append_right _ (List.mem_append_left _ (List.mem_of_getElem? (l := tables_1_6) (i := 210) rfl)))))))) rfl
theorem wd_944 : (Cond.code ({ cls := "CloudDepth$Shapes", name := "hasThreeOnOneLine", desc := "(LCloudDepth$Cloud;I)Z" } : MethodName) prog_9_method_10_code (4 : Nat) (Option.some Jvm.ClassFile.FieldType.boolean)) ∈ LT := mG (List.mem_append_right _ (List.mem_append_right _ (List.mem_append_right _ (List.mem_append_right _ (List.mem_append_left _ (List.mem_of_getElem? (l := tables_1_4) (i := 164) rfl)))))) rfl
theorem wd_945 : (Cond.code ({ cls := "CloudDepth$Shapes", name := "innerOf", desc := "(LCloudDepth$Cloud;I)I" } : MethodName) prog_9_method_11_code (3 : Nat) (Option.some Jvm.ClassFile.FieldType.int)) ∈ LT := mG (List.mem_append_right _ (List.mem_append_right _ (List.mem_append_right _ (List.mem_append_right _ (List.mem_append_left _ (List.mem_of_getElem? (l := tables_1_4) (i := 169) rfl)))))) rfl
theorem wd_946 : (Cond.code ({ cls := "CloudDepth$Shapes", name := "meet", desc := "(LCloudDepth$Cloud;III)Z" } : MethodName) prog_9_method_13_code (6 : Nat) (Option.some Jvm.ClassFile.FieldType.boolean)) ∈ LT := mG (List.mem_append_right _ (List.mem_append_right _ (List.mem_append_right _ (List.mem_append_right _ (List.mem_append_left _ (List.mem_of_getElem? (l := tables_1_4) (i := 172) rfl)))))) rfl
theorem wd_947 : (Cond.code ({ cls := "CloudDepth$Shapes", name := "partWithLeast", desc := "(LCloudDepth$Cloud;I)I" } : MethodName) prog_9_method_12_code (7 : Nat) (Option.some Jvm.ClassFile.FieldType.int)) ∈ LT := mG (List.mem_append_right _ (List.mem_append_right _ (List.mem_append_right _ (List.mem_append_right _ (List.mem_append_left _ (List.mem_of_getElem? (l := tables_1_4) (i := 161) rfl)))))) rfl
theorem wd_948 : (Cond.code ({ cls := "CloudDepth", name := "four", desc := "(IIII)I" } : MethodName) prog_1_method_32_code (6 : Nat) (Option.some Jvm.ClassFile.FieldType.int)) ∈ LT := mG (List.mem_append_right _ (List.mem_append_right _ (List.mem_append_right _ (List.mem_append_right _ (List.mem_append_left _ (List.mem_of_getElem? (l := tables_1_4) (i := 157) rfl)))))) rfl
theorem wd_949 : (Cond.code ({ cls := "CloudDepthModel", name := "topmost", desc := "(I)I" } : MethodName) prog_14_method_72_code (2 : Nat) (Option.some Jvm.ClassFile.FieldType.int)) ∈ LT := mG (List.mem_append_right _ (List.mem_append_right _ (List.mem_append_right _ (List.mem_append_right _ (List.mem_append_right _ (List.mem_append_right _ (List.mem_append_right _ (List.mem_of_getElem? (l := tables_1_7) (i := 9) rfl)))))))) rfl
theorem wd_950 : (Cond.code ({ cls := "CloudDepthModel", name := "four", desc := "(IIII)I" } : MethodName) prog_14_method_71_code (7 : Nat) (Option.some Jvm.ClassFile.FieldType.int)) ∈ LT := mG (List.mem_append_right _ (List.mem_append_right _ (List.mem_append_right _ (List.mem_append_right _ (List.mem_append_right _ (List.mem_append_right _ (List.mem_append_right _ (List.mem_of_getElem? (l := tables_1_7) (i := 6) rfl)))))))) rfl
theorem wd_951 : (Cond.code ({ cls := "CloudDepth$Shapes", name := "keepsTurns", desc := "(LCloudDepth$Cloud;III)Z" } : MethodName) prog_9_method_17_code (6 : Nat) (Option.some Jvm.ClassFile.FieldType.boolean)) ∈ LT := mG (List.mem_append_right _ (List.mem_append_right _ (List.mem_append_right _ (List.mem_append_right _ (List.mem_append_left _ (List.mem_of_getElem? (l := tables_1_4) (i := 185) rfl)))))) rfl
theorem wd_952 : (Cond.code ({ cls := "CloudDepth$Shapes", name := "keepingPlaces", desc := "(LCloudDepth$Cloud;I)I" } : MethodName) prog_9_method_16_code (7 : Nat) (Option.some Jvm.ClassFile.FieldType.int)) ∈ LT := mG (List.mem_append_right _ (List.mem_append_right _ (List.mem_append_right _ (List.mem_append_right _ (List.mem_append_left _ (List.mem_of_getElem? (l := tables_1_4) (i := 181) rfl)))))) rfl
theorem wd_953 : (Cond.code ({ cls := "CloudDepth", name := "keeping", desc := "(I)I" } : MethodName) prog_1_method_33_code (2 : Nat) (Option.some Jvm.ClassFile.FieldType.int)) ∈ LT := mG (List.mem_append_right _ (List.mem_append_right _ (List.mem_append_right _ (List.mem_append_right _ (List.mem_append_left _ (List.mem_of_getElem? (l := tables_1_4) (i := 177) rfl)))))) rfl
theorem wd_954 : (Cond.code ({ cls := "CloudDepthModel", name := "keeps", desc := "(III)Z" } : MethodName) prog_14_method_91_code (9 : Nat) (Option.some Jvm.ClassFile.FieldType.boolean)) ∈ LT := mG (List.mem_append_right _ (List.mem_append_right _ (List.mem_append_right _ (List.mem_append_right _ (List.mem_append_right _ (List.mem_append_right _ (List.mem_append_right _ (List.mem_of_getElem? (l := tables_1_7) (i := 68) rfl)))))))) rfl
theorem wd_955 : (Cond.code ({ cls := "CloudDepthModel", name := "keeping", desc := "(I)I" } : MethodName) prog_14_method_92_code (6 : Nat) (Option.some Jvm.ClassFile.FieldType.int)) ∈ LT := mG (List.mem_append_right _ (List.mem_append_right _ (List.mem_append_right _ (List.mem_append_right _ (List.mem_append_right _ (List.mem_append_right _ (List.mem_append_right _ (List.mem_of_getElem? (l := tables_1_7) (i := 64) rfl)))))))) rfl
theorem wd_956 : (Cond.code ({ cls := "CloudDepth$Cuts", name := "countAll", desc := "(LCloudDepth$Cloud;)I" } : MethodName) prog_3_method_7_code (4 : Nat) (Option.some Jvm.ClassFile.FieldType.int)) ∈ LT := mG (List.mem_append_right _ (List.mem_append_right _ (List.mem_append_right _ (List.mem_append_right _ (List.mem_append_left _ (List.mem_of_getElem? (l := tables_1_4) (i := 98) rfl)))))) rfl
theorem wd_957 : (Cond.code ({ cls := "CloudDepth", name := "splits", desc := "()I" } : MethodName) prog_1_method_26_code (2 : Nat) (Option.some Jvm.ClassFile.FieldType.int)) ∈ LT := mG (List.mem_append_right _ (List.mem_append_right _ (List.mem_append_right _ (List.mem_append_right _ (List.mem_append_left _ (List.mem_of_getElem? (l := tables_1_4) (i := 94) rfl)))))) rfl
theorem wd_958 : (Cond.code ({ cls := "CloudDepthModel", name := "splits", desc := "()I" } : MethodName) prog_14_method_70_code (3 : Nat) (Option.some Jvm.ClassFile.FieldType.int)) ∈ LT := mG (List.mem_append_right _ (List.mem_append_right _ (List.mem_append_right _ (List.mem_append_right _ (List.mem_append_right _ (List.mem_append_right _ (List.mem_append_right _ (List.mem_of_getElem? (l := tables_1_7) (i := 2) rfl)))))))) rfl
theorem wd_959 : (Cond.code ({ cls := "CloudDepth$Depths", name := "greatestOf", desc := "(LCloudDepth$Cloud;)I" } : MethodName) prog_4_method_6_code (5 : Nat) (Option.some Jvm.ClassFile.FieldType.int)) ∈ LT := mG (List.mem_append_right _ (List.mem_append_right _ (List.mem_append_right _ (List.mem_append_right _ (List.mem_append_left _ (List.mem_of_getElem? (l := tables_1_4) (i := 135) rfl)))))) rfl
theorem wd_960 : (Cond.code ({ cls := "CloudDepth", name := "fresh", desc := "(III)I" } : MethodName) prog_1_method_30_code (4 : Nat) (Option.some Jvm.ClassFile.FieldType.int)) ∈ LT := mG (List.mem_append_right _ (List.mem_append_right _ (List.mem_append_right _ (List.mem_append_right _ (List.mem_append_left _ (List.mem_of_getElem? (l := tables_1_4) (i := 131) rfl)))))) rfl
theorem wd_961 : (Cond.code ({ cls := "CloudDepthModel", name := "fresh", desc := "(III)I" } : MethodName) prog_14_method_93_code (5 : Nat) (Option.some Jvm.ClassFile.FieldType.int)) ∈ LT := mG (List.mem_append_right _ (List.mem_append_right _ (List.mem_append_right _ (List.mem_append_right _ (List.mem_append_right _ (List.mem_append_right _ (List.mem_append_right _ (List.mem_of_getElem? (l := tables_1_7) (i := 72) rfl)))))))) rfl
theorem wd_962 : (Cond.code ({ cls := "CloudDepth", name := "hold", desc := "(I)Z" } : MethodName) prog_1_method_11_code (2 : Nat) (Option.some Jvm.ClassFile.FieldType.boolean)) ∈ LT := mG (List.mem_append_right _ (List.mem_append_right _ (List.mem_append_right _ (List.mem_append_left _ (List.mem_of_getElem? (l := tables_1_3) (i := 134) rfl))))) rfl
theorem wd_963 : (Cond.code ({ cls := "CloudDepthModel", name := "hold", desc := "(I)Z" } : MethodName) prog_14_method_37_code (3 : Nat) (Option.some Jvm.ClassFile.FieldType.boolean)) ∈ LT := mG (List.mem_append_right _ (List.mem_append_right _ (List.mem_append_right _ (List.mem_append_right _ (List.mem_append_right _ (List.mem_append_right _ (List.mem_append_left _ (List.mem_of_getElem? (l := tables_1_6) (i := 79) rfl)))))))) rfl
theorem wd_964 : (Cond.code ({ cls := "CloudDepth", name := "restore", desc := "(I)Z" } : MethodName) prog_1_method_12_code (2 : Nat) (Option.some Jvm.ClassFile.FieldType.boolean)) ∈ LT := mG (List.mem_append_right _ (List.mem_append_right _ (List.mem_append_right _ (List.mem_append_left _ (List.mem_of_getElem? (l := tables_1_3) (i := 138) rfl))))) rfl
theorem wd_965 : (Cond.code ({ cls := "CloudDepthModel", name := "restore", desc := "(I)Z" } : MethodName) prog_14_method_38_code (3 : Nat) (Option.some Jvm.ClassFile.FieldType.boolean)) ∈ LT := mG (List.mem_append_right _ (List.mem_append_right _ (List.mem_append_right _ (List.mem_append_right _ (List.mem_append_right _ (List.mem_append_right _ (List.mem_append_left _ (List.mem_of_getElem? (l := tables_1_6) (i := 83) rfl)))))))) rfl
theorem wd_966 : (Cond.code ({ cls := "CloudDepth$Hulls", name := "areaTwice", desc := "(LCloudDepth$Cloud;)I" } : MethodName) prog_6_method_7_code (4 : Nat) (Option.some Jvm.ClassFile.FieldType.int)) ∈ LT := mG (List.mem_append_right _ (List.mem_append_right _ (List.mem_append_right _ (List.mem_append_right _ (List.mem_append_right _ (List.mem_append_left _ (List.mem_of_getElem? (l := tables_1_5) (i := 49) rfl))))))) rfl
theorem wd_967 : (Cond.code ({ cls := "CloudDepth$Shapes", name := "triplesOnOneLine", desc := "(LCloudDepth$Cloud;)I" } : MethodName) prog_9_method_3_code (6 : Nat) (Option.some Jvm.ClassFile.FieldType.int)) ∈ LT := mG (List.mem_append_right _ (List.mem_append_right _ (List.mem_append_right _ (List.mem_append_right _ (List.mem_append_right _ (List.mem_append_left _ (List.mem_of_getElem? (l := tables_1_5) (i := 53) rfl))))))) rfl
theorem wd_968 : (Cond.code ({ cls := "CloudDepth", name := "greatestPointDepth", desc := "()I" } : MethodName) prog_1_method_40_code (3 : Nat) (Option.some Jvm.ClassFile.FieldType.int)) ∈ LT := mG (List.mem_append_right _ (List.mem_append_right _ (List.mem_append_right _ (List.mem_append_right _ (List.mem_append_right _ (List.mem_append_left _ (List.mem_of_getElem? (l := tables_1_5) (i := 57) rfl))))))) rfl
theorem wd_969 : (Cond.code ({ cls := "CloudDepth", name := "pointsOfDepth", desc := "(I)I" } : MethodName) prog_1_method_41_code (4 : Nat) (Option.some Jvm.ClassFile.FieldType.int)) ∈ LT := mG (List.mem_append_right _ (List.mem_append_right _ (List.mem_append_right _ (List.mem_append_right _ (List.mem_append_right _ (List.mem_append_left _ (List.mem_of_getElem? (l := tables_1_5) (i := 62) rfl))))))) rfl
theorem wd_970 : (Cond.code ({ cls := "CloudDepth", name := "slotsInUse", desc := "()I" } : MethodName) prog_1_method_42_code (3 : Nat) (Option.some Jvm.ClassFile.FieldType.int)) ∈ LT := mG (List.mem_append_right _ (List.mem_append_right _ (List.mem_append_right _ (List.mem_append_right _ (List.mem_append_right _ (List.mem_append_left _ (List.mem_of_getElem? (l := tables_1_5) (i := 66) rfl))))))) rfl
theorem wd_971 : (Cond.code ({ cls := "CloudDepth", name := "thirdPart", desc := "()I" } : MethodName) prog_1_method_43_code (1 : Nat) (Option.some Jvm.ClassFile.FieldType.int)) ∈ LT := mG (List.mem_append_right _ (List.mem_append_right _ (List.mem_append_right _ (List.mem_append_right _ (List.mem_append_right _ (List.mem_append_left _ (List.mem_of_getElem? (l := tables_1_5) (i := 70) rfl))))))) rfl
theorem wd_972 : (Cond.code ({ cls := "CloudDepth$Shapes", name := "isConvex", desc := "(LCloudDepth$Cloud;I)Z" } : MethodName) prog_9_method_9_code (5 : Nat) (Option.some Jvm.ClassFile.FieldType.boolean)) ∈ LT := mG (List.mem_append_right _ (List.mem_append_right _ (List.mem_append_right _ (List.mem_append_right _ (List.mem_append_right _ (List.mem_append_left _ (List.mem_of_getElem? (l := tables_1_5) (i := 80) rfl))))))) rfl
theorem wd_973 : (Cond.code ({ cls := "CloudDepth$Shapes", name := "greatestConvex", desc := "(LCloudDepth$Cloud;)I" } : MethodName) prog_9_method_8_code (4 : Nat) (Option.some Jvm.ClassFile.FieldType.int)) ∈ LT := mG (List.mem_append_right _ (List.mem_append_right _ (List.mem_append_right _ (List.mem_append_right _ (List.mem_append_right _ (List.mem_append_left _ (List.mem_of_getElem? (l := tables_1_5) (i := 74) rfl))))))) rfl
theorem wd_974 : (Cond.code ({ cls := "CloudDepth$Shapes", name := "isEmpty", desc := "(LCloudDepth$Cloud;I)Z" } : MethodName) prog_9_method_5_code (3 : Nat) (Option.some Jvm.ClassFile.FieldType.boolean)) ∈ LT := mG (List.mem_append_right _ (List.mem_append_right _ (List.mem_append_right _ (List.mem_append_right _ (List.mem_append_right _ (List.mem_append_left _ (List.mem_of_getElem? (l := tables_1_5) (i := 90) rfl))))))) rfl
theorem wd_975 : (Cond.code ({ cls := "CloudDepth$Shapes", name := "emptyTriangles", desc := "(LCloudDepth$Cloud;)I" } : MethodName) prog_9_method_4_code (6 : Nat) (Option.some Jvm.ClassFile.FieldType.int)) ∈ LT := mG (List.mem_append_right _ (List.mem_append_right _ (List.mem_append_right _ (List.mem_append_right _ (List.mem_append_right _ (List.mem_append_left _ (List.mem_of_getElem? (l := tables_1_5) (i := 87) rfl))))))) rfl
theorem wd_976 : (Cond.code ({ cls := "CloudDepth$Shapes", name := "meetingBehind", desc := "(LCloudDepth$Cloud;II)I" } : MethodName) prog_9_method_15_code (6 : Nat) (Option.some Jvm.ClassFile.FieldType.int)) ∈ LT := mG (List.mem_append_right _ (List.mem_append_right _ (List.mem_append_right _ (List.mem_append_right _ (List.mem_append_right _ (List.mem_append_left _ (List.mem_of_getElem? (l := tables_1_5) (i := 97) rfl))))))) rfl
theorem wd_977 : (Cond.code ({ cls := "CloudDepth$Shapes", name := "meetingPairs", desc := "(LCloudDepth$Cloud;)I" } : MethodName) prog_9_method_14_code (5 : Nat) (Option.some Jvm.ClassFile.FieldType.int)) ∈ LT := mG (List.mem_append_right _ (List.mem_append_right _ (List.mem_append_right _ (List.mem_append_right _ (List.mem_append_right _ (List.mem_append_left _ (List.mem_of_getElem? (l := tables_1_5) (i := 94) rfl))))))) rfl
theorem wd_978 : (Cond.code ({ cls := "CloudDepth", name := "count", desc := "(I)I" } : MethodName) prog_1_method_39_code (2 : Nat) (Option.some Jvm.ClassFile.FieldType.int)) ∈ LT := mG (List.mem_append_right _ (List.mem_append_right _ (List.mem_append_right _ (List.mem_append_right _ (List.mem_append_right _ (List.mem_append_left _ (List.mem_of_getElem? (l := tables_1_5) (i := 45) rfl))))))) rfl
theorem wd_979 : (Cond.code ({ cls := "CloudDepthModel", name := "area", desc := "()I" } : MethodName) prog_14_method_58_code (6 : Nat) (Option.some Jvm.ClassFile.FieldType.int)) ∈ LT := mG (List.mem_append_right _ (List.mem_append_right _ (List.mem_append_right _ (List.mem_append_right _ (List.mem_append_right _ (List.mem_append_right _ (List.mem_append_right _ (List.mem_of_getElem? (l := tables_1_7) (i := 119) rfl)))))))) rfl
theorem wd_980 : (Cond.code ({ cls := "CloudDepthModel", name := "onLine", desc := "()I" } : MethodName) prog_14_method_79_code (5 : Nat) (Option.some Jvm.ClassFile.FieldType.int)) ∈ LT := mG (List.mem_append_right _ (List.mem_append_right _ (List.mem_append_right _ (List.mem_append_right _ (List.mem_append_right _ (List.mem_append_right _ (List.mem_append_right _ (List.mem_of_getElem? (l := tables_1_7) (i := 123) rfl)))))))) rfl
theorem wd_981 : (Cond.code ({ cls := "CloudDepthModel", name := "deepestPoint", desc := "(Z)I" } : MethodName) prog_14_method_86_code (6 : Nat) (Option.some Jvm.ClassFile.FieldType.int)) ∈ LT := mG (List.mem_append_right _ (List.mem_append_right _ (List.mem_append_right _ (List.mem_append_right _ (List.mem_append_right _ (List.mem_append_right _ (List.mem_append_right _ (List.mem_of_getElem? (l := tables_1_7) (i := 127) rfl)))))))) rfl
theorem wd_982 : (Cond.code ({ cls := "CloudDepthModel", name := "third", desc := "()I" } : MethodName) prog_14_method_104_code (1 : Nat) (Option.some Jvm.ClassFile.FieldType.int)) ∈ LT := mG (List.mem_append_right _ (List.mem_append_right _ (List.mem_append_right _ (List.mem_append_right _ (List.mem_append_right _ (List.mem_append_right _ (List.mem_append_right _ (List.mem_of_getElem? (l := tables_1_7) (i := 131) rfl)))))))) rfl
theorem wd_983 : (Cond.code ({ cls := "CloudDepthModel", name := "convexMost", desc := "()I" } : MethodName) prog_14_method_73_code (5 : Nat) (Option.some Jvm.ClassFile.FieldType.int)) ∈ LT := mG (List.mem_append_right _ (List.mem_append_right _ (List.mem_append_right _ (List.mem_append_right _ (List.mem_append_right _ (List.mem_append_right _ (List.mem_append_right _ (List.mem_of_getElem? (l := tables_1_7) (i := 135) rfl)))))))) rfl
theorem wd_984 : (Cond.code ({ cls := "CloudDepthModel", name := "isEmpty", desc := "(III)Z" } : MethodName) prog_14_method_78_code (5 : Nat) (Option.some Jvm.ClassFile.FieldType.boolean)) ∈ LT := mG (List.mem_append_right _ (List.mem_append_right _ (List.mem_append_right _ (List.mem_append_right _ (List.mem_append_right _ (List.mem_append_right _ (List.mem_append_right _ (List.mem_of_getElem? (l := tables_1_7) (i := 143) rfl)))))))) rfl
theorem wd_985 : (Cond.code ({ cls := "CloudDepthModel", name := "emptyOnes", desc := "()I" } : MethodName) prog_14_method_77_code (5 : Nat) (Option.some Jvm.ClassFile.FieldType.int)) ∈ LT := mG (List.mem_append_right _ (List.mem_append_right _ (List.mem_append_right _ (List.mem_append_right _ (List.mem_append_right _ (List.mem_append_right _ (List.mem_append_right _ (List.mem_of_getElem? (l := tables_1_7) (i := 139) rfl)))))))) rfl
theorem wd_986 : (Cond.code ({ cls := "CloudDepthModel", name := "crossingWays", desc := "()I" } : MethodName) prog_14_method_74_code (3 : Nat) (Option.some Jvm.ClassFile.FieldType.int)) ∈ LT := mG (List.mem_append_right _ (List.mem_append_right _ (List.mem_append_right _ (List.mem_append_right _ (List.mem_append_right _ (List.mem_append_right _ (List.mem_append_right _ (List.mem_of_getElem? (l := tables_1_7) (i := 147) rfl)))))))) rfl
theorem wd_987 : (Cond.code ({ cls := "CloudDepthModel", name := "count", desc := "(I)I" } : MethodName) prog_14_method_105_code (2 : Nat) (Option.some Jvm.ClassFile.FieldType.int)) ∈ LT := mG (List.mem_append_right _ (List.mem_append_right _ (List.mem_append_right _ (List.mem_append_right _ (List.mem_append_right _ (List.mem_append_right _ (List.mem_append_right _ (List.mem_of_getElem? (l := tables_1_7) (i := 115) rfl)))))))) rfl
def fT_0 : List (Nat × Nat × Nat) := [(9, 0, 0), (15, 0, 1), (22, 0, 2), (18, 0, 3), (37, 0, 4)]
def mF_0 (i : Nat) : Option (Nat × Nat) := (fT_0.find? (fun q => q.1 == i)).map (·.2)
theorem fOK_0 : ∀ i c k, mF_0 i = some (c, k) → ∃ q : vw_C, classes[c]? = some q ∧ k < q.2.2 ∧ Cond.fieldLink R_0 i (q.2.1 k).1 (q.2.1 k).2.1 (q.2.1 k).2.2.1 ∈ LT :=
  fo_all (List.forall_mem_cons.mpr ⟨⟨(R_0, F_0, 5), rfl, by decide, wd_573⟩, List.forall_mem_cons.mpr ⟨⟨(R_0, F_0, 5), rfl, by decide, wd_572⟩, List.forall_mem_cons.mpr ⟨⟨(R_0, F_0, 5), rfl, by decide, wd_571⟩, List.forall_mem_cons.mpr ⟨⟨(R_0, F_0, 5), rfl, by decide, wd_570⟩, List.forall_mem_cons.mpr ⟨⟨(R_0, F_0, 5), rfl, by decide, wd_569⟩, fun _ h => absurd h List.not_mem_nil⟩⟩⟩⟩⟩)
def fT_1 : List (Nat × Nat × Nat) := [(36, 0, 2), (22, 0, 4), (12, 1, 0), (18, 1, 1)]
def mF_1 (i : Nat) : Option (Nat × Nat) := (fT_1.find? (fun q => q.1 == i)).map (·.2)
theorem fOK_1 : ∀ i c k, mF_1 i = some (c, k) → ∃ q : vw_C, classes[c]? = some q ∧ k < q.2.2 ∧ Cond.fieldLink R_1 i (q.2.1 k).1 (q.2.1 k).2.1 (q.2.1 k).2.2.1 ∈ LT :=
  fo_all (List.forall_mem_cons.mpr ⟨⟨(R_0, F_0, 5), rfl, by decide, wd_577⟩, List.forall_mem_cons.mpr ⟨⟨(R_0, F_0, 5), rfl, by decide, wd_576⟩, List.forall_mem_cons.mpr ⟨⟨(R_1, F_1, 2), rfl, by decide, wd_575⟩, List.forall_mem_cons.mpr ⟨⟨(R_1, F_1, 2), rfl, by decide, wd_574⟩, fun _ h => absurd h List.not_mem_nil⟩⟩⟩⟩)
def fT_2 : List (Nat × Nat × Nat) := [(34, 0, 0), (37, 0, 1), (29, 0, 2), (53, 0, 3), (49, 0, 4), (9, 2, 0), (15, 2, 1), (18, 2, 2), (21, 2, 3), (50, 2, 4), (67, 2, 5), (70, 2, 6), (73, 2, 7), (76, 2, 8), (79, 2, 9), (82, 2, 10), (85, 2, 11), (88, 2, 12)]
def mF_2 (i : Nat) : Option (Nat × Nat) := (fT_2.find? (fun q => q.1 == i)).map (·.2)
theorem fOK_2 : ∀ i c k, mF_2 i = some (c, k) → ∃ q : vw_C, classes[c]? = some q ∧ k < q.2.2 ∧ Cond.fieldLink R_2 i (q.2.1 k).1 (q.2.1 k).2.1 (q.2.1 k).2.2.1 ∈ LT :=
  fo_all (List.forall_mem_cons.mpr ⟨⟨(R_0, F_0, 5), rfl, by decide, wd_595⟩, List.forall_mem_cons.mpr ⟨⟨(R_0, F_0, 5), rfl, by decide, wd_594⟩, List.forall_mem_cons.mpr ⟨⟨(R_0, F_0, 5), rfl, by decide, wd_593⟩, List.forall_mem_cons.mpr ⟨⟨(R_0, F_0, 5), rfl, by decide, wd_592⟩, List.forall_mem_cons.mpr ⟨⟨(R_0, F_0, 5), rfl, by decide, wd_591⟩, List.forall_mem_cons.mpr ⟨⟨(R_2, F_2, 13), rfl, by decide, wd_590⟩, List.forall_mem_cons.mpr ⟨⟨(R_2, F_2, 13), rfl, by decide, wd_589⟩, List.forall_mem_cons.mpr ⟨⟨(R_2, F_2, 13), rfl, by decide, wd_588⟩, List.forall_mem_cons.mpr ⟨⟨(R_2, F_2, 13), rfl, by decide, wd_587⟩, List.forall_mem_cons.mpr ⟨⟨(R_2, F_2, 13), rfl, by decide, wd_586⟩, List.forall_mem_cons.mpr ⟨⟨(R_2, F_2, 13), rfl, by decide, wd_585⟩, List.forall_mem_cons.mpr ⟨⟨(R_2, F_2, 13), rfl, by decide, wd_584⟩, List.forall_mem_cons.mpr ⟨⟨(R_2, F_2, 13), rfl, by decide, wd_583⟩, List.forall_mem_cons.mpr ⟨⟨(R_2, F_2, 13), rfl, by decide, wd_582⟩, List.forall_mem_cons.mpr ⟨⟨(R_2, F_2, 13), rfl, by decide, wd_581⟩, List.forall_mem_cons.mpr ⟨⟨(R_2, F_2, 13), rfl, by decide, wd_580⟩, List.forall_mem_cons.mpr ⟨⟨(R_2, F_2, 13), rfl, by decide, wd_579⟩, List.forall_mem_cons.mpr ⟨⟨(R_2, F_2, 13), rfl, by decide, wd_578⟩, fun _ h => absurd h List.not_mem_nil⟩⟩⟩⟩⟩⟩⟩⟩⟩⟩⟩⟩⟩⟩⟩⟩⟩⟩)
def fT_3 : List (Nat × Nat × Nat) := [(24, 0, 0), (27, 0, 1), (19, 0, 2), (36, 0, 4), (9, 3, 0), (15, 3, 1), (41, 3, 2), (52, 3, 3), (55, 3, 4), (58, 3, 5)]
def mF_3 (i : Nat) : Option (Nat × Nat) := (fT_3.find? (fun q => q.1 == i)).map (·.2)
theorem fOK_3 : ∀ i c k, mF_3 i = some (c, k) → ∃ q : vw_C, classes[c]? = some q ∧ k < q.2.2 ∧ Cond.fieldLink R_3 i (q.2.1 k).1 (q.2.1 k).2.1 (q.2.1 k).2.2.1 ∈ LT :=
  fo_all (List.forall_mem_cons.mpr ⟨⟨(R_0, F_0, 5), rfl, by decide, wd_605⟩, List.forall_mem_cons.mpr ⟨⟨(R_0, F_0, 5), rfl, by decide, wd_604⟩, List.forall_mem_cons.mpr ⟨⟨(R_0, F_0, 5), rfl, by decide, wd_603⟩, List.forall_mem_cons.mpr ⟨⟨(R_0, F_0, 5), rfl, by decide, wd_602⟩, List.forall_mem_cons.mpr ⟨⟨(R_3, F_3, 6), rfl, by decide, wd_601⟩, List.forall_mem_cons.mpr ⟨⟨(R_3, F_3, 6), rfl, by decide, wd_600⟩, List.forall_mem_cons.mpr ⟨⟨(R_3, F_3, 6), rfl, by decide, wd_599⟩, List.forall_mem_cons.mpr ⟨⟨(R_3, F_3, 6), rfl, by decide, wd_598⟩, List.forall_mem_cons.mpr ⟨⟨(R_3, F_3, 6), rfl, by decide, wd_597⟩, List.forall_mem_cons.mpr ⟨⟨(R_3, F_3, 6), rfl, by decide, wd_596⟩, fun _ h => absurd h List.not_mem_nil⟩⟩⟩⟩⟩⟩⟩⟩⟩⟩)
def fT_4 : List (Nat × Nat × Nat) := [(78, 0, 0), (75, 0, 1), (59, 0, 2), (9, 4, 0), (15, 4, 1), (24, 4, 2), (48, 4, 3)]
def mF_4 (i : Nat) : Option (Nat × Nat) := (fT_4.find? (fun q => q.1 == i)).map (·.2)
theorem fOK_4 : ∀ i c k, mF_4 i = some (c, k) → ∃ q : vw_C, classes[c]? = some q ∧ k < q.2.2 ∧ Cond.fieldLink R_4 i (q.2.1 k).1 (q.2.1 k).2.1 (q.2.1 k).2.2.1 ∈ LT :=
  fo_all (List.forall_mem_cons.mpr ⟨⟨(R_0, F_0, 5), rfl, by decide, wd_612⟩, List.forall_mem_cons.mpr ⟨⟨(R_0, F_0, 5), rfl, by decide, wd_611⟩, List.forall_mem_cons.mpr ⟨⟨(R_0, F_0, 5), rfl, by decide, wd_610⟩, List.forall_mem_cons.mpr ⟨⟨(R_4, F_4, 4), rfl, by decide, wd_609⟩, List.forall_mem_cons.mpr ⟨⟨(R_4, F_4, 4), rfl, by decide, wd_608⟩, List.forall_mem_cons.mpr ⟨⟨(R_4, F_4, 4), rfl, by decide, wd_607⟩, List.forall_mem_cons.mpr ⟨⟨(R_4, F_4, 4), rfl, by decide, wd_606⟩, fun _ h => absurd h List.not_mem_nil⟩⟩⟩⟩⟩⟩⟩)
def fT_5 : List (Nat × Nat × Nat) := [(25, 0, 0), (28, 0, 1), (15, 0, 2), (9, 5, 0), (31, 5, 1)]
def mF_5 (i : Nat) : Option (Nat × Nat) := (fT_5.find? (fun q => q.1 == i)).map (·.2)
theorem fOK_5 : ∀ i c k, mF_5 i = some (c, k) → ∃ q : vw_C, classes[c]? = some q ∧ k < q.2.2 ∧ Cond.fieldLink R_5 i (q.2.1 k).1 (q.2.1 k).2.1 (q.2.1 k).2.2.1 ∈ LT :=
  fo_all (List.forall_mem_cons.mpr ⟨⟨(R_0, F_0, 5), rfl, by decide, wd_617⟩, List.forall_mem_cons.mpr ⟨⟨(R_0, F_0, 5), rfl, by decide, wd_616⟩, List.forall_mem_cons.mpr ⟨⟨(R_0, F_0, 5), rfl, by decide, wd_615⟩, List.forall_mem_cons.mpr ⟨⟨(R_5, F_5, 2), rfl, by decide, wd_614⟩, List.forall_mem_cons.mpr ⟨⟨(R_5, F_5, 2), rfl, by decide, wd_613⟩, fun _ h => absurd h List.not_mem_nil⟩⟩⟩⟩⟩)
def fT_6 : List (Nat × Nat × Nat) := [(7, 6, 0)]
def mF_6 (i : Nat) : Option (Nat × Nat) := (fT_6.find? (fun q => q.1 == i)).map (·.2)
theorem fOK_6 : ∀ i c k, mF_6 i = some (c, k) → ∃ q : vw_C, classes[c]? = some q ∧ k < q.2.2 ∧ Cond.fieldLink R_6 i (q.2.1 k).1 (q.2.1 k).2.1 (q.2.1 k).2.2.1 ∈ LT :=
  fo_all (List.forall_mem_cons.mpr ⟨⟨(R_6, F_6, 1), rfl, by decide, wd_618⟩, fun _ h => absurd h List.not_mem_nil⟩)
def fT_7 : List (Nat × Nat × Nat) := [(40, 0, 0), (44, 0, 1), (18, 0, 2), (106, 0, 3), (12, 7, 0)]
def mF_7 (i : Nat) : Option (Nat × Nat) := (fT_7.find? (fun q => q.1 == i)).map (·.2)
theorem fOK_7 : ∀ i c k, mF_7 i = some (c, k) → ∃ q : vw_C, classes[c]? = some q ∧ k < q.2.2 ∧ Cond.fieldLink R_7 i (q.2.1 k).1 (q.2.1 k).2.1 (q.2.1 k).2.2.1 ∈ LT :=
  fo_all (List.forall_mem_cons.mpr ⟨⟨(R_0, F_0, 5), rfl, by decide, wd_623⟩, List.forall_mem_cons.mpr ⟨⟨(R_0, F_0, 5), rfl, by decide, wd_622⟩, List.forall_mem_cons.mpr ⟨⟨(R_0, F_0, 5), rfl, by decide, wd_621⟩, List.forall_mem_cons.mpr ⟨⟨(R_0, F_0, 5), rfl, by decide, wd_620⟩, List.forall_mem_cons.mpr ⟨⟨(R_7, F_7, 1), rfl, by decide, wd_619⟩, fun _ h => absurd h List.not_mem_nil⟩⟩⟩⟩⟩)
def fT_8 : List (Nat × Nat × Nat) := [(31, 0, 0), (35, 0, 1), (28, 0, 2), (22, 0, 3), (17, 8, 0)]
def mF_8 (i : Nat) : Option (Nat × Nat) := (fT_8.find? (fun q => q.1 == i)).map (·.2)
theorem fOK_8 : ∀ i c k, mF_8 i = some (c, k) → ∃ q : vw_C, classes[c]? = some q ∧ k < q.2.2 ∧ Cond.fieldLink R_8 i (q.2.1 k).1 (q.2.1 k).2.1 (q.2.1 k).2.2.1 ∈ LT :=
  fo_all (List.forall_mem_cons.mpr ⟨⟨(R_0, F_0, 5), rfl, by decide, wd_628⟩, List.forall_mem_cons.mpr ⟨⟨(R_0, F_0, 5), rfl, by decide, wd_627⟩, List.forall_mem_cons.mpr ⟨⟨(R_0, F_0, 5), rfl, by decide, wd_626⟩, List.forall_mem_cons.mpr ⟨⟨(R_0, F_0, 5), rfl, by decide, wd_625⟩, List.forall_mem_cons.mpr ⟨⟨(R_8, F_8, 1), rfl, by decide, wd_624⟩, fun _ h => absurd h List.not_mem_nil⟩⟩⟩⟩⟩)
def fT_9 : List (Nat × Nat × Nat) := [(9, 9, 0), (15, 9, 1), (22, 9, 2), (45, 9, 3), (71, 9, 4), (48, 9, 5), (19, 9, 6)]
def mF_9 (i : Nat) : Option (Nat × Nat) := (fT_9.find? (fun q => q.1 == i)).map (·.2)
theorem fOK_9 : ∀ i c k, mF_9 i = some (c, k) → ∃ q : vw_C, classes[c]? = some q ∧ k < q.2.2 ∧ Cond.fieldLink R_9 i (q.2.1 k).1 (q.2.1 k).2.1 (q.2.1 k).2.2.1 ∈ LT :=
  fo_all (List.forall_mem_cons.mpr ⟨⟨(R_9, F_9, 7), rfl, by decide, wd_635⟩, List.forall_mem_cons.mpr ⟨⟨(R_9, F_9, 7), rfl, by decide, wd_634⟩, List.forall_mem_cons.mpr ⟨⟨(R_9, F_9, 7), rfl, by decide, wd_633⟩, List.forall_mem_cons.mpr ⟨⟨(R_9, F_9, 7), rfl, by decide, wd_632⟩, List.forall_mem_cons.mpr ⟨⟨(R_9, F_9, 7), rfl, by decide, wd_631⟩, List.forall_mem_cons.mpr ⟨⟨(R_9, F_9, 7), rfl, by decide, wd_630⟩, List.forall_mem_cons.mpr ⟨⟨(R_9, F_9, 7), rfl, by decide, wd_629⟩, fun _ h => absurd h List.not_mem_nil⟩⟩⟩⟩⟩⟩⟩)
def fT_10 : List (Nat × Nat × Nat) := [(62, 9, 1), (43, 9, 2), (56, 9, 3), (87, 9, 4), (97, 9, 5), (94, 0, 2), (119, 0, 3), (12, 10, 0), (18, 10, 1), (26, 10, 2), (22, 10, 3), (65, 10, 4), (53, 10, 5), (74, 10, 6), (77, 10, 7), (108, 10, 8), (80, 10, 9)]
def mF_10 (i : Nat) : Option (Nat × Nat) := (fT_10.find? (fun q => q.1 == i)).map (·.2)
theorem fOK_10 : ∀ i c k, mF_10 i = some (c, k) → ∃ q : vw_C, classes[c]? = some q ∧ k < q.2.2 ∧ Cond.fieldLink R_10 i (q.2.1 k).1 (q.2.1 k).2.1 (q.2.1 k).2.2.1 ∈ LT :=
  fo_all (List.forall_mem_cons.mpr ⟨⟨(R_9, F_9, 7), rfl, by decide, wd_652⟩, List.forall_mem_cons.mpr ⟨⟨(R_9, F_9, 7), rfl, by decide, wd_651⟩, List.forall_mem_cons.mpr ⟨⟨(R_9, F_9, 7), rfl, by decide, wd_650⟩, List.forall_mem_cons.mpr ⟨⟨(R_9, F_9, 7), rfl, by decide, wd_649⟩, List.forall_mem_cons.mpr ⟨⟨(R_9, F_9, 7), rfl, by decide, wd_648⟩, List.forall_mem_cons.mpr ⟨⟨(R_0, F_0, 5), rfl, by decide, wd_647⟩, List.forall_mem_cons.mpr ⟨⟨(R_0, F_0, 5), rfl, by decide, wd_646⟩, List.forall_mem_cons.mpr ⟨⟨(R_10, F_10, 10), rfl, by decide, wd_645⟩, List.forall_mem_cons.mpr ⟨⟨(R_10, F_10, 10), rfl, by decide, wd_644⟩, List.forall_mem_cons.mpr ⟨⟨(R_10, F_10, 10), rfl, by decide, wd_643⟩, List.forall_mem_cons.mpr ⟨⟨(R_10, F_10, 10), rfl, by decide, wd_642⟩, List.forall_mem_cons.mpr ⟨⟨(R_10, F_10, 10), rfl, by decide, wd_641⟩, List.forall_mem_cons.mpr ⟨⟨(R_10, F_10, 10), rfl, by decide, wd_640⟩, List.forall_mem_cons.mpr ⟨⟨(R_10, F_10, 10), rfl, by decide, wd_639⟩, List.forall_mem_cons.mpr ⟨⟨(R_10, F_10, 10), rfl, by decide, wd_638⟩, List.forall_mem_cons.mpr ⟨⟨(R_10, F_10, 10), rfl, by decide, wd_637⟩, List.forall_mem_cons.mpr ⟨⟨(R_10, F_10, 10), rfl, by decide, wd_636⟩, fun _ h => absurd h List.not_mem_nil⟩⟩⟩⟩⟩⟩⟩⟩⟩⟩⟩⟩⟩⟩⟩⟩⟩)
def fT_11 : List (Nat × Nat × Nat) := [(93, 9, 1), (171, 0, 0), (175, 0, 1), (120, 0, 2), (352, 0, 3), (104, 10, 0), (117, 10, 1), (226, 4, 2), (220, 4, 3), (264, 2, 4), (267, 2, 5), (270, 2, 6), (273, 2, 7), (280, 2, 8), (283, 2, 9), (286, 2, 10), (289, 2, 11), (292, 2, 12), (245, 1, 0), (314, 5, 1), (344, 3, 2), (351, 3, 3), (345, 3, 4), (348, 3, 5), (10, 11, 0), (21, 11, 1), (28, 11, 2), (32, 11, 3), (38, 11, 4), (45, 11, 5), (52, 11, 6), (59, 11, 7), (66, 11, 8), (73, 11, 9), (82, 11, 10), (86, 11, 11), (89, 11, 12), (151, 11, 13), (154, 11, 14)]
def mF_11 (i : Nat) : Option (Nat × Nat) := (fT_11.find? (fun q => q.1 == i)).map (·.2)
theorem fOK_11 : ∀ i c k, mF_11 i = some (c, k) → ∃ q : vw_C, classes[c]? = some q ∧ k < q.2.2 ∧ Cond.fieldLink R_11 i (q.2.1 k).1 (q.2.1 k).2.1 (q.2.1 k).2.2.1 ∈ LT :=
  fo_all (List.forall_mem_cons.mpr ⟨⟨(R_9, F_9, 7), rfl, by decide, wd_691⟩, List.forall_mem_cons.mpr ⟨⟨(R_0, F_0, 5), rfl, by decide, wd_690⟩, List.forall_mem_cons.mpr ⟨⟨(R_0, F_0, 5), rfl, by decide, wd_689⟩, List.forall_mem_cons.mpr ⟨⟨(R_0, F_0, 5), rfl, by decide, wd_688⟩, List.forall_mem_cons.mpr ⟨⟨(R_0, F_0, 5), rfl, by decide, wd_687⟩, List.forall_mem_cons.mpr ⟨⟨(R_10, F_10, 10), rfl, by decide, wd_686⟩, List.forall_mem_cons.mpr ⟨⟨(R_10, F_10, 10), rfl, by decide, wd_685⟩, List.forall_mem_cons.mpr ⟨⟨(R_4, F_4, 4), rfl, by decide, wd_684⟩, List.forall_mem_cons.mpr ⟨⟨(R_4, F_4, 4), rfl, by decide, wd_683⟩, List.forall_mem_cons.mpr ⟨⟨(R_2, F_2, 13), rfl, by decide, wd_682⟩, List.forall_mem_cons.mpr ⟨⟨(R_2, F_2, 13), rfl, by decide, wd_681⟩, List.forall_mem_cons.mpr ⟨⟨(R_2, F_2, 13), rfl, by decide, wd_680⟩, List.forall_mem_cons.mpr ⟨⟨(R_2, F_2, 13), rfl, by decide, wd_679⟩, List.forall_mem_cons.mpr ⟨⟨(R_2, F_2, 13), rfl, by decide, wd_678⟩, List.forall_mem_cons.mpr ⟨⟨(R_2, F_2, 13), rfl, by decide, wd_677⟩, List.forall_mem_cons.mpr ⟨⟨(R_2, F_2, 13), rfl, by decide, wd_676⟩, List.forall_mem_cons.mpr ⟨⟨(R_2, F_2, 13), rfl, by decide, wd_675⟩, List.forall_mem_cons.mpr ⟨⟨(R_2, F_2, 13), rfl, by decide, wd_674⟩, List.forall_mem_cons.mpr ⟨⟨(R_1, F_1, 2), rfl, by decide, wd_673⟩, List.forall_mem_cons.mpr ⟨⟨(R_5, F_5, 2), rfl, by decide, wd_672⟩, List.forall_mem_cons.mpr ⟨⟨(R_3, F_3, 6), rfl, by decide, wd_671⟩, List.forall_mem_cons.mpr ⟨⟨(R_3, F_3, 6), rfl, by decide, wd_670⟩, List.forall_mem_cons.mpr ⟨⟨(R_3, F_3, 6), rfl, by decide, wd_669⟩, List.forall_mem_cons.mpr ⟨⟨(R_3, F_3, 6), rfl, by decide, wd_668⟩, List.forall_mem_cons.mpr ⟨⟨(R_11, F_11, 15), rfl, by decide, wd_667⟩, List.forall_mem_cons.mpr ⟨⟨(R_11, F_11, 15), rfl, by decide, wd_666⟩, List.forall_mem_cons.mpr ⟨⟨(R_11, F_11, 15), rfl, by decide, wd_665⟩, List.forall_mem_cons.mpr ⟨⟨(R_11, F_11, 15), rfl, by decide, wd_664⟩, List.forall_mem_cons.mpr ⟨⟨(R_11, F_11, 15), rfl, by decide, wd_663⟩, List.forall_mem_cons.mpr ⟨⟨(R_11, F_11, 15), rfl, by decide, wd_662⟩, List.forall_mem_cons.mpr ⟨⟨(R_11, F_11, 15), rfl, by decide, wd_661⟩, List.forall_mem_cons.mpr ⟨⟨(R_11, F_11, 15), rfl, by decide, wd_660⟩, List.forall_mem_cons.mpr ⟨⟨(R_11, F_11, 15), rfl, by decide, wd_659⟩, List.forall_mem_cons.mpr ⟨⟨(R_11, F_11, 15), rfl, by decide, wd_658⟩, List.forall_mem_cons.mpr ⟨⟨(R_11, F_11, 15), rfl, by decide, wd_657⟩, List.forall_mem_cons.mpr ⟨⟨(R_11, F_11, 15), rfl, by decide, wd_656⟩, List.forall_mem_cons.mpr ⟨⟨(R_11, F_11, 15), rfl, by decide, wd_655⟩, List.forall_mem_cons.mpr ⟨⟨(R_11, F_11, 15), rfl, by decide, wd_654⟩, List.forall_mem_cons.mpr ⟨⟨(R_11, F_11, 15), rfl, by decide, wd_653⟩, fun _ h => absurd h List.not_mem_nil⟩⟩⟩⟩⟩⟩⟩⟩⟩⟩⟩⟩⟩⟩⟩⟩⟩⟩⟩⟩⟩⟩⟩⟩⟩⟩⟩⟩⟩⟩⟩⟩⟩⟩⟩⟩⟩⟩⟩)
def fT_12 : List (Nat × Nat × Nat) := [(13, 12, 1), (93, 12, 2), (17, 12, 3), (100, 12, 4), (20, 12, 5), (24, 12, 6), (27, 12, 7), (30, 12, 8), (34, 12, 9), (109, 12, 10), (134, 12, 11), (131, 12, 12), (137, 12, 13), (140, 12, 14), (143, 12, 15), (37, 12, 16), (40, 12, 17), (43, 12, 18), (46, 12, 19), (49, 12, 20), (158, 12, 21), (53, 12, 22), (200, 12, 23), (167, 12, 24), (56, 12, 25), (59, 12, 26), (62, 12, 27), (65, 12, 28), (68, 12, 29), (71, 12, 30), (258, 12, 31), (293, 12, 32), (296, 12, 33), (299, 12, 34), (74, 12, 35), (77, 12, 36), (80, 12, 37), (83, 12, 38), (86, 12, 39)]
def mF_12 (i : Nat) : Option (Nat × Nat) := (fT_12.find? (fun q => q.1 == i)).map (·.2)
theorem fOK_12 : ∀ i c k, mF_12 i = some (c, k) → ∃ q : vw_C, classes[c]? = some q ∧ k < q.2.2 ∧ Cond.fieldLink R_12 i (q.2.1 k).1 (q.2.1 k).2.1 (q.2.1 k).2.2.1 ∈ LT :=
  fo_all (List.forall_mem_cons.mpr ⟨⟨(R_12, F_12, 40), rfl, by decide, wd_730⟩, List.forall_mem_cons.mpr ⟨⟨(R_12, F_12, 40), rfl, by decide, wd_729⟩, List.forall_mem_cons.mpr ⟨⟨(R_12, F_12, 40), rfl, by decide, wd_728⟩, List.forall_mem_cons.mpr ⟨⟨(R_12, F_12, 40), rfl, by decide, wd_727⟩, List.forall_mem_cons.mpr ⟨⟨(R_12, F_12, 40), rfl, by decide, wd_726⟩, List.forall_mem_cons.mpr ⟨⟨(R_12, F_12, 40), rfl, by decide, wd_725⟩, List.forall_mem_cons.mpr ⟨⟨(R_12, F_12, 40), rfl, by decide, wd_724⟩, List.forall_mem_cons.mpr ⟨⟨(R_12, F_12, 40), rfl, by decide, wd_723⟩, List.forall_mem_cons.mpr ⟨⟨(R_12, F_12, 40), rfl, by decide, wd_722⟩, List.forall_mem_cons.mpr ⟨⟨(R_12, F_12, 40), rfl, by decide, wd_721⟩, List.forall_mem_cons.mpr ⟨⟨(R_12, F_12, 40), rfl, by decide, wd_720⟩, List.forall_mem_cons.mpr ⟨⟨(R_12, F_12, 40), rfl, by decide, wd_719⟩, List.forall_mem_cons.mpr ⟨⟨(R_12, F_12, 40), rfl, by decide, wd_718⟩, List.forall_mem_cons.mpr ⟨⟨(R_12, F_12, 40), rfl, by decide, wd_717⟩, List.forall_mem_cons.mpr ⟨⟨(R_12, F_12, 40), rfl, by decide, wd_716⟩, List.forall_mem_cons.mpr ⟨⟨(R_12, F_12, 40), rfl, by decide, wd_715⟩, List.forall_mem_cons.mpr ⟨⟨(R_12, F_12, 40), rfl, by decide, wd_714⟩, List.forall_mem_cons.mpr ⟨⟨(R_12, F_12, 40), rfl, by decide, wd_713⟩, List.forall_mem_cons.mpr ⟨⟨(R_12, F_12, 40), rfl, by decide, wd_712⟩, List.forall_mem_cons.mpr ⟨⟨(R_12, F_12, 40), rfl, by decide, wd_711⟩, List.forall_mem_cons.mpr ⟨⟨(R_12, F_12, 40), rfl, by decide, wd_710⟩, List.forall_mem_cons.mpr ⟨⟨(R_12, F_12, 40), rfl, by decide, wd_709⟩, List.forall_mem_cons.mpr ⟨⟨(R_12, F_12, 40), rfl, by decide, wd_708⟩, List.forall_mem_cons.mpr ⟨⟨(R_12, F_12, 40), rfl, by decide, wd_707⟩, List.forall_mem_cons.mpr ⟨⟨(R_12, F_12, 40), rfl, by decide, wd_706⟩, List.forall_mem_cons.mpr ⟨⟨(R_12, F_12, 40), rfl, by decide, wd_705⟩, List.forall_mem_cons.mpr ⟨⟨(R_12, F_12, 40), rfl, by decide, wd_704⟩, List.forall_mem_cons.mpr ⟨⟨(R_12, F_12, 40), rfl, by decide, wd_703⟩, List.forall_mem_cons.mpr ⟨⟨(R_12, F_12, 40), rfl, by decide, wd_702⟩, List.forall_mem_cons.mpr ⟨⟨(R_12, F_12, 40), rfl, by decide, wd_701⟩, List.forall_mem_cons.mpr ⟨⟨(R_12, F_12, 40), rfl, by decide, wd_700⟩, List.forall_mem_cons.mpr ⟨⟨(R_12, F_12, 40), rfl, by decide, wd_699⟩, List.forall_mem_cons.mpr ⟨⟨(R_12, F_12, 40), rfl, by decide, wd_698⟩, List.forall_mem_cons.mpr ⟨⟨(R_12, F_12, 40), rfl, by decide, wd_697⟩, List.forall_mem_cons.mpr ⟨⟨(R_12, F_12, 40), rfl, by decide, wd_696⟩, List.forall_mem_cons.mpr ⟨⟨(R_12, F_12, 40), rfl, by decide, wd_695⟩, List.forall_mem_cons.mpr ⟨⟨(R_12, F_12, 40), rfl, by decide, wd_694⟩, List.forall_mem_cons.mpr ⟨⟨(R_12, F_12, 40), rfl, by decide, wd_693⟩, List.forall_mem_cons.mpr ⟨⟨(R_12, F_12, 40), rfl, by decide, wd_692⟩, fun _ h => absurd h List.not_mem_nil⟩⟩⟩⟩⟩⟩⟩⟩⟩⟩⟩⟩⟩⟩⟩⟩⟩⟩⟩⟩⟩⟩⟩⟩⟩⟩⟩⟩⟩⟩⟩⟩⟩⟩⟩⟩⟩⟩⟩)
def mK_C (i : Nat) : Option Int32 := if i = 170 then some (-100000) else none
theorem kOK_C : ∀ i v, mK_C i = some v → Cond.constant "CloudDepth" i v ∈ LT := by
  intro i v h
  unfold mK_C at h
  by_cases c : i = 170
  · subst c; cases h; exact wd_731
  rw [if_neg c] at h
  cases h
def mK_R (i : Nat) : Option Int32 := if i = 220 then some (-100000) else none
theorem kOK_R : ∀ i v, mK_R i = some v → Cond.constant "CloudDepthModel" i v ∈ LT := by
  intro i v h
  unfold mK_R at h
  by_cases c : i = 220
  · subst c; cases h; exact wd_732
  rw [if_neg c] at h
  cases h
def mK_J (i : Nat) : Option Int32 := if i = 265 then some 1431655765 else if i = 266 then some 858993459 else if i = 267 then some 252645135 else none
theorem kOK_J : ∀ i v, mK_J i = some v → Cond.constant "java/lang/Integer" i v ∈ LT := by
  intro i v h
  unfold mK_J at h
  by_cases c : i = 265
  · subst c; cases h; exact wd_733
  rw [if_neg c] at h
  by_cases c : i = 266
  · subst c; cases h; exact wd_734
  rw [if_neg c] at h
  by_cases c : i = 267
  · subst c; cases h; exact wd_735
  rw [if_neg c] at h
  cases h
def M_Tape_push : MI := (⟨"CloudDepth$Tape", "push", "(I)V"⟩, prog_11_method_2_code, 3, none, "CloudDepth$Tape", mF_9, (fun _ => none), { frames := 0, cells := 0, slots := 0, locals := 0 })
theorem ok_Tape_push : MOK M_Tape_push := ⟨by decide, wd_736, rfl, rfl, rfl, fOK_9, (fun i v h => by cases h)⟩
theorem ds_Tape_push : (mY M_Tape_push).cls ≠ "java/lang/invoke/MethodHandle" ∧ (mY M_Tape_push).cls ≠ "java/lang/invoke/VarHandle" ∧ (parseMethodDescriptor (mY M_Tape_push).desc).map (fun d => d.parameters.length) = some 1 := ⟨by decide +kernel, by decide +kernel, by decide +kernel⟩
def M_C_feed : MI := (⟨"CloudDepth", "feed", "(IIIII)I"⟩, prog_1_method_2_code, 6, (some .int), "CloudDepth", mF_11, mK_C, { frames := 1, cells := 0, slots := 0, locals := 22 })
theorem ok_C_feed : MOK M_C_feed := ⟨by decide, wd_737, rfl, rfl, rfl, fOK_11, kOK_C⟩
theorem ds_C_feed : (mY M_C_feed).cls ≠ "java/lang/invoke/MethodHandle" ∧ (mY M_C_feed).cls ≠ "java/lang/invoke/VarHandle" ∧ (parseMethodDescriptor (mY M_C_feed).desc).map (fun d => d.parameters.length) = some 5 := ⟨by decide +kernel, by decide +kernel, by decide +kernel⟩
def M_R_lays1 : MI := (⟨"CloudDepthModel", "lays", "(I)V"⟩, prog_14_method_4_code, 3, none, "CloudDepthModel", mF_12, mK_R, { frames := 0, cells := 0, slots := 0, locals := 0 })
theorem ok_R_lays1 : MOK M_R_lays1 := ⟨by decide, wd_738, rfl, rfl, rfl, fOK_12, kOK_R⟩
theorem ds_R_lays1 : (mY M_R_lays1).cls ≠ "java/lang/invoke/MethodHandle" ∧ (mY M_R_lays1).cls ≠ "java/lang/invoke/VarHandle" ∧ (parseMethodDescriptor (mY M_R_lays1).desc).map (fun d => d.parameters.length) = some 1 := ⟨by decide +kernel, by decide +kernel, by decide +kernel⟩
def M_R_feed : MI := (⟨"CloudDepthModel", "feed", "(IIIII)I"⟩, prog_14_method_3_code, 6, (some .int), "CloudDepthModel", mF_12, mK_R, { frames := 1, cells := 0, slots := 0, locals := 22 })
theorem ok_R_feed : MOK M_R_feed := ⟨by decide, wd_739, rfl, rfl, rfl, fOK_12, kOK_R⟩
theorem ds_R_feed : (mY M_R_feed).cls ≠ "java/lang/invoke/MethodHandle" ∧ (mY M_R_feed).cls ≠ "java/lang/invoke/VarHandle" ∧ (parseMethodDescriptor (mY M_R_feed).desc).map (fun d => d.parameters.length) = some 5 := ⟨by decide +kernel, by decide +kernel, by decide +kernel⟩
def M_C_back : MI := (⟨"CloudDepth", "back", "(I)I"⟩, prog_1_method_3_code, 2, (some .int), "CloudDepth", mF_11, mK_C, { frames := 0, cells := 0, slots := 0, locals := 0 })
theorem ok_C_back : MOK M_C_back := ⟨by decide, wd_740, rfl, rfl, rfl, fOK_11, kOK_C⟩
theorem ds_C_back : (mY M_C_back).cls ≠ "java/lang/invoke/MethodHandle" ∧ (mY M_C_back).cls ≠ "java/lang/invoke/VarHandle" ∧ (parseMethodDescriptor (mY M_C_back).desc).map (fun d => d.parameters.length) = some 1 := ⟨by decide +kernel, by decide +kernel, by decide +kernel⟩
def M_R_back : MI := (⟨"CloudDepthModel", "back", "(I)I"⟩, prog_14_method_5_code, 2, (some .int), "CloudDepthModel", mF_12, mK_R, { frames := 0, cells := 0, slots := 0, locals := 0 })
theorem ok_R_back : MOK M_R_back := ⟨by decide, wd_741, rfl, rfl, rfl, fOK_12, kOK_R⟩
theorem ds_R_back : (mY M_R_back).cls ≠ "java/lang/invoke/MethodHandle" ∧ (mY M_R_back).cls ≠ "java/lang/invoke/VarHandle" ∧ (parseMethodDescriptor (mY M_R_back).desc).map (fun d => d.parameters.length) = some 1 := ⟨by decide +kernel, by decide +kernel, by decide +kernel⟩
def M_Tape_rewind : MI := (⟨"CloudDepth$Tape", "rewind", "()V"⟩, prog_11_method_3_code, 1, none, "CloudDepth$Tape", mF_9, (fun _ => none), { frames := 0, cells := 0, slots := 0, locals := 0 })
theorem ok_Tape_rewind : MOK M_Tape_rewind := ⟨by decide, wd_742, rfl, rfl, rfl, fOK_9, (fun i v h => by cases h)⟩
theorem ds_Tape_rewind : (mY M_Tape_rewind).cls ≠ "java/lang/invoke/MethodHandle" ∧ (mY M_Tape_rewind).cls ≠ "java/lang/invoke/VarHandle" ∧ (parseMethodDescriptor (mY M_Tape_rewind).desc).map (fun d => d.parameters.length) = some 0 := ⟨by decide +kernel, by decide +kernel, by decide +kernel⟩
def M_Cloud_clear : MI := (⟨"CloudDepth$Cloud", "clear", "()V"⟩, prog_2_method_7_code, 1, none, "CloudDepth$Cloud", mF_0, (fun _ => none), { frames := 0, cells := 0, slots := 0, locals := 0 })
theorem ok_Cloud_clear : MOK M_Cloud_clear := ⟨by decide, wd_743, rfl, rfl, rfl, fOK_0, (fun i v h => by cases h)⟩
theorem ds_Cloud_clear : (mY M_Cloud_clear).cls ≠ "java/lang/invoke/MethodHandle" ∧ (mY M_Cloud_clear).cls ≠ "java/lang/invoke/VarHandle" ∧ (parseMethodDescriptor (mY M_Cloud_clear).desc).map (fun d => d.parameters.length) = some 0 := ⟨by decide +kernel, by decide +kernel, by decide +kernel⟩
def M_TextReader_reset : MI := (⟨"CloudDepth$TextReader", "reset", "()V"⟩, prog_12_method_3_code, 1, none, "CloudDepth$TextReader", mF_10, (fun _ => none), { frames := 1, cells := 0, slots := 0, locals := 20 })
theorem ok_TextReader_reset : MOK M_TextReader_reset := ⟨by decide, wd_744, rfl, rfl, rfl, fOK_10, (fun i v h => by cases h)⟩
theorem ds_TextReader_reset : (mY M_TextReader_reset).cls ≠ "java/lang/invoke/MethodHandle" ∧ (mY M_TextReader_reset).cls ≠ "java/lang/invoke/VarHandle" ∧ (parseMethodDescriptor (mY M_TextReader_reset).desc).map (fun d => d.parameters.length) = some 0 := ⟨by decide +kernel, by decide +kernel, by decide +kernel⟩
def M_Tape_byteAt : MI := (⟨"CloudDepth$Tape", "byteAt", "(I)I"⟩, prog_11_method_8_code, 2, (some .int), "CloudDepth$Tape", mF_9, (fun _ => none), { frames := 0, cells := 0, slots := 0, locals := 0 })
theorem ok_Tape_byteAt : MOK M_Tape_byteAt := ⟨by decide, wd_745, rfl, rfl, rfl, fOK_9, (fun i v h => by cases h)⟩
theorem ds_Tape_byteAt : (mY M_Tape_byteAt).cls ≠ "java/lang/invoke/MethodHandle" ∧ (mY M_Tape_byteAt).cls ≠ "java/lang/invoke/VarHandle" ∧ (parseMethodDescriptor (mY M_Tape_byteAt).desc).map (fun d => d.parameters.length) = some 1 := ⟨by decide +kernel, by decide +kernel, by decide +kernel⟩
def M_Tape_isBlank : MI := (⟨"CloudDepth$Tape", "isBlank", "(I)Z"⟩, prog_11_method_9_code, 1, (some .boolean), "CloudDepth$Tape", mF_9, (fun _ => none), { frames := 0, cells := 0, slots := 0, locals := 0 })
theorem ok_Tape_isBlank : MOK M_Tape_isBlank := ⟨by decide, wd_746, rfl, rfl, rfl, fOK_9, (fun i v h => by cases h)⟩
theorem ds_Tape_isBlank : (mY M_Tape_isBlank).cls ≠ "java/lang/invoke/MethodHandle" ∧ (mY M_Tape_isBlank).cls ≠ "java/lang/invoke/VarHandle" ∧ (parseMethodDescriptor (mY M_Tape_isBlank).desc).map (fun d => d.parameters.length) = some 1 := ⟨by decide +kernel, by decide +kernel, by decide +kernel⟩
def M_Tape_isLetter : MI := (⟨"CloudDepth$Tape", "isLetter", "(I)Z"⟩, prog_11_method_10_code, 1, (some .boolean), "CloudDepth$Tape", mF_9, (fun _ => none), { frames := 0, cells := 0, slots := 0, locals := 0 })
theorem ok_Tape_isLetter : MOK M_Tape_isLetter := ⟨by decide, wd_747, rfl, rfl, rfl, fOK_9, (fun i v h => by cases h)⟩
theorem ds_Tape_isLetter : (mY M_Tape_isLetter).cls ≠ "java/lang/invoke/MethodHandle" ∧ (mY M_Tape_isLetter).cls ≠ "java/lang/invoke/VarHandle" ∧ (parseMethodDescriptor (mY M_Tape_isLetter).desc).map (fun d => d.parameters.length) = some 1 := ⟨by decide +kernel, by decide +kernel, by decide +kernel⟩
def M_Tape_spells : MI := (⟨"CloudDepth$Tape", "spells", "(Ljava/lang/String;)Z"⟩, prog_11_method_6_code, 3, (some .boolean), "CloudDepth$Tape", mF_9, (fun _ => none), { frames := 6, cells := 0, slots := 0, locals := 150 })
theorem ok_Tape_spells : MOK M_Tape_spells := ⟨by decide, wd_748, rfl, rfl, rfl, fOK_9, (fun i v h => by cases h)⟩
theorem ds_Tape_spells : (mY M_Tape_spells).cls ≠ "java/lang/invoke/MethodHandle" ∧ (mY M_Tape_spells).cls ≠ "java/lang/invoke/VarHandle" ∧ (parseMethodDescriptor (mY M_Tape_spells).desc).map (fun d => d.parameters.length) = some 1 := ⟨by decide +kernel, by decide +kernel, by decide +kernel⟩
def M_Tape_scanLetters : MI := (⟨"CloudDepth$Tape", "scanLetters", "()V"⟩, prog_11_method_5_code, 1, none, "CloudDepth$Tape", mF_9, (fun _ => none), { frames := 7, cells := 0, slots := 0, locals := 172 })
theorem ok_Tape_scanLetters : MOK M_Tape_scanLetters := ⟨by decide, wd_749, rfl, rfl, rfl, fOK_9, (fun i v h => by cases h)⟩
theorem ds_Tape_scanLetters : (mY M_Tape_scanLetters).cls ≠ "java/lang/invoke/MethodHandle" ∧ (mY M_Tape_scanLetters).cls ≠ "java/lang/invoke/VarHandle" ∧ (parseMethodDescriptor (mY M_Tape_scanLetters).desc).map (fun d => d.parameters.length) = some 0 := ⟨by decide +kernel, by decide +kernel, by decide +kernel⟩
def M_Tape_isDigit : MI := (⟨"CloudDepth$Tape", "isDigit", "(I)Z"⟩, prog_11_method_11_code, 1, (some .boolean), "CloudDepth$Tape", mF_9, (fun _ => none), { frames := 0, cells := 0, slots := 0, locals := 0 })
theorem ok_Tape_isDigit : MOK M_Tape_isDigit := ⟨by decide, wd_750, rfl, rfl, rfl, fOK_9, (fun i v h => by cases h)⟩
theorem ds_Tape_isDigit : (mY M_Tape_isDigit).cls ≠ "java/lang/invoke/MethodHandle" ∧ (mY M_Tape_isDigit).cls ≠ "java/lang/invoke/VarHandle" ∧ (parseMethodDescriptor (mY M_Tape_isDigit).desc).map (fun d => d.parameters.length) = some 1 := ⟨by decide +kernel, by decide +kernel, by decide +kernel⟩
def M_Tape_scanDigits : MI := (⟨"CloudDepth$Tape", "scanDigits", "()V"⟩, prog_11_method_7_code, 1, none, "CloudDepth$Tape", mF_9, (fun _ => none), { frames := 1, cells := 0, slots := 0, locals := 21 })
theorem ok_Tape_scanDigits : MOK M_Tape_scanDigits := ⟨by decide, wd_751, rfl, rfl, rfl, fOK_9, (fun i v h => by cases h)⟩
theorem ds_Tape_scanDigits : (mY M_Tape_scanDigits).cls ≠ "java/lang/invoke/MethodHandle" ∧ (mY M_Tape_scanDigits).cls ≠ "java/lang/invoke/VarHandle" ∧ (parseMethodDescriptor (mY M_Tape_scanDigits).desc).map (fun d => d.parameters.length) = some 0 := ⟨by decide +kernel, by decide +kernel, by decide +kernel⟩
def M_Tape_advance : MI := (⟨"CloudDepth$Tape", "advance", "()Z"⟩, prog_11_method_4_code, 2, (some .boolean), "CloudDepth$Tape", mF_9, (fun _ => none), { frames := 8, cells := 0, slots := 0, locals := 192 })
theorem ok_Tape_advance : MOK M_Tape_advance := ⟨by decide, wd_752, rfl, rfl, rfl, fOK_9, (fun i v h => by cases h)⟩
theorem ds_Tape_advance : (mY M_Tape_advance).cls ≠ "java/lang/invoke/MethodHandle" ∧ (mY M_Tape_advance).cls ≠ "java/lang/invoke/VarHandle" ∧ (parseMethodDescriptor (mY M_Tape_advance).desc).map (fun d => d.parameters.length) = some 0 := ⟨by decide +kernel, by decide +kernel, by decide +kernel⟩
def M_TextReader_following : MI := (⟨"CloudDepth$TextReader", "following", "(II)I"⟩, prog_12_method_6_code, 2, (some .int), "CloudDepth$TextReader", mF_10, (fun _ => none), { frames := 0, cells := 0, slots := 0, locals := 0 })
theorem ok_TextReader_following : MOK M_TextReader_following := ⟨by decide, wd_753, rfl, rfl, rfl, fOK_10, (fun i v h => by cases h)⟩
theorem ds_TextReader_following : (mY M_TextReader_following).cls ≠ "java/lang/invoke/MethodHandle" ∧ (mY M_TextReader_following).cls ≠ "java/lang/invoke/VarHandle" ∧ (parseMethodDescriptor (mY M_TextReader_following).desc).map (fun d => d.parameters.length) = some 2 := ⟨by decide +kernel, by decide +kernel, by decide +kernel⟩
def M_TextReader_hardFault : MI := (⟨"CloudDepth$TextReader", "hardFault", "()I"⟩, prog_12_method_5_code, 1, (some .int), "CloudDepth$TextReader", mF_10, (fun _ => none), { frames := 1, cells := 0, slots := 0, locals := 21 })
theorem ok_TextReader_hardFault : MOK M_TextReader_hardFault := ⟨by decide, wd_754, rfl, rfl, rfl, fOK_10, (fun i v h => by cases h)⟩
theorem ds_TextReader_hardFault : (mY M_TextReader_hardFault).cls ≠ "java/lang/invoke/MethodHandle" ∧ (mY M_TextReader_hardFault).cls ≠ "java/lang/invoke/VarHandle" ∧ (parseMethodDescriptor (mY M_TextReader_hardFault).desc).map (fun d => d.parameters.length) = some 0 := ⟨by decide +kernel, by decide +kernel, by decide +kernel⟩
def M_TextReader_endWith : MI := (⟨"CloudDepth$TextReader", "endWith", "(II)I"⟩, prog_12_method_4_code, 3, (some .int), "CloudDepth$TextReader", mF_10, (fun _ => none), { frames := 0, cells := 0, slots := 0, locals := 0 })
theorem ok_TextReader_endWith : MOK M_TextReader_endWith := ⟨by decide, wd_755, rfl, rfl, rfl, fOK_10, (fun i v h => by cases h)⟩
theorem ds_TextReader_endWith : (mY M_TextReader_endWith).cls ≠ "java/lang/invoke/MethodHandle" ∧ (mY M_TextReader_endWith).cls ≠ "java/lang/invoke/VarHandle" ∧ (parseMethodDescriptor (mY M_TextReader_endWith).desc).map (fun d => d.parameters.length) = some 2 := ⟨by decide +kernel, by decide +kernel, by decide +kernel⟩
def M_TextReader_takeName : MI := (⟨"CloudDepth$TextReader", "takeName", "()V"⟩, prog_12_method_8_code, 2, none, "CloudDepth$TextReader", mF_10, (fun _ => none), { frames := 1, cells := 0, slots := 0, locals := 22 })
theorem ok_TextReader_takeName : MOK M_TextReader_takeName := ⟨by decide, wd_756, rfl, rfl, rfl, fOK_10, (fun i v h => by cases h)⟩
theorem ds_TextReader_takeName : (mY M_TextReader_takeName).cls ≠ "java/lang/invoke/MethodHandle" ∧ (mY M_TextReader_takeName).cls ≠ "java/lang/invoke/VarHandle" ∧ (parseMethodDescriptor (mY M_TextReader_takeName).desc).map (fun d => d.parameters.length) = some 0 := ⟨by decide +kernel, by decide +kernel, by decide +kernel⟩
def M_TextReader_takeGrid : MI := (⟨"CloudDepth$TextReader", "takeGrid", "(I)V"⟩, prog_12_method_10_code, 2, none, "CloudDepth$TextReader", mF_10, (fun _ => none), { frames := 1, cells := 0, slots := 0, locals := 22 })
theorem ok_TextReader_takeGrid : MOK M_TextReader_takeGrid := ⟨by decide, wd_757, rfl, rfl, rfl, fOK_10, (fun i v h => by cases h)⟩
theorem ds_TextReader_takeGrid : (mY M_TextReader_takeGrid).cls ≠ "java/lang/invoke/MethodHandle" ∧ (mY M_TextReader_takeGrid).cls ≠ "java/lang/invoke/VarHandle" ∧ (parseMethodDescriptor (mY M_TextReader_takeGrid).desc).map (fun d => d.parameters.length) = some 1 := ⟨by decide +kernel, by decide +kernel, by decide +kernel⟩
def M_C_isWithinReach : MI := (⟨"CloudDepth", "isWithinReach", "(I)Z"⟩, prog_1_method_45_code, 1, (some .boolean), "CloudDepth", mF_11, mK_C, { frames := 0, cells := 0, slots := 0, locals := 0 })
theorem ok_C_isWithinReach : MOK M_C_isWithinReach := ⟨by decide, wd_758, rfl, rfl, rfl, fOK_11, kOK_C⟩
theorem ds_C_isWithinReach : (mY M_C_isWithinReach).cls ≠ "java/lang/invoke/MethodHandle" ∧ (mY M_C_isWithinReach).cls ≠ "java/lang/invoke/VarHandle" ∧ (parseMethodDescriptor (mY M_C_isWithinReach).desc).map (fun d => d.parameters.length) = some 1 := ⟨by decide +kernel, by decide +kernel, by decide +kernel⟩
def M_Cloud_isTaken : MI := (⟨"CloudDepth$Cloud", "isTaken", "(II)Z"⟩, prog_2_method_5_code, 4, (some .boolean), "CloudDepth$Cloud", mF_0, (fun _ => none), { frames := 0, cells := 0, slots := 0, locals := 0 })
theorem ok_Cloud_isTaken : MOK M_Cloud_isTaken := ⟨by decide, wd_759, rfl, rfl, rfl, fOK_0, (fun i v h => by cases h)⟩
theorem ds_Cloud_isTaken : (mY M_Cloud_isTaken).cls ≠ "java/lang/invoke/MethodHandle" ∧ (mY M_Cloud_isTaken).cls ≠ "java/lang/invoke/VarHandle" ∧ (parseMethodDescriptor (mY M_Cloud_isTaken).desc).map (fun d => d.parameters.length) = some 2 := ⟨by decide +kernel, by decide +kernel, by decide +kernel⟩
def M_Cloud_isFree : MI := (⟨"CloudDepth$Cloud", "isFree", "(II)Z"⟩, prog_2_method_6_code, 3, (some .boolean), "CloudDepth$Cloud", mF_0, (fun _ => none), { frames := 1, cells := 0, slots := 0, locals := 23 })
theorem ok_Cloud_isFree : MOK M_Cloud_isFree := ⟨by decide, wd_760, rfl, rfl, rfl, fOK_0, (fun i v h => by cases h)⟩
theorem ds_Cloud_isFree : (mY M_Cloud_isFree).cls ≠ "java/lang/invoke/MethodHandle" ∧ (mY M_Cloud_isFree).cls ≠ "java/lang/invoke/VarHandle" ∧ (parseMethodDescriptor (mY M_Cloud_isFree).desc).map (fun d => d.parameters.length) = some 2 := ⟨by decide +kernel, by decide +kernel, by decide +kernel⟩
def M_Cloud_append : MI := (⟨"CloudDepth$Cloud", "append", "(II)V"⟩, prog_2_method_8_code, 3, none, "CloudDepth$Cloud", mF_0, (fun _ => none), { frames := 0, cells := 0, slots := 0, locals := 0 })
theorem ok_Cloud_append : MOK M_Cloud_append := ⟨by decide, wd_761, rfl, rfl, rfl, fOK_0, (fun i v h => by cases h)⟩
theorem ds_Cloud_append : (mY M_Cloud_append).cls ≠ "java/lang/invoke/MethodHandle" ∧ (mY M_Cloud_append).cls ≠ "java/lang/invoke/VarHandle" ∧ (parseMethodDescriptor (mY M_Cloud_append).desc).map (fun d => d.parameters.length) = some 2 := ⟨by decide +kernel, by decide +kernel, by decide +kernel⟩
def M_TextReader_takeNumber : MI := (⟨"CloudDepth$TextReader", "takeNumber", "(I)V"⟩, prog_12_method_9_code, 2, none, "CloudDepth$TextReader", mF_10, (fun _ => none), { frames := 2, cells := 0, slots := 0, locals := 45 })
theorem ok_TextReader_takeNumber : MOK M_TextReader_takeNumber := ⟨by decide, wd_762, rfl, rfl, rfl, fOK_10, (fun i v h => by cases h)⟩
theorem ds_TextReader_takeNumber : (mY M_TextReader_takeNumber).cls ≠ "java/lang/invoke/MethodHandle" ∧ (mY M_TextReader_takeNumber).cls ≠ "java/lang/invoke/VarHandle" ∧ (parseMethodDescriptor (mY M_TextReader_takeNumber).desc).map (fun d => d.parameters.length) = some 1 := ⟨by decide +kernel, by decide +kernel, by decide +kernel⟩
def M_TextReader_take : MI := (⟨"CloudDepth$TextReader", "take", "()V"⟩, prog_12_method_7_code, 1, none, "CloudDepth$TextReader", mF_10, (fun _ => none), { frames := 3, cells := 0, slots := 0, locals := 66 })
theorem ok_TextReader_take : MOK M_TextReader_take := ⟨by decide, wd_763, rfl, rfl, rfl, fOK_10, (fun i v h => by cases h)⟩
theorem ds_TextReader_take : (mY M_TextReader_take).cls ≠ "java/lang/invoke/MethodHandle" ∧ (mY M_TextReader_take).cls ≠ "java/lang/invoke/VarHandle" ∧ (parseMethodDescriptor (mY M_TextReader_take).desc).map (fun d => d.parameters.length) = some 0 := ⟨by decide +kernel, by decide +kernel, by decide +kernel⟩
def M_TextReader_parse : MI := (⟨"CloudDepth$TextReader", "parse", "()I"⟩, prog_12_method_2_code, 3, (some .int), "CloudDepth$TextReader", mF_10, (fun _ => none), { frames := 9, cells := 0, slots := 0, locals := 213 })
theorem ok_TextReader_parse : MOK M_TextReader_parse := ⟨by decide, wd_764, rfl, rfl, rfl, fOK_10, (fun i v h => by cases h)⟩
theorem ds_TextReader_parse : (mY M_TextReader_parse).cls ≠ "java/lang/invoke/MethodHandle" ∧ (mY M_TextReader_parse).cls ≠ "java/lang/invoke/VarHandle" ∧ (parseMethodDescriptor (mY M_TextReader_parse).desc).map (fun d => d.parameters.length) = some 0 := ⟨by decide +kernel, by decide +kernel, by decide +kernel⟩
def M_Cloud_takeFrom : MI := (⟨"CloudDepth$Cloud", "takeFrom", "(LCloudDepth$Cloud;)V"⟩, prog_2_method_13_code, 3, none, "CloudDepth$Cloud", mF_0, (fun _ => none), { frames := 1, cells := 0, slots := 0, locals := 22 })
theorem ok_Cloud_takeFrom : MOK M_Cloud_takeFrom := ⟨by decide, wd_765, rfl, rfl, rfl, fOK_0, (fun i v h => by cases h)⟩
theorem ds_Cloud_takeFrom : (mY M_Cloud_takeFrom).cls ≠ "java/lang/invoke/MethodHandle" ∧ (mY M_Cloud_takeFrom).cls ≠ "java/lang/invoke/VarHandle" ∧ (parseMethodDescriptor (mY M_Cloud_takeFrom).desc).map (fun d => d.parameters.length) = some 1 := ⟨by decide +kernel, by decide +kernel, by decide +kernel⟩
def M_C_forgetPast : MI := (⟨"CloudDepth", "forgetPast", "()V"⟩, prog_1_method_14_code, 1, none, "CloudDepth", mF_11, mK_C, { frames := 0, cells := 0, slots := 0, locals := 0 })
theorem ok_C_forgetPast : MOK M_C_forgetPast := ⟨by decide, wd_766, rfl, rfl, rfl, fOK_11, kOK_C⟩
theorem ds_C_forgetPast : (mY M_C_forgetPast).cls ≠ "java/lang/invoke/MethodHandle" ∧ (mY M_C_forgetPast).cls ≠ "java/lang/invoke/VarHandle" ∧ (parseMethodDescriptor (mY M_C_forgetPast).desc).map (fun d => d.parameters.length) = some 0 := ⟨by decide +kernel, by decide +kernel, by decide +kernel⟩
def M_C_emptySlots : MI := (⟨"CloudDepth", "emptySlots", "()V"⟩, prog_1_method_15_code, 2, none, "CloudDepth", mF_11, mK_C, { frames := 0, cells := 0, slots := 0, locals := 0 })
theorem ok_C_emptySlots : MOK M_C_emptySlots := ⟨by decide, wd_767, rfl, rfl, rfl, fOK_11, kOK_C⟩
theorem ds_C_emptySlots : (mY M_C_emptySlots).cls ≠ "java/lang/invoke/MethodHandle" ∧ (mY M_C_emptySlots).cls ≠ "java/lang/invoke/VarHandle" ∧ (parseMethodDescriptor (mY M_C_emptySlots).desc).map (fun d => d.parameters.length) = some 0 := ⟨by decide +kernel, by decide +kernel, by decide +kernel⟩
def M_C_read : MI := (⟨"CloudDepth", "read", "()I"⟩, prog_1_method_4_code, 2, (some .int), "CloudDepth", mF_11, mK_C, { frames := 10, cells := 0, slots := 0, locals := 235 })
theorem ok_C_read : MOK M_C_read := ⟨by decide, wd_768, rfl, rfl, rfl, fOK_11, kOK_C⟩
theorem ds_C_read : (mY M_C_read).cls ≠ "java/lang/invoke/MethodHandle" ∧ (mY M_C_read).cls ≠ "java/lang/invoke/VarHandle" ∧ (parseMethodDescriptor (mY M_C_read).desc).map (fun d => d.parameters.length) = some 0 := ⟨by decide +kernel, by decide +kernel, by decide +kernel⟩
def M_R_byteAt : MI := (⟨"CloudDepthModel", "byteAt", "(I)I"⟩, prog_14_method_6_code, 2, (some .int), "CloudDepthModel", mF_12, mK_R, { frames := 0, cells := 0, slots := 0, locals := 0 })
theorem ok_R_byteAt : MOK M_R_byteAt := ⟨by decide, wd_769, rfl, rfl, rfl, fOK_12, kOK_R⟩
theorem ds_R_byteAt : (mY M_R_byteAt).cls ≠ "java/lang/invoke/MethodHandle" ∧ (mY M_R_byteAt).cls ≠ "java/lang/invoke/VarHandle" ∧ (parseMethodDescriptor (mY M_R_byteAt).desc).map (fun d => d.parameters.length) = some 1 := ⟨by decide +kernel, by decide +kernel, by decide +kernel⟩
def M_R_token : MI := (⟨"CloudDepthModel", "token", "(IIIJ)V"⟩, prog_14_method_11_code, 6, none, "CloudDepthModel", mF_12, mK_R, { frames := 0, cells := 0, slots := 0, locals := 0 })
theorem ok_R_token : MOK M_R_token := ⟨by decide, wd_770, rfl, rfl, rfl, fOK_12, kOK_R⟩
theorem ds_R_token : (mY M_R_token).cls ≠ "java/lang/invoke/MethodHandle" ∧ (mY M_R_token).cls ≠ "java/lang/invoke/VarHandle" ∧ (parseMethodDescriptor (mY M_R_token).desc).map (fun d => d.parameters.length) = some 4 := ⟨by decide +kernel, by decide +kernel, by decide +kernel⟩
def M_R_isLetter : MI := (⟨"CloudDepthModel", "isLetter", "(I)Z"⟩, prog_14_method_8_code, 1, (some .boolean), "CloudDepthModel", mF_12, mK_R, { frames := 0, cells := 0, slots := 0, locals := 0 })
theorem ok_R_isLetter : MOK M_R_isLetter := ⟨by decide, wd_771, rfl, rfl, rfl, fOK_12, kOK_R⟩
theorem ds_R_isLetter : (mY M_R_isLetter).cls ≠ "java/lang/invoke/MethodHandle" ∧ (mY M_R_isLetter).cls ≠ "java/lang/invoke/VarHandle" ∧ (parseMethodDescriptor (mY M_R_isLetter).desc).map (fun d => d.parameters.length) = some 1 := ⟨by decide +kernel, by decide +kernel, by decide +kernel⟩
def M_R_appends : MI := (⟨"CloudDepthModel", "appends", "(JI)J"⟩, prog_14_method_9_code, 3, (some .long), "CloudDepthModel", mF_12, mK_R, { frames := 0, cells := 0, slots := 0, locals := 0 })
theorem ok_R_appends : MOK M_R_appends := ⟨by decide, wd_772, rfl, rfl, rfl, fOK_12, kOK_R⟩
theorem ds_R_appends : (mY M_R_appends).cls ≠ "java/lang/invoke/MethodHandle" ∧ (mY M_R_appends).cls ≠ "java/lang/invoke/VarHandle" ∧ (parseMethodDescriptor (mY M_R_appends).desc).map (fun d => d.parameters.length) = some 2 := ⟨by decide +kernel, by decide +kernel, by decide +kernel⟩
def M_R_isDigit : MI := (⟨"CloudDepthModel", "isDigit", "(I)Z"⟩, prog_14_method_7_code, 1, (some .boolean), "CloudDepthModel", mF_12, mK_R, { frames := 0, cells := 0, slots := 0, locals := 0 })
theorem ok_R_isDigit : MOK M_R_isDigit := ⟨by decide, wd_773, rfl, rfl, rfl, fOK_12, kOK_R⟩
theorem ds_R_isDigit : (mY M_R_isDigit).cls ≠ "java/lang/invoke/MethodHandle" ∧ (mY M_R_isDigit).cls ≠ "java/lang/invoke/VarHandle" ∧ (parseMethodDescriptor (mY M_R_isDigit).desc).map (fun d => d.parameters.length) = some 1 := ⟨by decide +kernel, by decide +kernel, by decide +kernel⟩
def M_R_sign : MI := (⟨"CloudDepthModel", "sign", "(II)I"⟩, prog_14_method_13_code, 3, (some .int), "CloudDepthModel", mF_12, mK_R, { frames := 1, cells := 0, slots := 0, locals := 25 })
theorem ok_R_sign : MOK M_R_sign := ⟨by decide, wd_774, rfl, rfl, rfl, fOK_12, kOK_R⟩
theorem ds_R_sign : (mY M_R_sign).cls ≠ "java/lang/invoke/MethodHandle" ∧ (mY M_R_sign).cls ≠ "java/lang/invoke/VarHandle" ∧ (parseMethodDescriptor (mY M_R_sign).desc).map (fun d => d.parameters.length) = some 2 := ⟨by decide +kernel, by decide +kernel, by decide +kernel⟩
def M_R_cutsText : MI := (⟨"CloudDepthModel", "cutsText", "()V"⟩, prog_14_method_12_code, 8, none, "CloudDepthModel", mF_12, mK_R, { frames := 2, cells := 0, slots := 0, locals := 47 })
theorem ok_R_cutsText : MOK M_R_cutsText := ⟨by decide, wd_775, rfl, rfl, rfl, fOK_12, kOK_R⟩
theorem ds_R_cutsText : (mY M_R_cutsText).cls ≠ "java/lang/invoke/MethodHandle" ∧ (mY M_R_cutsText).cls ≠ "java/lang/invoke/VarHandle" ∧ (parseMethodDescriptor (mY M_R_cutsText).desc).map (fun d => d.parameters.length) = some 0 := ⟨by decide +kernel, by decide +kernel, by decide +kernel⟩
def M_R_is : MI := (⟨"CloudDepthModel", "is", "(I)Z"⟩, prog_14_method_14_code, 2, (some .boolean), "CloudDepthModel", mF_12, mK_R, { frames := 0, cells := 0, slots := 0, locals := 0 })
theorem ok_R_is : MOK M_R_is := ⟨by decide, wd_776, rfl, rfl, rfl, fOK_12, kOK_R⟩
theorem ds_R_is : (mY M_R_is).cls ≠ "java/lang/invoke/MethodHandle" ∧ (mY M_R_is).cls ≠ "java/lang/invoke/VarHandle" ∧ (parseMethodDescriptor (mY M_R_is).desc).map (fun d => d.parameters.length) = some 1 := ⟨by decide +kernel, by decide +kernel, by decide +kernel⟩
def M_R_fail : MI := (⟨"CloudDepthModel", "fail", "(I)V"⟩, prog_14_method_15_code, 2, none, "CloudDepthModel", mF_12, mK_R, { frames := 0, cells := 0, slots := 0, locals := 0 })
theorem ok_R_fail : MOK M_R_fail := ⟨by decide, wd_777, rfl, rfl, rfl, fOK_12, kOK_R⟩
theorem ds_R_fail : (mY M_R_fail).cls ≠ "java/lang/invoke/MethodHandle" ∧ (mY M_R_fail).cls ≠ "java/lang/invoke/VarHandle" ∧ (parseMethodDescriptor (mY M_R_fail).desc).map (fun d => d.parameters.length) = some 1 := ⟨by decide +kernel, by decide +kernel, by decide +kernel⟩
def M_R_passes : MI := (⟨"CloudDepthModel", "passes", "()V"⟩, prog_14_method_17_code, 1, none, "CloudDepthModel", mF_12, mK_R, { frames := 1, cells := 0, slots := 0, locals := 21 })
theorem ok_R_passes : MOK M_R_passes := ⟨by decide, wd_778, rfl, rfl, rfl, fOK_12, kOK_R⟩
theorem ds_R_passes : (mY M_R_passes).cls ≠ "java/lang/invoke/MethodHandle" ∧ (mY M_R_passes).cls ≠ "java/lang/invoke/VarHandle" ∧ (parseMethodDescriptor (mY M_R_passes).desc).map (fun d => d.parameters.length) = some 0 := ⟨by decide +kernel, by decide +kernel, by decide +kernel⟩
def M_R_must : MI := (⟨"CloudDepthModel", "must", "(I)V"⟩, prog_14_method_18_code, 2, none, "CloudDepthModel", mF_12, mK_R, { frames := 2, cells := 0, slots := 0, locals := 41 })
theorem ok_R_must : MOK M_R_must := ⟨by decide, wd_779, rfl, rfl, rfl, fOK_12, kOK_R⟩
theorem ds_R_must : (mY M_R_must).cls ≠ "java/lang/invoke/MethodHandle" ∧ (mY M_R_must).cls ≠ "java/lang/invoke/VarHandle" ∧ (parseMethodDescriptor (mY M_R_must).desc).map (fun d => d.parameters.length) = some 1 := ⟨by decide +kernel, by decide +kernel, by decide +kernel⟩
def M_R_signed : MI := (⟨"CloudDepthModel", "signed", "()V"⟩, prog_14_method_21_code, 1, none, "CloudDepthModel", mF_12, mK_R, { frames := 3, cells := 0, slots := 0, locals := 62 })
theorem ok_R_signed : MOK M_R_signed := ⟨by decide, wd_780, rfl, rfl, rfl, fOK_12, kOK_R⟩
theorem ds_R_signed : (mY M_R_signed).cls ≠ "java/lang/invoke/MethodHandle" ∧ (mY M_R_signed).cls ≠ "java/lang/invoke/VarHandle" ∧ (parseMethodDescriptor (mY M_R_signed).desc).map (fun d => d.parameters.length) = some 0 := ⟨by decide +kernel, by decide +kernel, by decide +kernel⟩
def M_R_line : MI := (⟨"CloudDepthModel", "line", "()V"⟩, prog_14_method_22_code, 1, none, "CloudDepthModel", mF_12, mK_R, { frames := 4, cells := 0, slots := 0, locals := 82 })
theorem ok_R_line : MOK M_R_line := ⟨by decide, wd_781, rfl, rfl, rfl, fOK_12, kOK_R⟩
theorem ds_R_line : (mY M_R_line).cls ≠ "java/lang/invoke/MethodHandle" ∧ (mY M_R_line).cls ≠ "java/lang/invoke/VarHandle" ∧ (parseMethodDescriptor (mY M_R_line).desc).map (fun d => d.parameters.length) = some 0 := ⟨by decide +kernel, by decide +kernel, by decide +kernel⟩
def M_R_wrong : MI := (⟨"CloudDepthModel", "wrong", "(II)V"⟩, prog_14_method_16_code, 4, none, "CloudDepthModel", mF_12, mK_R, { frames := 0, cells := 0, slots := 0, locals := 0 })
theorem ok_R_wrong : MOK M_R_wrong := ⟨by decide, wd_782, rfl, rfl, rfl, fOK_12, kOK_R⟩
theorem ds_R_wrong : (mY M_R_wrong).cls ≠ "java/lang/invoke/MethodHandle" ∧ (mY M_R_wrong).cls ≠ "java/lang/invoke/VarHandle" ∧ (parseMethodDescriptor (mY M_R_wrong).desc).map (fun d => d.parameters.length) = some 2 := ⟨by decide +kernel, by decide +kernel, by decide +kernel⟩
def M_R_meansPoint : MI := (⟨"CloudDepthModel", "meansPoint", "(I)V"⟩, prog_14_method_24_code, 6, none, "CloudDepthModel", mF_12, mK_R, { frames := 1, cells := 0, slots := 0, locals := 23 })
theorem ok_R_meansPoint : MOK M_R_meansPoint := ⟨by decide, wd_783, rfl, rfl, rfl, fOK_12, kOK_R⟩
theorem ds_R_meansPoint : (mY M_R_meansPoint).cls ≠ "java/lang/invoke/MethodHandle" ∧ (mY M_R_meansPoint).cls ≠ "java/lang/invoke/VarHandle" ∧ (parseMethodDescriptor (mY M_R_meansPoint).desc).map (fun d => d.parameters.length) = some 1 := ⟨by decide +kernel, by decide +kernel, by decide +kernel⟩
def M_R_in : MI := (⟨"CloudDepthModel", "in", "(III)Z"⟩, prog_14_method_25_code, 3, (some .boolean), "CloudDepthModel", mF_12, mK_R, { frames := 0, cells := 0, slots := 0, locals := 0 })
theorem ok_R_in : MOK M_R_in := ⟨by decide, wd_784, rfl, rfl, rfl, fOK_12, kOK_R⟩
theorem ds_R_in : (mY M_R_in).cls ≠ "java/lang/invoke/MethodHandle" ∧ (mY M_R_in).cls ≠ "java/lang/invoke/VarHandle" ∧ (parseMethodDescriptor (mY M_R_in).desc).map (fun d => d.parameters.length) = some 3 := ⟨by decide +kernel, by decide +kernel, by decide +kernel⟩
def M_R_means : MI := (⟨"CloudDepthModel", "means", "()V"⟩, prog_14_method_23_code, 2, none, "CloudDepthModel", mF_12, mK_R, { frames := 2, cells := 0, slots := 0, locals := 48 })
theorem ok_R_means : MOK M_R_means := ⟨by decide, wd_785, rfl, rfl, rfl, fOK_12, kOK_R⟩
theorem ds_R_means : (mY M_R_means).cls ≠ "java/lang/invoke/MethodHandle" ∧ (mY M_R_means).cls ≠ "java/lang/invoke/VarHandle" ∧ (parseMethodDescriptor (mY M_R_means).desc).map (fun d => d.parameters.length) = some 0 := ⟨by decide +kernel, by decide +kernel, by decide +kernel⟩
def M_R_read : MI := (⟨"CloudDepthModel", "read", "()I"⟩, prog_14_method_19_code, 2, (some .int), "CloudDepthModel", mF_12, mK_R, { frames := 5, cells := 0, slots := 0, locals := 102 })
theorem ok_R_read : MOK M_R_read := ⟨by decide, wd_786, rfl, rfl, rfl, fOK_12, kOK_R⟩
theorem ds_R_read : (mY M_R_read).cls ≠ "java/lang/invoke/MethodHandle" ∧ (mY M_R_read).cls ≠ "java/lang/invoke/VarHandle" ∧ (parseMethodDescriptor (mY M_R_read).desc).map (fun d => d.parameters.length) = some 0 := ⟨by decide +kernel, by decide +kernel, by decide +kernel⟩
def M_C_place : MI := (⟨"CloudDepth", "place", "()I"⟩, prog_1_method_5_code, 1, (some .int), "CloudDepth", mF_11, mK_C, { frames := 0, cells := 0, slots := 0, locals := 0 })
theorem ok_C_place : MOK M_C_place := ⟨by decide, wd_787, rfl, rfl, rfl, fOK_11, kOK_C⟩
theorem ds_C_place : (mY M_C_place).cls ≠ "java/lang/invoke/MethodHandle" ∧ (mY M_C_place).cls ≠ "java/lang/invoke/VarHandle" ∧ (parseMethodDescriptor (mY M_C_place).desc).map (fun d => d.parameters.length) = some 0 := ⟨by decide +kernel, by decide +kernel, by decide +kernel⟩
def M_R_place : MI := (⟨"CloudDepthModel", "place", "()I"⟩, prog_14_method_20_code, 1, (some .int), "CloudDepthModel", mF_12, mK_R, { frames := 0, cells := 0, slots := 0, locals := 0 })
theorem ok_R_place : MOK M_R_place := ⟨by decide, wd_788, rfl, rfl, rfl, fOK_12, kOK_R⟩
theorem ds_R_place : (mY M_R_place).cls ≠ "java/lang/invoke/MethodHandle" ∧ (mY M_R_place).cls ≠ "java/lang/invoke/VarHandle" ∧ (parseMethodDescriptor (mY M_R_place).desc).map (fun d => d.parameters.length) = some 0 := ⟨by decide +kernel, by decide +kernel, by decide +kernel⟩
def M_Shelf_keep : MI := (⟨"CloudDepth$Shelf", "keep", "(ILCloudDepth$Cloud;)V"⟩, prog_10_method_2_code, 5, none, "CloudDepth$Shelf", mF_8, (fun _ => none), { frames := 0, cells := 0, slots := 0, locals := 0 })
theorem ok_Shelf_keep : MOK M_Shelf_keep := ⟨by decide, wd_789, rfl, rfl, rfl, fOK_8, (fun i v h => by cases h)⟩
theorem ds_Shelf_keep : (mY M_Shelf_keep).cls ≠ "java/lang/invoke/MethodHandle" ∧ (mY M_Shelf_keep).cls ≠ "java/lang/invoke/VarHandle" ∧ (parseMethodDescriptor (mY M_Shelf_keep).desc).map (fun d => d.parameters.length) = some 2 := ⟨by decide +kernel, by decide +kernel, by decide +kernel⟩
def M_C_rememberPast : MI := (⟨"CloudDepth", "rememberPast", "()V"⟩, prog_1_method_13_code, 1, none, "CloudDepth", mF_11, mK_C, { frames := 1, cells := 0, slots := 0, locals := 24 })
theorem ok_C_rememberPast : MOK M_C_rememberPast := ⟨by decide, wd_790, rfl, rfl, rfl, fOK_11, kOK_C⟩
theorem ds_C_rememberPast : (mY M_C_rememberPast).cls ≠ "java/lang/invoke/MethodHandle" ∧ (mY M_C_rememberPast).cls ≠ "java/lang/invoke/VarHandle" ∧ (parseMethodDescriptor (mY M_C_rememberPast).desc).map (fun d => d.parameters.length) = some 0 := ⟨by decide +kernel, by decide +kernel, by decide +kernel⟩
def M_C_add : MI := (⟨"CloudDepth", "add", "(II)I"⟩, prog_1_method_6_code, 3, (some .int), "CloudDepth", mF_11, mK_C, { frames := 2, cells := 0, slots := 0, locals := 45 })
theorem ok_C_add : MOK M_C_add := ⟨by decide, wd_791, rfl, rfl, rfl, fOK_11, kOK_C⟩
theorem ds_C_add : (mY M_C_add).cls ≠ "java/lang/invoke/MethodHandle" ∧ (mY M_C_add).cls ≠ "java/lang/invoke/VarHandle" ∧ (parseMethodDescriptor (mY M_C_add).desc).map (fun d => d.parameters.length) = some 2 := ⟨by decide +kernel, by decide +kernel, by decide +kernel⟩
def M_R_all : MI := (⟨"CloudDepthModel", "all", "()I"⟩, prog_14_method_28_code, 1, (some .int), "CloudDepthModel", mF_12, mK_R, { frames := 0, cells := 0, slots := 0, locals := 0 })
theorem ok_R_all : MOK M_R_all := ⟨by decide, wd_792, rfl, rfl, rfl, fOK_12, kOK_R⟩
theorem ds_R_all : (mY M_R_all).cls ≠ "java/lang/invoke/MethodHandle" ∧ (mY M_R_all).cls ≠ "java/lang/invoke/VarHandle" ∧ (parseMethodDescriptor (mY M_R_all).desc).map (fun d => d.parameters.length) = some 0 := ⟨by decide +kernel, by decide +kernel, by decide +kernel⟩
def M_R_x : MI := (⟨"CloudDepthModel", "x", "(I)I"⟩, prog_14_method_30_code, 2, (some .int), "CloudDepthModel", mF_12, mK_R, { frames := 0, cells := 0, slots := 0, locals := 0 })
theorem ok_R_x : MOK M_R_x := ⟨by decide, wd_793, rfl, rfl, rfl, fOK_12, kOK_R⟩
theorem ds_R_x : (mY M_R_x).cls ≠ "java/lang/invoke/MethodHandle" ∧ (mY M_R_x).cls ≠ "java/lang/invoke/VarHandle" ∧ (parseMethodDescriptor (mY M_R_x).desc).map (fun d => d.parameters.length) = some 1 := ⟨by decide +kernel, by decide +kernel, by decide +kernel⟩
def M_R_y : MI := (⟨"CloudDepthModel", "y", "(I)I"⟩, prog_14_method_31_code, 2, (some .int), "CloudDepthModel", mF_12, mK_R, { frames := 0, cells := 0, slots := 0, locals := 0 })
theorem ok_R_y : MOK M_R_y := ⟨by decide, wd_794, rfl, rfl, rfl, fOK_12, kOK_R⟩
theorem ds_R_y : (mY M_R_y).cls ≠ "java/lang/invoke/MethodHandle" ∧ (mY M_R_y).cls ≠ "java/lang/invoke/VarHandle" ∧ (parseMethodDescriptor (mY M_R_y).desc).map (fun d => d.parameters.length) = some 1 := ⟨by decide +kernel, by decide +kernel, by decide +kernel⟩
def M_R_pointAt : MI := (⟨"CloudDepthModel", "pointAt", "(II)I"⟩, prog_14_method_33_code, 4, (some .int), "CloudDepthModel", mF_12, mK_R, { frames := 1, cells := 0, slots := 0, locals := 21 })
theorem ok_R_pointAt : MOK M_R_pointAt := ⟨by decide, wd_795, rfl, rfl, rfl, fOK_12, kOK_R⟩
theorem ds_R_pointAt : (mY M_R_pointAt).cls ≠ "java/lang/invoke/MethodHandle" ∧ (mY M_R_pointAt).cls ≠ "java/lang/invoke/VarHandle" ∧ (parseMethodDescriptor (mY M_R_pointAt).desc).map (fun d => d.parameters.length) = some 2 := ⟨by decide +kernel, by decide +kernel, by decide +kernel⟩
def M_R_canBe : MI := (⟨"CloudDepthModel", "canBe", "(II)Z"⟩, prog_14_method_34_code, 3, (some .boolean), "CloudDepthModel", mF_12, mK_R, { frames := 2, cells := 0, slots := 0, locals := 44 })
theorem ok_R_canBe : MOK M_R_canBe := ⟨by decide, wd_796, rfl, rfl, rfl, fOK_12, kOK_R⟩
theorem ds_R_canBe : (mY M_R_canBe).cls ≠ "java/lang/invoke/MethodHandle" ∧ (mY M_R_canBe).cls ≠ "java/lang/invoke/VarHandle" ∧ (parseMethodDescriptor (mY M_R_canBe).desc).map (fun d => d.parameters.length) = some 2 := ⟨by decide +kernel, by decide +kernel, by decide +kernel⟩
def M_R_marks : MI := (⟨"CloudDepthModel", "marks", "()V"⟩, prog_14_method_35_code, 3, none, "CloudDepthModel", mF_12, mK_R, { frames := 0, cells := 0, slots := 0, locals := 0 })
theorem ok_R_marks : MOK M_R_marks := ⟨by decide, wd_797, rfl, rfl, rfl, fOK_12, kOK_R⟩
theorem ds_R_marks : (mY M_R_marks).cls ≠ "java/lang/invoke/MethodHandle" ∧ (mY M_R_marks).cls ≠ "java/lang/invoke/VarHandle" ∧ (parseMethodDescriptor (mY M_R_marks).desc).map (fun d => d.parameters.length) = some 0 := ⟨by decide +kernel, by decide +kernel, by decide +kernel⟩
def M_R_lays3 : MI := (⟨"CloudDepthModel", "lays", "(III)V"⟩, prog_14_method_39_code, 4, none, "CloudDepthModel", mF_12, mK_R, { frames := 0, cells := 0, slots := 0, locals := 0 })
theorem ok_R_lays3 : MOK M_R_lays3 := ⟨by decide, wd_798, rfl, rfl, rfl, fOK_12, kOK_R⟩
theorem ds_R_lays3 : (mY M_R_lays3).cls ≠ "java/lang/invoke/MethodHandle" ∧ (mY M_R_lays3).cls ≠ "java/lang/invoke/VarHandle" ∧ (parseMethodDescriptor (mY M_R_lays3).desc).map (fun d => d.parameters.length) = some 3 := ⟨by decide +kernel, by decide +kernel, by decide +kernel⟩
def M_R_add : MI := (⟨"CloudDepthModel", "add", "(II)I"⟩, prog_14_method_40_code, 3, (some .int), "CloudDepthModel", mF_12, mK_R, { frames := 3, cells := 0, slots := 0, locals := 66 })
theorem ok_R_add : MOK M_R_add := ⟨by decide, wd_799, rfl, rfl, rfl, fOK_12, kOK_R⟩
theorem ds_R_add : (mY M_R_add).cls ≠ "java/lang/invoke/MethodHandle" ∧ (mY M_R_add).cls ≠ "java/lang/invoke/VarHandle" ∧ (parseMethodDescriptor (mY M_R_add).desc).map (fun d => d.parameters.length) = some 2 := ⟨by decide +kernel, by decide +kernel, by decide +kernel⟩
def M_Cloud_has : MI := (⟨"CloudDepth$Cloud", "has", "(I)Z"⟩, prog_2_method_2_code, 2, (some .boolean), "CloudDepth$Cloud", mF_0, (fun _ => none), { frames := 0, cells := 0, slots := 0, locals := 0 })
theorem ok_Cloud_has : MOK M_Cloud_has := ⟨by decide, wd_800, rfl, rfl, rfl, fOK_0, (fun i v h => by cases h)⟩
theorem ds_Cloud_has : (mY M_Cloud_has).cls ≠ "java/lang/invoke/MethodHandle" ∧ (mY M_Cloud_has).cls ≠ "java/lang/invoke/VarHandle" ∧ (parseMethodDescriptor (mY M_Cloud_has).desc).map (fun d => d.parameters.length) = some 1 := ⟨by decide +kernel, by decide +kernel, by decide +kernel⟩
def M_Cloud_drop : MI := (⟨"CloudDepth$Cloud", "drop", "(I)V"⟩, prog_2_method_10_code, 3, none, "CloudDepth$Cloud", mF_0, (fun _ => none), { frames := 1, cells := 0, slots := 0, locals := 21 })
theorem ok_Cloud_drop : MOK M_Cloud_drop := ⟨by decide, wd_801, rfl, rfl, rfl, fOK_0, (fun i v h => by cases h)⟩
theorem ds_Cloud_drop : (mY M_Cloud_drop).cls ≠ "java/lang/invoke/MethodHandle" ∧ (mY M_Cloud_drop).cls ≠ "java/lang/invoke/VarHandle" ∧ (parseMethodDescriptor (mY M_Cloud_drop).desc).map (fun d => d.parameters.length) = some 1 := ⟨by decide +kernel, by decide +kernel, by decide +kernel⟩
def M_C_goes : MI := (⟨"CloudDepth", "goes", "(I)Z"⟩, prog_1_method_7_code, 2, (some .boolean), "CloudDepth", mF_11, mK_C, { frames := 2, cells := 0, slots := 0, locals := 44 })
theorem ok_C_goes : MOK M_C_goes := ⟨by decide, wd_802, rfl, rfl, rfl, fOK_11, kOK_C⟩
theorem ds_C_goes : (mY M_C_goes).cls ≠ "java/lang/invoke/MethodHandle" ∧ (mY M_C_goes).cls ≠ "java/lang/invoke/VarHandle" ∧ (parseMethodDescriptor (mY M_C_goes).desc).map (fun d => d.parameters.length) = some 1 := ⟨by decide +kernel, by decide +kernel, by decide +kernel⟩
def M_R_isPoint : MI := (⟨"CloudDepthModel", "isPoint", "(I)Z"⟩, prog_14_method_32_code, 2, (some .boolean), "CloudDepthModel", mF_12, mK_R, { frames := 1, cells := 0, slots := 0, locals := 22 })
theorem ok_R_isPoint : MOK M_R_isPoint := ⟨by decide, wd_803, rfl, rfl, rfl, fOK_12, kOK_R⟩
theorem ds_R_isPoint : (mY M_R_isPoint).cls ≠ "java/lang/invoke/MethodHandle" ∧ (mY M_R_isPoint).cls ≠ "java/lang/invoke/VarHandle" ∧ (parseMethodDescriptor (mY M_R_isPoint).desc).map (fun d => d.parameters.length) = some 1 := ⟨by decide +kernel, by decide +kernel, by decide +kernel⟩
def M_R_goes : MI := (⟨"CloudDepthModel", "goes", "(I)Z"⟩, prog_14_method_41_code, 3, (some .boolean), "CloudDepthModel", mF_12, mK_R, { frames := 2, cells := 0, slots := 0, locals := 43 })
theorem ok_R_goes : MOK M_R_goes := ⟨by decide, wd_804, rfl, rfl, rfl, fOK_12, kOK_R⟩
theorem ds_R_goes : (mY M_R_goes).cls ≠ "java/lang/invoke/MethodHandle" ∧ (mY M_R_goes).cls ≠ "java/lang/invoke/VarHandle" ∧ (parseMethodDescriptor (mY M_R_goes).desc).map (fun d => d.parameters.length) = some 1 := ⟨by decide +kernel, by decide +kernel, by decide +kernel⟩
def M_Cloud_put : MI := (⟨"CloudDepth$Cloud", "put", "(III)V"⟩, prog_2_method_9_code, 4, none, "CloudDepth$Cloud", mF_0, (fun _ => none), { frames := 1, cells := 0, slots := 0, locals := 21 })
theorem ok_Cloud_put : MOK M_Cloud_put := ⟨by decide, wd_805, rfl, rfl, rfl, fOK_0, (fun i v h => by cases h)⟩
theorem ds_Cloud_put : (mY M_Cloud_put).cls ≠ "java/lang/invoke/MethodHandle" ∧ (mY M_Cloud_put).cls ≠ "java/lang/invoke/VarHandle" ∧ (parseMethodDescriptor (mY M_Cloud_put).desc).map (fun d => d.parameters.length) = some 3 := ⟨by decide +kernel, by decide +kernel, by decide +kernel⟩
def M_C_move : MI := (⟨"CloudDepth", "move", "(III)Z"⟩, prog_1_method_8_code, 4, (some .boolean), "CloudDepth", mF_11, mK_C, { frames := 2, cells := 0, slots := 0, locals := 45 })
theorem ok_C_move : MOK M_C_move := ⟨by decide, wd_806, rfl, rfl, rfl, fOK_11, kOK_C⟩
theorem ds_C_move : (mY M_C_move).cls ≠ "java/lang/invoke/MethodHandle" ∧ (mY M_C_move).cls ≠ "java/lang/invoke/VarHandle" ∧ (parseMethodDescriptor (mY M_C_move).desc).map (fun d => d.parameters.length) = some 3 := ⟨by decide +kernel, by decide +kernel, by decide +kernel⟩
def M_R_move : MI := (⟨"CloudDepthModel", "move", "(III)Z"⟩, prog_14_method_42_code, 4, (some .boolean), "CloudDepthModel", mF_12, mK_R, { frames := 3, cells := 0, slots := 0, locals := 66 })
theorem ok_R_move : MOK M_R_move := ⟨by decide, wd_807, rfl, rfl, rfl, fOK_12, kOK_R⟩
theorem ds_R_move : (mY M_R_move).cls ≠ "java/lang/invoke/MethodHandle" ∧ (mY M_R_move).cls ≠ "java/lang/invoke/VarHandle" ∧ (parseMethodDescriptor (mY M_R_move).desc).map (fun d => d.parameters.length) = some 3 := ⟨by decide +kernel, by decide +kernel, by decide +kernel⟩
def M_Cloud_mirror : MI := (⟨"CloudDepth$Cloud", "mirror", "()V"⟩, prog_2_method_12_code, 2, none, "CloudDepth$Cloud", mF_0, (fun _ => none), { frames := 2, cells := 0, slots := 0, locals := 44 })
theorem ok_Cloud_mirror : MOK M_Cloud_mirror := ⟨by decide, wd_808, rfl, rfl, rfl, fOK_0, (fun i v h => by cases h)⟩
theorem ds_Cloud_mirror : (mY M_Cloud_mirror).cls ≠ "java/lang/invoke/MethodHandle" ∧ (mY M_Cloud_mirror).cls ≠ "java/lang/invoke/VarHandle" ∧ (parseMethodDescriptor (mY M_Cloud_mirror).desc).map (fun d => d.parameters.length) = some 0 := ⟨by decide +kernel, by decide +kernel, by decide +kernel⟩
def M_Cloud_turnQuarter : MI := (⟨"CloudDepth$Cloud", "turnQuarter", "()V"⟩, prog_2_method_11_code, 2, none, "CloudDepth$Cloud", mF_0, (fun _ => none), { frames := 2, cells := 0, slots := 0, locals := 44 })
theorem ok_Cloud_turnQuarter : MOK M_Cloud_turnQuarter := ⟨by decide, wd_809, rfl, rfl, rfl, fOK_0, (fun i v h => by cases h)⟩
theorem ds_Cloud_turnQuarter : (mY M_Cloud_turnQuarter).cls ≠ "java/lang/invoke/MethodHandle" ∧ (mY M_Cloud_turnQuarter).cls ≠ "java/lang/invoke/VarHandle" ∧ (parseMethodDescriptor (mY M_Cloud_turnQuarter).desc).map (fun d => d.parameters.length) = some 0 := ⟨by decide +kernel, by decide +kernel, by decide +kernel⟩
def M_C_turn : MI := (⟨"CloudDepth", "turn", "(Z)Z"⟩, prog_1_method_9_code, 2, (some .boolean), "CloudDepth", mF_11, mK_C, { frames := 3, cells := 0, slots := 0, locals := 65 })
theorem ok_C_turn : MOK M_C_turn := ⟨by decide, wd_810, rfl, rfl, rfl, fOK_11, kOK_C⟩
theorem ds_C_turn : (mY M_C_turn).cls ≠ "java/lang/invoke/MethodHandle" ∧ (mY M_C_turn).cls ≠ "java/lang/invoke/VarHandle" ∧ (parseMethodDescriptor (mY M_C_turn).desc).map (fun d => d.parameters.length) = some 1 := ⟨by decide +kernel, by decide +kernel, by decide +kernel⟩
def M_R_turn : MI := (⟨"CloudDepthModel", "turn", "(Z)Z"⟩, prog_14_method_43_code, 3, (some .boolean), "CloudDepthModel", mF_12, mK_R, { frames := 1, cells := 0, slots := 0, locals := 23 })
theorem ok_R_turn : MOK M_R_turn := ⟨by decide, wd_811, rfl, rfl, rfl, fOK_12, kOK_R⟩
theorem ds_R_turn : (mY M_R_turn).cls ≠ "java/lang/invoke/MethodHandle" ∧ (mY M_R_turn).cls ≠ "java/lang/invoke/VarHandle" ∧ (parseMethodDescriptor (mY M_R_turn).desc).map (fun d => d.parameters.length) = some 1 := ⟨by decide +kernel, by decide +kernel, by decide +kernel⟩
def M_Shelf_give : MI := (⟨"CloudDepth$Shelf", "give", "(ILCloudDepth$Cloud;)V"⟩, prog_10_method_3_code, 5, none, "CloudDepth$Shelf", mF_8, (fun _ => none), { frames := 1, cells := 0, slots := 0, locals := 22 })
theorem ok_Shelf_give : MOK M_Shelf_give := ⟨by decide, wd_812, rfl, rfl, rfl, fOK_8, (fun i v h => by cases h)⟩
theorem ds_Shelf_give : (mY M_Shelf_give).cls ≠ "java/lang/invoke/MethodHandle" ∧ (mY M_Shelf_give).cls ≠ "java/lang/invoke/VarHandle" ∧ (parseMethodDescriptor (mY M_Shelf_give).desc).map (fun d => d.parameters.length) = some 2 := ⟨by decide +kernel, by decide +kernel, by decide +kernel⟩
def M_C_undo : MI := (⟨"CloudDepth", "undo", "()Z"⟩, prog_1_method_10_code, 1, (some .boolean), "CloudDepth", mF_11, mK_C, { frames := 2, cells := 0, slots := 0, locals := 46 })
theorem ok_C_undo : MOK M_C_undo := ⟨by decide, wd_813, rfl, rfl, rfl, fOK_11, kOK_C⟩
theorem ds_C_undo : (mY M_C_undo).cls ≠ "java/lang/invoke/MethodHandle" ∧ (mY M_C_undo).cls ≠ "java/lang/invoke/VarHandle" ∧ (parseMethodDescriptor (mY M_C_undo).desc).map (fun d => d.parameters.length) = some 0 := ⟨by decide +kernel, by decide +kernel, by decide +kernel⟩
def M_R_undo : MI := (⟨"CloudDepthModel", "undo", "()Z"⟩, prog_14_method_36_code, 3, (some .boolean), "CloudDepthModel", mF_12, mK_R, { frames := 0, cells := 0, slots := 0, locals := 0 })
theorem ok_R_undo : MOK M_R_undo := ⟨by decide, wd_814, rfl, rfl, rfl, fOK_12, kOK_R⟩
theorem ds_R_undo : (mY M_R_undo).cls ≠ "java/lang/invoke/MethodHandle" ∧ (mY M_R_undo).cls ≠ "java/lang/invoke/VarHandle" ∧ (parseMethodDescriptor (mY M_R_undo).desc).map (fun d => d.parameters.length) = some 0 := ⟨by decide +kernel, by decide +kernel, by decide +kernel⟩
def M_Cloud_everyone : MI := (⟨"CloudDepth$Cloud", "everyone", "()I"⟩, prog_2_method_4_code, 1, (some .int), "CloudDepth$Cloud", mF_0, (fun _ => none), { frames := 0, cells := 0, slots := 0, locals := 0 })
theorem ok_Cloud_everyone : MOK M_Cloud_everyone := ⟨by decide, wd_815, rfl, rfl, rfl, fOK_0, (fun i v h => by cases h)⟩
theorem ds_Cloud_everyone : (mY M_Cloud_everyone).cls ≠ "java/lang/invoke/MethodHandle" ∧ (mY M_Cloud_everyone).cls ≠ "java/lang/invoke/VarHandle" ∧ (parseMethodDescriptor (mY M_Cloud_everyone).desc).map (fun d => d.parameters.length) = some 0 := ⟨by decide +kernel, by decide +kernel, by decide +kernel⟩
def M_C_bit : MI := (⟨"CloudDepth", "bit", "(II)I"⟩, prog_1_method_47_code, 2, (some .int), "CloudDepth", mF_11, mK_C, { frames := 0, cells := 0, slots := 0, locals := 0 })
theorem ok_C_bit : MOK M_C_bit := ⟨by decide, wd_816, rfl, rfl, rfl, fOK_11, kOK_C⟩
theorem ds_C_bit : (mY M_C_bit).cls ≠ "java/lang/invoke/MethodHandle" ∧ (mY M_C_bit).cls ≠ "java/lang/invoke/VarHandle" ∧ (parseMethodDescriptor (mY M_C_bit).desc).map (fun d => d.parameters.length) = some 2 := ⟨by decide +kernel, by decide +kernel, by decide +kernel⟩
def M_Cloud_turnAt : MI := (⟨"CloudDepth$Cloud", "turnAt", "(IIII)I"⟩, prog_2_method_14_code, 5, (some .int), "CloudDepth$Cloud", mF_0, (fun _ => none), { frames := 0, cells := 0, slots := 0, locals := 0 })
theorem ok_Cloud_turnAt : MOK M_Cloud_turnAt := ⟨by decide, wd_817, rfl, rfl, rfl, fOK_0, (fun i v h => by cases h)⟩
theorem ds_Cloud_turnAt : (mY M_Cloud_turnAt).cls ≠ "java/lang/invoke/MethodHandle" ∧ (mY M_Cloud_turnAt).cls ≠ "java/lang/invoke/VarHandle" ∧ (parseMethodDescriptor (mY M_Cloud_turnAt).desc).map (fun d => d.parameters.length) = some 4 := ⟨by decide +kernel, by decide +kernel, by decide +kernel⟩
def M_C_signOf : MI := (⟨"CloudDepth", "signOf", "(I)I"⟩, prog_1_method_46_code, 1, (some .int), "CloudDepth", mF_11, mK_C, { frames := 0, cells := 0, slots := 0, locals := 0 })
theorem ok_C_signOf : MOK M_C_signOf := ⟨by decide, wd_818, rfl, rfl, rfl, fOK_11, kOK_C⟩
theorem ds_C_signOf : (mY M_C_signOf).cls ≠ "java/lang/invoke/MethodHandle" ∧ (mY M_C_signOf).cls ≠ "java/lang/invoke/VarHandle" ∧ (parseMethodDescriptor (mY M_C_signOf).desc).map (fun d => d.parameters.length) = some 1 := ⟨by decide +kernel, by decide +kernel, by decide +kernel⟩
def M_Cloud_sideBits : MI := (⟨"CloudDepth$Cloud", "sideBits", "(III)I"⟩, prog_2_method_16_code, 6, (some .int), "CloudDepth$Cloud", mF_0, (fun _ => none), { frames := 1, cells := 0, slots := 0, locals := 24 })
theorem ok_Cloud_sideBits : MOK M_Cloud_sideBits := ⟨by decide, wd_819, rfl, rfl, rfl, fOK_0, (fun i v h => by cases h)⟩
theorem ds_Cloud_sideBits : (mY M_Cloud_sideBits).cls ≠ "java/lang/invoke/MethodHandle" ∧ (mY M_Cloud_sideBits).cls ≠ "java/lang/invoke/VarHandle" ∧ (parseMethodDescriptor (mY M_Cloud_sideBits).desc).map (fun d => d.parameters.length) = some 3 := ⟨by decide +kernel, by decide +kernel, by decide +kernel⟩
def M_Hulls_isOnRim : MI := (⟨"CloudDepth$Hulls", "isOnRim", "(LCloudDepth$Cloud;II)Z"⟩, prog_6_method_10_code, 4, (some .boolean), "CloudDepth$Hulls", mF_4, (fun _ => none), { frames := 2, cells := 0, slots := 0, locals := 49 })
theorem ok_Hulls_isOnRim : MOK M_Hulls_isOnRim := ⟨by decide, wd_820, rfl, rfl, rfl, fOK_4, (fun i v h => by cases h)⟩
theorem ds_Hulls_isOnRim : (mY M_Hulls_isOnRim).cls ≠ "java/lang/invoke/MethodHandle" ∧ (mY M_Hulls_isOnRim).cls ≠ "java/lang/invoke/VarHandle" ∧ (parseMethodDescriptor (mY M_Hulls_isOnRim).desc).map (fun d => d.parameters.length) = some 3 := ⟨by decide +kernel, by decide +kernel, by decide +kernel⟩
def M_Hulls_rimOf : MI := (⟨"CloudDepth$Hulls", "rimOf", "(LCloudDepth$Cloud;I)I"⟩, prog_6_method_9_code, 4, (some .int), "CloudDepth$Hulls", mF_4, (fun _ => none), { frames := 3, cells := 0, slots := 0, locals := 72 })
theorem ok_Hulls_rimOf : MOK M_Hulls_rimOf := ⟨by decide, wd_821, rfl, rfl, rfl, fOK_4, (fun i v h => by cases h)⟩
theorem ds_Hulls_rimOf : (mY M_Hulls_rimOf).cls ≠ "java/lang/invoke/MethodHandle" ∧ (mY M_Hulls_rimOf).cls ≠ "java/lang/invoke/VarHandle" ∧ (parseMethodDescriptor (mY M_Hulls_rimOf).desc).map (fun d => d.parameters.length) = some 2 := ⟨by decide +kernel, by decide +kernel, by decide +kernel⟩
def M_Hulls_peel : MI := (⟨"CloudDepth$Hulls", "peel", "(LCloudDepth$Cloud;)V"⟩, prog_6_method_2_code, 4, none, "CloudDepth$Hulls", mF_4, (fun _ => none), { frames := 4, cells := 0, slots := 0, locals := 95 })
theorem ok_Hulls_peel : MOK M_Hulls_peel := ⟨by decide, wd_822, rfl, rfl, rfl, fOK_4, (fun i v h => by cases h)⟩
theorem ds_Hulls_peel : (mY M_Hulls_peel).cls ≠ "java/lang/invoke/MethodHandle" ∧ (mY M_Hulls_peel).cls ≠ "java/lang/invoke/VarHandle" ∧ (parseMethodDescriptor (mY M_Hulls_peel).desc).map (fun d => d.parameters.length) = some 1 := ⟨by decide +kernel, by decide +kernel, by decide +kernel⟩
def M_Hulls_layerWith : MI := (⟨"CloudDepth$Hulls", "layerWith", "(I)I"⟩, prog_6_method_4_code, 3, (some .int), "CloudDepth$Hulls", mF_4, (fun _ => none), { frames := 1, cells := 0, slots := 0, locals := 21 })
theorem ok_Hulls_layerWith : MOK M_Hulls_layerWith := ⟨by decide, wd_823, rfl, rfl, rfl, fOK_4, (fun i v h => by cases h)⟩
theorem ds_Hulls_layerWith : (mY M_Hulls_layerWith).cls ≠ "java/lang/invoke/MethodHandle" ∧ (mY M_Hulls_layerWith).cls ≠ "java/lang/invoke/VarHandle" ∧ (parseMethodDescriptor (mY M_Hulls_layerWith).desc).map (fun d => d.parameters.length) = some 1 := ⟨by decide +kernel, by decide +kernel, by decide +kernel⟩
def M_Depths_fewestAbout : MI := (⟨"CloudDepth$Depths", "fewestAbout", "(II)I"⟩, prog_4_method_4_code, 10, (some .int), "CloudDepth$Depths", mF_2, (fun _ => none), { frames := 1, cells := 0, slots := 0, locals := 21 })
theorem ok_Depths_fewestAbout : MOK M_Depths_fewestAbout := ⟨by decide, wd_824, rfl, rfl, rfl, fOK_2, (fun i v h => by cases h)⟩
theorem ds_Depths_fewestAbout : (mY M_Depths_fewestAbout).cls ≠ "java/lang/invoke/MethodHandle" ∧ (mY M_Depths_fewestAbout).cls ≠ "java/lang/invoke/VarHandle" ∧ (parseMethodDescriptor (mY M_Depths_fewestAbout).desc).map (fun d => d.parameters.length) = some 2 := ⟨by decide +kernel, by decide +kernel, by decide +kernel⟩
def M_Depths_depthOver : MI := (⟨"CloudDepth$Depths", "depthOver", "(LCloudDepth$Cloud;III)I"⟩, prog_4_method_3_code, 8, (some .int), "CloudDepth$Depths", mF_2, (fun _ => none), { frames := 2, cells := 0, slots := 0, locals := 50 })
theorem ok_Depths_depthOver : MOK M_Depths_depthOver := ⟨by decide, wd_825, rfl, rfl, rfl, fOK_2, (fun i v h => by cases h)⟩
theorem ds_Depths_depthOver : (mY M_Depths_depthOver).cls ≠ "java/lang/invoke/MethodHandle" ∧ (mY M_Depths_depthOver).cls ≠ "java/lang/invoke/VarHandle" ∧ (parseMethodDescriptor (mY M_Depths_depthOver).desc).map (fun d => d.parameters.length) = some 4 := ⟨by decide +kernel, by decide +kernel, by decide +kernel⟩
def M_Depths_depthAt : MI := (⟨"CloudDepth$Depths", "depthAt", "(LCloudDepth$Cloud;II)I"⟩, prog_4_method_2_code, 4, (some .int), "CloudDepth$Depths", mF_2, (fun _ => none), { frames := 3, cells := 0, slots := 0, locals := 77 })
theorem ok_Depths_depthAt : MOK M_Depths_depthAt := ⟨by decide, wd_826, rfl, rfl, rfl, fOK_2, (fun i v h => by cases h)⟩
theorem ds_Depths_depthAt : (mY M_Depths_depthAt).cls ≠ "java/lang/invoke/MethodHandle" ∧ (mY M_Depths_depthAt).cls ≠ "java/lang/invoke/VarHandle" ∧ (parseMethodDescriptor (mY M_Depths_depthAt).desc).map (fun d => d.parameters.length) = some 3 := ⟨by decide +kernel, by decide +kernel, by decide +kernel⟩
def M_Hulls_layerBits : MI := (⟨"CloudDepth$Hulls", "layerBits", "(I)I"⟩, prog_6_method_3_code, 2, (some .int), "CloudDepth$Hulls", mF_4, (fun _ => none), { frames := 0, cells := 0, slots := 0, locals := 0 })
theorem ok_Hulls_layerBits : MOK M_Hulls_layerBits := ⟨by decide, wd_827, rfl, rfl, rfl, fOK_4, (fun i v h => by cases h)⟩
theorem ds_Hulls_layerBits : (mY M_Hulls_layerBits).cls ≠ "java/lang/invoke/MethodHandle" ∧ (mY M_Hulls_layerBits).cls ≠ "java/lang/invoke/VarHandle" ∧ (parseMethodDescriptor (mY M_Hulls_layerBits).desc).map (fun d => d.parameters.length) = some 1 := ⟨by decide +kernel, by decide +kernel, by decide +kernel⟩
def M_Cloud_turnOf : MI := (⟨"CloudDepth$Cloud", "turnOf", "(III)I"⟩, prog_2_method_15_code, 4, (some .int), "CloudDepth$Cloud", mF_0, (fun _ => none), { frames := 1, cells := 0, slots := 0, locals := 24 })
theorem ok_Cloud_turnOf : MOK M_Cloud_turnOf := ⟨by decide, wd_828, rfl, rfl, rfl, fOK_0, (fun i v h => by cases h)⟩
theorem ds_Cloud_turnOf : (mY M_Cloud_turnOf).cls ≠ "java/lang/invoke/MethodHandle" ∧ (mY M_Cloud_turnOf).cls ≠ "java/lang/invoke/VarHandle" ∧ (parseMethodDescriptor (mY M_Cloud_turnOf).desc).map (fun d => d.parameters.length) = some 3 := ⟨by decide +kernel, by decide +kernel, by decide +kernel⟩
def M_Cloud_wayAlong : MI := (⟨"CloudDepth$Cloud", "wayAlong", "(III)I"⟩, prog_2_method_18_code, 4, (some .int), "CloudDepth$Cloud", mF_0, (fun _ => none), { frames := 0, cells := 0, slots := 0, locals := 0 })
theorem ok_Cloud_wayAlong : MOK M_Cloud_wayAlong := ⟨by decide, wd_829, rfl, rfl, rfl, fOK_0, (fun i v h => by cases h)⟩
theorem ds_Cloud_wayAlong : (mY M_Cloud_wayAlong).cls ≠ "java/lang/invoke/MethodHandle" ∧ (mY M_Cloud_wayAlong).cls ≠ "java/lang/invoke/VarHandle" ∧ (parseMethodDescriptor (mY M_Cloud_wayAlong).desc).map (fun d => d.parameters.length) = some 3 := ⟨by decide +kernel, by decide +kernel, by decide +kernel⟩
def M_Hulls_isBetweenOthers : MI := (⟨"CloudDepth$Hulls", "isBetweenOthers", "(LCloudDepth$Cloud;II)Z"⟩, prog_6_method_11_code, 5, (some .boolean), "CloudDepth$Hulls", mF_4, (fun _ => none), { frames := 2, cells := 0, slots := 0, locals := 47 })
theorem ok_Hulls_isBetweenOthers : MOK M_Hulls_isBetweenOthers := ⟨by decide, wd_830, rfl, rfl, rfl, fOK_4, (fun i v h => by cases h)⟩
theorem ds_Hulls_isBetweenOthers : (mY M_Hulls_isBetweenOthers).cls ≠ "java/lang/invoke/MethodHandle" ∧ (mY M_Hulls_isBetweenOthers).cls ≠ "java/lang/invoke/VarHandle" ∧ (parseMethodDescriptor (mY M_Hulls_isBetweenOthers).desc).map (fun d => d.parameters.length) = some 3 := ⟨by decide +kernel, by decide +kernel, by decide +kernel⟩
def M_Hulls_cornersOf : MI := (⟨"CloudDepth$Hulls", "cornersOf", "(LCloudDepth$Cloud;I)I"⟩, prog_6_method_8_code, 5, (some .int), "CloudDepth$Hulls", mF_4, (fun _ => none), { frames := 4, cells := 0, slots := 0, locals := 95 })
theorem ok_Hulls_cornersOf : MOK M_Hulls_cornersOf := ⟨by decide, wd_831, rfl, rfl, rfl, fOK_4, (fun i v h => by cases h)⟩
theorem ds_Hulls_cornersOf : (mY M_Hulls_cornersOf).cls ≠ "java/lang/invoke/MethodHandle" ∧ (mY M_Hulls_cornersOf).cls ≠ "java/lang/invoke/VarHandle" ∧ (parseMethodDescriptor (mY M_Hulls_cornersOf).desc).map (fun d => d.parameters.length) = some 2 := ⟨by decide +kernel, by decide +kernel, by decide +kernel⟩
def M_Shapes_squareApart : MI := (⟨"CloudDepth$Shapes", "squareApart", "(LCloudDepth$Cloud;III)I"⟩, prog_9_method_20_code, 6, (some .int), "CloudDepth$Shapes", mF_7, (fun _ => none), { frames := 0, cells := 0, slots := 0, locals := 0 })
theorem ok_Shapes_squareApart : MOK M_Shapes_squareApart := ⟨by decide, wd_832, rfl, rfl, rfl, fOK_7, (fun i v h => by cases h)⟩
theorem ds_Shapes_squareApart : (mY M_Shapes_squareApart).cls ≠ "java/lang/invoke/MethodHandle" ∧ (mY M_Shapes_squareApart).cls ≠ "java/lang/invoke/VarHandle" ∧ (parseMethodDescriptor (mY M_Shapes_squareApart).desc).map (fun d => d.parameters.length) = some 4 := ⟨by decide +kernel, by decide +kernel, by decide +kernel⟩
def M_Shapes_isNearest : MI := (⟨"CloudDepth$Shapes", "isNearest", "(LCloudDepth$Cloud;III)Z"⟩, prog_9_method_19_code, 6, (some .boolean), "CloudDepth$Shapes", mF_7, (fun _ => none), { frames := 1, cells := 0, slots := 0, locals := 25 })
theorem ok_Shapes_isNearest : MOK M_Shapes_isNearest := ⟨by decide, wd_833, rfl, rfl, rfl, fOK_7, (fun i v h => by cases h)⟩
theorem ds_Shapes_isNearest : (mY M_Shapes_isNearest).cls ≠ "java/lang/invoke/MethodHandle" ∧ (mY M_Shapes_isNearest).cls ≠ "java/lang/invoke/VarHandle" ∧ (parseMethodDescriptor (mY M_Shapes_isNearest).desc).map (fun d => d.parameters.length) = some 4 := ⟨by decide +kernel, by decide +kernel, by decide +kernel⟩
def M_Shapes_shareOf : MI := (⟨"CloudDepth$Shapes", "shareOf", "(LCloudDepth$Cloud;I)I"⟩, prog_9_method_18_code, 6, (some .int), "CloudDepth$Shapes", mF_7, (fun _ => none), { frames := 2, cells := 0, slots := 0, locals := 50 })
theorem ok_Shapes_shareOf : MOK M_Shapes_shareOf := ⟨by decide, wd_834, rfl, rfl, rfl, fOK_7, (fun i v h => by cases h)⟩
theorem ds_Shapes_shareOf : (mY M_Shapes_shareOf).cls ≠ "java/lang/invoke/MethodHandle" ∧ (mY M_Shapes_shareOf).cls ≠ "java/lang/invoke/VarHandle" ∧ (parseMethodDescriptor (mY M_Shapes_shareOf).desc).map (fun d => d.parameters.length) = some 2 := ⟨by decide +kernel, by decide +kernel, by decide +kernel⟩
def M_C_point : MI := (⟨"CloudDepth", "point", "(II)I"⟩, prog_1_method_16_code, 3, (some .int), "CloudDepth", mF_11, mK_C, { frames := 5, cells := 0, slots := 0, locals := 119 })
theorem ok_C_point : MOK M_C_point := ⟨by decide, wd_835, rfl, rfl, rfl, fOK_11, kOK_C⟩
theorem ds_C_point : (mY M_C_point).cls ≠ "java/lang/invoke/MethodHandle" ∧ (mY M_C_point).cls ≠ "java/lang/invoke/VarHandle" ∧ (parseMethodDescriptor (mY M_C_point).desc).map (fun d => d.parameters.length) = some 2 := ⟨by decide +kernel, by decide +kernel, by decide +kernel⟩
def M_R_full : MI := (⟨"CloudDepthModel", "full", "()I"⟩, prog_14_method_29_code, 1, (some .int), "CloudDepthModel", mF_12, mK_R, { frames := 1, cells := 0, slots := 0, locals := 20 })
theorem ok_R_full : MOK M_R_full := ⟨by decide, wd_836, rfl, rfl, rfl, fOK_12, kOK_R⟩
theorem ds_R_full : (mY M_R_full).cls ≠ "java/lang/invoke/MethodHandle" ∧ (mY M_R_full).cls ≠ "java/lang/invoke/VarHandle" ∧ (parseMethodDescriptor (mY M_R_full).desc).map (fun d => d.parameters.length) = some 0 := ⟨by decide +kernel, by decide +kernel, by decide +kernel⟩
def M_R_has : MI := (⟨"CloudDepthModel", "has", "(II)Z"⟩, prog_14_method_26_code, 2, (some .boolean), "CloudDepthModel", mF_12, mK_R, { frames := 0, cells := 0, slots := 0, locals := 0 })
theorem ok_R_has : MOK M_R_has := ⟨by decide, wd_837, rfl, rfl, rfl, fOK_12, kOK_R⟩
theorem ds_R_has : (mY M_R_has).cls ≠ "java/lang/invoke/MethodHandle" ∧ (mY M_R_has).cls ≠ "java/lang/invoke/VarHandle" ∧ (parseMethodDescriptor (mY M_R_has).desc).map (fun d => d.parameters.length) = some 2 := ⟨by decide +kernel, by decide +kernel, by decide +kernel⟩
def M_R_turnOf : MI := (⟨"CloudDepthModel", "turnOf", "(IIII)I"⟩, prog_14_method_44_code, 5, (some .int), "CloudDepthModel", mF_12, mK_R, { frames := 1, cells := 0, slots := 0, locals := 21 })
theorem ok_R_turnOf : MOK M_R_turnOf := ⟨by decide, wd_838, rfl, rfl, rfl, fOK_12, kOK_R⟩
theorem ds_R_turnOf : (mY M_R_turnOf).cls ≠ "java/lang/invoke/MethodHandle" ∧ (mY M_R_turnOf).cls ≠ "java/lang/invoke/VarHandle" ∧ (parseMethodDescriptor (mY M_R_turnOf).desc).map (fun d => d.parameters.length) = some 4 := ⟨by decide +kernel, by decide +kernel, by decide +kernel⟩
def M_R_sideOf : MI := (⟨"CloudDepthModel", "sideOf", "(III)I"⟩, prog_14_method_45_code, 5, (some .int), "CloudDepthModel", mF_12, mK_R, { frames := 2, cells := 0, slots := 0, locals := 45 })
theorem ok_R_sideOf : MOK M_R_sideOf := ⟨by decide, wd_839, rfl, rfl, rfl, fOK_12, kOK_R⟩
theorem ds_R_sideOf : (mY M_R_sideOf).cls ≠ "java/lang/invoke/MethodHandle" ∧ (mY M_R_sideOf).cls ≠ "java/lang/invoke/VarHandle" ∧ (parseMethodDescriptor (mY M_R_sideOf).desc).map (fun d => d.parameters.length) = some 3 := ⟨by decide +kernel, by decide +kernel, by decide +kernel⟩
def M_R_onSide : MI := (⟨"CloudDepthModel", "onSide", "(IIII)I"⟩, prog_14_method_47_code, 7, (some .int), "CloudDepthModel", mF_12, mK_R, { frames := 3, cells := 0, slots := 0, locals := 69 })
theorem ok_R_onSide : MOK M_R_onSide := ⟨by decide, wd_840, rfl, rfl, rfl, fOK_12, kOK_R⟩
theorem ds_R_onSide : (mY M_R_onSide).cls ≠ "java/lang/invoke/MethodHandle" ∧ (mY M_R_onSide).cls ≠ "java/lang/invoke/VarHandle" ∧ (parseMethodDescriptor (mY M_R_onSide).desc).map (fun d => d.parameters.length) = some 4 := ⟨by decide +kernel, by decide +kernel, by decide +kernel⟩
def M_R_isRim : MI := (⟨"CloudDepthModel", "isRim", "(II)Z"⟩, prog_14_method_50_code, 4, (some .boolean), "CloudDepthModel", mF_12, mK_R, { frames := 4, cells := 0, slots := 0, locals := 95 })
theorem ok_R_isRim : MOK M_R_isRim := ⟨by decide, wd_841, rfl, rfl, rfl, fOK_12, kOK_R⟩
theorem ds_R_isRim : (mY M_R_isRim).cls ≠ "java/lang/invoke/MethodHandle" ∧ (mY M_R_isRim).cls ≠ "java/lang/invoke/VarHandle" ∧ (parseMethodDescriptor (mY M_R_isRim).desc).map (fun d => d.parameters.length) = some 2 := ⟨by decide +kernel, by decide +kernel, by decide +kernel⟩
def M_R_hullOf : MI := (⟨"CloudDepthModel", "hullOf", "(I)I"⟩, prog_14_method_51_code, 4, (some .int), "CloudDepthModel", mF_12, mK_R, { frames := 5, cells := 0, slots := 0, locals := 118 })
theorem ok_R_hullOf : MOK M_R_hullOf := ⟨by decide, wd_842, rfl, rfl, rfl, fOK_12, kOK_R⟩
theorem ds_R_hullOf : (mY M_R_hullOf).cls ≠ "java/lang/invoke/MethodHandle" ∧ (mY M_R_hullOf).cls ≠ "java/lang/invoke/VarHandle" ∧ (parseMethodDescriptor (mY M_R_hullOf).desc).map (fun d => d.parameters.length) = some 1 := ⟨by decide +kernel, by decide +kernel, by decide +kernel⟩
def M_R_laysLayers : MI := (⟨"CloudDepthModel", "laysLayers", "()I"⟩, prog_14_method_53_code, 3, (some .int), "CloudDepthModel", mF_12, mK_R, { frames := 6, cells := 0, slots := 0, locals := 141 })
theorem ok_R_laysLayers : MOK M_R_laysLayers := ⟨by decide, wd_843, rfl, rfl, rfl, fOK_12, kOK_R⟩
theorem ds_R_laysLayers : (mY M_R_laysLayers).cls ≠ "java/lang/invoke/MethodHandle" ∧ (mY M_R_laysLayers).cls ≠ "java/lang/invoke/VarHandle" ∧ (parseMethodDescriptor (mY M_R_laysLayers).desc).map (fun d => d.parameters.length) = some 0 := ⟨by decide +kernel, by decide +kernel, by decide +kernel⟩
def M_R_layerOf : MI := (⟨"CloudDepthModel", "layerOf", "(I)I"⟩, prog_14_method_57_code, 4, (some .int), "CloudDepthModel", mF_12, mK_R, { frames := 7, cells := 0, slots := 0, locals := 163 })
theorem ok_R_layerOf : MOK M_R_layerOf := ⟨by decide, wd_844, rfl, rfl, rfl, fOK_12, kOK_R⟩
theorem ds_R_layerOf : (mY M_R_layerOf).cls ≠ "java/lang/invoke/MethodHandle" ∧ (mY M_R_layerOf).cls ≠ "java/lang/invoke/VarHandle" ∧ (parseMethodDescriptor (mY M_R_layerOf).desc).map (fun d => d.parameters.length) = some 1 := ⟨by decide +kernel, by decide +kernel, by decide +kernel⟩
def M_R_lesser : MI := (⟨"CloudDepthModel", "lesser", "(II)I"⟩, prog_14_method_80_code, 2, (some .int), "CloudDepthModel", mF_12, mK_R, { frames := 0, cells := 0, slots := 0, locals := 0 })
theorem ok_R_lesser : MOK M_R_lesser := ⟨by decide, wd_845, rfl, rfl, rfl, fOK_12, kOK_R⟩
theorem ds_R_lesser : (mY M_R_lesser).cls ≠ "java/lang/invoke/MethodHandle" ∧ (mY M_R_lesser).cls ≠ "java/lang/invoke/VarHandle" ∧ (parseMethodDescriptor (mY M_R_lesser).desc).map (fun d => d.parameters.length) = some 2 := ⟨by decide +kernel, by decide +kernel, by decide +kernel⟩
def M_R_depthOf : MI := (⟨"CloudDepthModel", "depthOf", "(II)I"⟩, prog_14_method_81_code, 17, (some .int), "CloudDepthModel", mF_12, mK_R, { frames := 2, cells := 0, slots := 0, locals := 44 })
theorem ok_R_depthOf : MOK M_R_depthOf := ⟨by decide, wd_846, rfl, rfl, rfl, fOK_12, kOK_R⟩
theorem ds_R_depthOf : (mY M_R_depthOf).cls ≠ "java/lang/invoke/MethodHandle" ∧ (mY M_R_depthOf).cls ≠ "java/lang/invoke/VarHandle" ∧ (parseMethodDescriptor (mY M_R_depthOf).desc).map (fun d => d.parameters.length) = some 2 := ⟨by decide +kernel, by decide +kernel, by decide +kernel⟩
def M_R_isBetween : MI := (⟨"CloudDepthModel", "isBetween", "(III)Z"⟩, prog_14_method_49_code, 4, (some .boolean), "CloudDepthModel", mF_12, mK_R, { frames := 3, cells := 0, slots := 0, locals := 69 })
theorem ok_R_isBetween : MOK M_R_isBetween := ⟨by decide, wd_847, rfl, rfl, rfl, fOK_12, kOK_R⟩
theorem ds_R_isBetween : (mY M_R_isBetween).cls ≠ "java/lang/invoke/MethodHandle" ∧ (mY M_R_isBetween).cls ≠ "java/lang/invoke/VarHandle" ∧ (parseMethodDescriptor (mY M_R_isBetween).desc).map (fun d => d.parameters.length) = some 3 := ⟨by decide +kernel, by decide +kernel, by decide +kernel⟩
def M_R_cornersOf : MI := (⟨"CloudDepthModel", "cornersOf", "(I)I"⟩, prog_14_method_52_code, 7, (some .int), "CloudDepthModel", mF_12, mK_R, { frames := 6, cells := 0, slots := 0, locals := 141 })
theorem ok_R_cornersOf : MOK M_R_cornersOf := ⟨by decide, wd_848, rfl, rfl, rfl, fOK_12, kOK_R⟩
theorem ds_R_cornersOf : (mY M_R_cornersOf).cls ≠ "java/lang/invoke/MethodHandle" ∧ (mY M_R_cornersOf).cls ≠ "java/lang/invoke/VarHandle" ∧ (parseMethodDescriptor (mY M_R_cornersOf).desc).map (fun d => d.parameters.length) = some 1 := ⟨by decide +kernel, by decide +kernel, by decide +kernel⟩
def M_R_isLayersCorner : MI := (⟨"CloudDepthModel", "isLayersCorner", "(I)Z"⟩, prog_14_method_90_code, 3, (some .boolean), "CloudDepthModel", mF_12, mK_R, { frames := 8, cells := 0, slots := 0, locals := 186 })
theorem ok_R_isLayersCorner : MOK M_R_isLayersCorner := ⟨by decide, wd_849, rfl, rfl, rfl, fOK_12, kOK_R⟩
theorem ds_R_isLayersCorner : (mY M_R_isLayersCorner).cls ≠ "java/lang/invoke/MethodHandle" ∧ (mY M_R_isLayersCorner).cls ≠ "java/lang/invoke/VarHandle" ∧ (parseMethodDescriptor (mY M_R_isLayersCorner).desc).map (fun d => d.parameters.length) = some 1 := ⟨by decide +kernel, by decide +kernel, by decide +kernel⟩
def M_R_apart : MI := (⟨"CloudDepthModel", "apart", "(III)I"⟩, prog_14_method_87_code, 4, (some .int), "CloudDepthModel", mF_12, mK_R, { frames := 1, cells := 0, slots := 0, locals := 21 })
theorem ok_R_apart : MOK M_R_apart := ⟨by decide, wd_850, rfl, rfl, rfl, fOK_12, kOK_R⟩
theorem ds_R_apart : (mY M_R_apart).cls ≠ "java/lang/invoke/MethodHandle" ∧ (mY M_R_apart).cls ≠ "java/lang/invoke/VarHandle" ∧ (parseMethodDescriptor (mY M_R_apart).desc).map (fun d => d.parameters.length) = some 3 := ⟨by decide +kernel, by decide +kernel, by decide +kernel⟩
def M_R_shareOf : MI := (⟨"CloudDepthModel", "shareOf", "(I)I"⟩, prog_14_method_88_code, 8, (some .int), "CloudDepthModel", mF_12, mK_R, { frames := 2, cells := 0, slots := 0, locals := 44 })
theorem ok_R_shareOf : MOK M_R_shareOf := ⟨by decide, wd_851, rfl, rfl, rfl, fOK_12, kOK_R⟩
theorem ds_R_shareOf : (mY M_R_shareOf).cls ≠ "java/lang/invoke/MethodHandle" ∧ (mY M_R_shareOf).cls ≠ "java/lang/invoke/VarHandle" ∧ (parseMethodDescriptor (mY M_R_shareOf).desc).map (fun d => d.parameters.length) = some 1 := ⟨by decide +kernel, by decide +kernel, by decide +kernel⟩
def M_R_point : MI := (⟨"CloudDepthModel", "point", "(II)I"⟩, prog_14_method_89_code, 3, (some .int), "CloudDepthModel", mF_12, mK_R, { frames := 9, cells := 0, slots := 0, locals := 208 })
theorem ok_R_point : MOK M_R_point := ⟨by decide, wd_852, rfl, rfl, rfl, fOK_12, kOK_R⟩
theorem ds_R_point : (mY M_R_point).cls ≠ "java/lang/invoke/MethodHandle" ∧ (mY M_R_point).cls ≠ "java/lang/invoke/VarHandle" ∧ (parseMethodDescriptor (mY M_R_point).desc).map (fun d => d.parameters.length) = some 2 := ⟨by decide +kernel, by decide +kernel, by decide +kernel⟩
def M_C_turned : MI := (⟨"CloudDepth", "turned", "(IIII)I"⟩, prog_1_method_17_code, 6, (some .int), "CloudDepth", mF_11, mK_C, { frames := 2, cells := 0, slots := 0, locals := 47 })
theorem ok_C_turned : MOK M_C_turned := ⟨by decide, wd_853, rfl, rfl, rfl, fOK_11, kOK_C⟩
theorem ds_C_turned : (mY M_C_turned).cls ≠ "java/lang/invoke/MethodHandle" ∧ (mY M_C_turned).cls ≠ "java/lang/invoke/VarHandle" ∧ (parseMethodDescriptor (mY M_C_turned).desc).map (fun d => d.parameters.length) = some 4 := ⟨by decide +kernel, by decide +kernel, by decide +kernel⟩
def M_R_turned : MI := (⟨"CloudDepthModel", "turned", "(IIII)I"⟩, prog_14_method_46_code, 5, (some .int), "CloudDepthModel", mF_12, mK_R, { frames := 3, cells := 0, slots := 0, locals := 69 })
theorem ok_R_turned : MOK M_R_turned := ⟨by decide, wd_854, rfl, rfl, rfl, fOK_12, kOK_R⟩
theorem ds_R_turned : (mY M_R_turned).cls ≠ "java/lang/invoke/MethodHandle" ∧ (mY M_R_turned).cls ≠ "java/lang/invoke/VarHandle" ∧ (parseMethodDescriptor (mY M_R_turned).desc).map (fun d => d.parameters.length) = some 4 := ⟨by decide +kernel, by decide +kernel, by decide +kernel⟩
def M_J_bitCount : MI := (⟨"java/lang/Integer", "bitCount", "(I)I"⟩, prog_15_method_49_code, 1, (some .int), "java/lang/Integer", (fun _ => none), mK_J, { frames := 0, cells := 0, slots := 0, locals := 0 })
theorem ok_J_bitCount : MOK M_J_bitCount := ⟨by decide, wd_855, rfl, rfl, rfl, (fun i c k h => by cases h), kOK_J⟩
theorem ds_J_bitCount : (mY M_J_bitCount).cls ≠ "java/lang/invoke/MethodHandle" ∧ (mY M_J_bitCount).cls ≠ "java/lang/invoke/VarHandle" ∧ (parseMethodDescriptor (mY M_J_bitCount).desc).map (fun d => d.parameters.length) = some 1 := ⟨by decide +kernel, by decide +kernel, by decide +kernel⟩
def M_C_sides : MI := (⟨"CloudDepth", "sides", "(III)I"⟩, prog_1_method_18_code, 4, (some .int), "CloudDepth", mF_11, mK_C, { frames := 2, cells := 0, slots := 0, locals := 49 })
theorem ok_C_sides : MOK M_C_sides := ⟨by decide, wd_856, rfl, rfl, rfl, fOK_11, kOK_C⟩
theorem ds_C_sides : (mY M_C_sides).cls ≠ "java/lang/invoke/MethodHandle" ∧ (mY M_C_sides).cls ≠ "java/lang/invoke/VarHandle" ∧ (parseMethodDescriptor (mY M_C_sides).desc).map (fun d => d.parameters.length) = some 3 := ⟨by decide +kernel, by decide +kernel, by decide +kernel⟩
def M_R_bitsOf : MI := (⟨"CloudDepthModel", "bitsOf", "(I)I"⟩, prog_14_method_27_code, 3, (some .int), "CloudDepthModel", mF_12, mK_R, { frames := 0, cells := 0, slots := 0, locals := 0 })
theorem ok_R_bitsOf : MOK M_R_bitsOf := ⟨by decide, wd_857, rfl, rfl, rfl, fOK_12, kOK_R⟩
theorem ds_R_bitsOf : (mY M_R_bitsOf).cls ≠ "java/lang/invoke/MethodHandle" ∧ (mY M_R_bitsOf).cls ≠ "java/lang/invoke/VarHandle" ∧ (parseMethodDescriptor (mY M_R_bitsOf).desc).map (fun d => d.parameters.length) = some 1 := ⟨by decide +kernel, by decide +kernel, by decide +kernel⟩
def M_R_sides : MI := (⟨"CloudDepthModel", "sides", "(III)I"⟩, prog_14_method_48_code, 5, (some .int), "CloudDepthModel", mF_12, mK_R, { frames := 4, cells := 0, slots := 0, locals := 95 })
theorem ok_R_sides : MOK M_R_sides := ⟨by decide, wd_858, rfl, rfl, rfl, fOK_12, kOK_R⟩
theorem ds_R_sides : (mY M_R_sides).cls ≠ "java/lang/invoke/MethodHandle" ∧ (mY M_R_sides).cls ≠ "java/lang/invoke/VarHandle" ∧ (parseMethodDescriptor (mY M_R_sides).desc).map (fun d => d.parameters.length) = some 3 := ⟨by decide +kernel, by decide +kernel, by decide +kernel⟩
def M_Hulls_lowestOf : MI := (⟨"CloudDepth$Hulls", "lowestOf", "(LCloudDepth$Cloud;I)I"⟩, prog_6_method_12_code, 4, (some .int), "CloudDepth$Hulls", mF_4, (fun _ => none), { frames := 1, cells := 0, slots := 0, locals := 21 })
theorem ok_Hulls_lowestOf : MOK M_Hulls_lowestOf := ⟨by decide, wd_859, rfl, rfl, rfl, fOK_4, (fun i v h => by cases h)⟩
theorem ds_Hulls_lowestOf : (mY M_Hulls_lowestOf).cls ≠ "java/lang/invoke/MethodHandle" ∧ (mY M_Hulls_lowestOf).cls ≠ "java/lang/invoke/VarHandle" ∧ (parseMethodDescriptor (mY M_Hulls_lowestOf).desc).map (fun d => d.parameters.length) = some 2 := ⟨by decide +kernel, by decide +kernel, by decide +kernel⟩
def M_Hulls_nextCorner : MI := (⟨"CloudDepth$Hulls", "nextCorner", "(LCloudDepth$Cloud;II)I"⟩, prog_6_method_13_code, 4, (some .int), "CloudDepth$Hulls", mF_4, (fun _ => none), { frames := 2, cells := 0, slots := 0, locals := 49 })
theorem ok_Hulls_nextCorner : MOK M_Hulls_nextCorner := ⟨by decide, wd_860, rfl, rfl, rfl, fOK_4, (fun i v h => by cases h)⟩
theorem ds_Hulls_nextCorner : (mY M_Hulls_nextCorner).cls ≠ "java/lang/invoke/MethodHandle" ∧ (mY M_Hulls_nextCorner).cls ≠ "java/lang/invoke/VarHandle" ∧ (parseMethodDescriptor (mY M_Hulls_nextCorner).desc).map (fun d => d.parameters.length) = some 3 := ⟨by decide +kernel, by decide +kernel, by decide +kernel⟩
def M_Hulls_walk : MI := (⟨"CloudDepth$Hulls", "walk", "(LCloudDepth$Cloud;)V"⟩, prog_6_method_5_code, 6, none, "CloudDepth$Hulls", mF_4, (fun _ => none), { frames := 5, cells := 0, slots := 0, locals := 119 })
theorem ok_Hulls_walk : MOK M_Hulls_walk := ⟨by decide, wd_861, rfl, rfl, rfl, fOK_4, (fun i v h => by cases h)⟩
theorem ds_Hulls_walk : (mY M_Hulls_walk).cls ≠ "java/lang/invoke/MethodHandle" ∧ (mY M_Hulls_walk).cls ≠ "java/lang/invoke/VarHandle" ∧ (parseMethodDescriptor (mY M_Hulls_walk).desc).map (fun d => d.parameters.length) = some 1 := ⟨by decide +kernel, by decide +kernel, by decide +kernel⟩
def M_Hulls_cornerAt : MI := (⟨"CloudDepth$Hulls", "cornerAt", "(I)I"⟩, prog_6_method_6_code, 2, (some .int), "CloudDepth$Hulls", mF_4, (fun _ => none), { frames := 0, cells := 0, slots := 0, locals := 0 })
theorem ok_Hulls_cornerAt : MOK M_Hulls_cornerAt := ⟨by decide, wd_862, rfl, rfl, rfl, fOK_4, (fun i v h => by cases h)⟩
theorem ds_Hulls_cornerAt : (mY M_Hulls_cornerAt).cls ≠ "java/lang/invoke/MethodHandle" ∧ (mY M_Hulls_cornerAt).cls ≠ "java/lang/invoke/VarHandle" ∧ (parseMethodDescriptor (mY M_Hulls_cornerAt).desc).map (fun d => d.parameters.length) = some 1 := ⟨by decide +kernel, by decide +kernel, by decide +kernel⟩
def M_C_corner : MI := (⟨"CloudDepth", "corner", "(I)I"⟩, prog_1_method_19_code, 2, (some .int), "CloudDepth", mF_11, mK_C, { frames := 6, cells := 0, slots := 0, locals := 144 })
theorem ok_C_corner : MOK M_C_corner := ⟨by decide, wd_863, rfl, rfl, rfl, fOK_11, kOK_C⟩
theorem ds_C_corner : (mY M_C_corner).cls ≠ "java/lang/invoke/MethodHandle" ∧ (mY M_C_corner).cls ≠ "java/lang/invoke/VarHandle" ∧ (parseMethodDescriptor (mY M_C_corner).desc).map (fun d => d.parameters.length) = some 1 := ⟨by decide +kernel, by decide +kernel, by decide +kernel⟩
def M_R_laysCorners : MI := (⟨"CloudDepthModel", "laysCorners", "()I"⟩, prog_14_method_54_code, 8, (some .int), "CloudDepthModel", mF_12, mK_R, { frames := 7, cells := 0, slots := 0, locals := 167 })
theorem ok_R_laysCorners : MOK M_R_laysCorners := ⟨by decide, wd_864, rfl, rfl, rfl, fOK_12, kOK_R⟩
theorem ds_R_laysCorners : (mY M_R_laysCorners).cls ≠ "java/lang/invoke/MethodHandle" ∧ (mY M_R_laysCorners).cls ≠ "java/lang/invoke/VarHandle" ∧ (parseMethodDescriptor (mY M_R_laysCorners).desc).map (fun d => d.parameters.length) = some 0 := ⟨by decide +kernel, by decide +kernel, by decide +kernel⟩
def M_R_corner : MI := (⟨"CloudDepthModel", "corner", "(I)I"⟩, prog_14_method_55_code, 3, (some .int), "CloudDepthModel", mF_12, mK_R, { frames := 8, cells := 0, slots := 0, locals := 194 })
theorem ok_R_corner : MOK M_R_corner := ⟨by decide, wd_865, rfl, rfl, rfl, fOK_12, kOK_R⟩
theorem ds_R_corner : (mY M_R_corner).cls ≠ "java/lang/invoke/MethodHandle" ∧ (mY M_R_corner).cls ≠ "java/lang/invoke/VarHandle" ∧ (parseMethodDescriptor (mY M_R_corner).desc).map (fun d => d.parameters.length) = some 1 := ⟨by decide +kernel, by decide +kernel, by decide +kernel⟩
def M_C_layer : MI := (⟨"CloudDepth", "layer", "(I)I"⟩, prog_1_method_20_code, 2, (some .int), "CloudDepth", mF_11, mK_C, { frames := 5, cells := 0, slots := 0, locals := 118 })
theorem ok_C_layer : MOK M_C_layer := ⟨by decide, wd_866, rfl, rfl, rfl, fOK_11, kOK_C⟩
theorem ds_C_layer : (mY M_C_layer).cls ≠ "java/lang/invoke/MethodHandle" ∧ (mY M_C_layer).cls ≠ "java/lang/invoke/VarHandle" ∧ (parseMethodDescriptor (mY M_C_layer).desc).map (fun d => d.parameters.length) = some 1 := ⟨by decide +kernel, by decide +kernel, by decide +kernel⟩
def M_R_layer : MI := (⟨"CloudDepthModel", "layer", "(I)I"⟩, prog_14_method_56_code, 3, (some .int), "CloudDepthModel", mF_12, mK_R, { frames := 7, cells := 0, slots := 0, locals := 163 })
theorem ok_R_layer : MOK M_R_layer := ⟨by decide, wd_867, rfl, rfl, rfl, fOK_12, kOK_R⟩
theorem ds_R_layer : (mY M_R_layer).cls ≠ "java/lang/invoke/MethodHandle" ∧ (mY M_R_layer).cls ≠ "java/lang/invoke/VarHandle" ∧ (parseMethodDescriptor (mY M_R_layer).desc).map (fun d => d.parameters.length) = some 1 := ⟨by decide +kernel, by decide +kernel, by decide +kernel⟩
def M_C_edges : MI := (⟨"CloudDepth", "edges", "(I)I"⟩, prog_1_method_21_code, 5, (some .int), "CloudDepth", mF_11, mK_C, { frames := 2, cells := 0, slots := 0, locals := 49 })
theorem ok_C_edges : MOK M_C_edges := ⟨by decide, wd_868, rfl, rfl, rfl, fOK_11, kOK_C⟩
theorem ds_C_edges : (mY M_C_edges).cls ≠ "java/lang/invoke/MethodHandle" ∧ (mY M_C_edges).cls ≠ "java/lang/invoke/VarHandle" ∧ (parseMethodDescriptor (mY M_C_edges).desc).map (fun d => d.parameters.length) = some 1 := ⟨by decide +kernel, by decide +kernel, by decide +kernel⟩
def M_R_edges : MI := (⟨"CloudDepthModel", "edges", "(I)I"⟩, prog_14_method_59_code, 5, (some .int), "CloudDepthModel", mF_12, mK_R, { frames := 4, cells := 0, slots := 0, locals := 95 })
theorem ok_R_edges : MOK M_R_edges := ⟨by decide, wd_869, rfl, rfl, rfl, fOK_12, kOK_R⟩
theorem ds_R_edges : (mY M_R_edges).cls ≠ "java/lang/invoke/MethodHandle" ∧ (mY M_R_edges).cls ≠ "java/lang/invoke/VarHandle" ∧ (parseMethodDescriptor (mY M_R_edges).desc).map (fun d => d.parameters.length) = some 1 := ⟨by decide +kernel, by decide +kernel, by decide +kernel⟩
def M_Cloud_isHalved : MI := (⟨"CloudDepth$Cloud", "isHalved", "(III)Z"⟩, prog_2_method_17_code, 5, (some .boolean), "CloudDepth$Cloud", mF_0, (fun _ => none), { frames := 2, cells := 0, slots := 0, locals := 49 })
theorem ok_Cloud_isHalved : MOK M_Cloud_isHalved := ⟨by decide, wd_870, rfl, rfl, rfl, fOK_0, (fun i v h => by cases h)⟩
theorem ds_Cloud_isHalved : (mY M_Cloud_isHalved).cls ≠ "java/lang/invoke/MethodHandle" ∧ (mY M_Cloud_isHalved).cls ≠ "java/lang/invoke/VarHandle" ∧ (parseMethodDescriptor (mY M_Cloud_isHalved).desc).map (fun d => d.parameters.length) = some 3 := ⟨by decide +kernel, by decide +kernel, by decide +kernel⟩
def M_C_halving : MI := (⟨"CloudDepth", "halving", "(I)I"⟩, prog_1_method_22_code, 5, (some .int), "CloudDepth", mF_11, mK_C, { frames := 3, cells := 0, slots := 0, locals := 73 })
theorem ok_C_halving : MOK M_C_halving := ⟨by decide, wd_871, rfl, rfl, rfl, fOK_11, kOK_C⟩
theorem ds_C_halving : (mY M_C_halving).cls ≠ "java/lang/invoke/MethodHandle" ∧ (mY M_C_halving).cls ≠ "java/lang/invoke/VarHandle" ∧ (parseMethodDescriptor (mY M_C_halving).desc).map (fun d => d.parameters.length) = some 1 := ⟨by decide +kernel, by decide +kernel, by decide +kernel⟩
def M_R_halves : MI := (⟨"CloudDepthModel", "halves", "(III)Z"⟩, prog_14_method_60_code, 5, (some .boolean), "CloudDepthModel", mF_12, mK_R, { frames := 4, cells := 0, slots := 0, locals := 95 })
theorem ok_R_halves : MOK M_R_halves := ⟨by decide, wd_872, rfl, rfl, rfl, fOK_12, kOK_R⟩
theorem ds_R_halves : (mY M_R_halves).cls ≠ "java/lang/invoke/MethodHandle" ∧ (mY M_R_halves).cls ≠ "java/lang/invoke/VarHandle" ∧ (parseMethodDescriptor (mY M_R_halves).desc).map (fun d => d.parameters.length) = some 3 := ⟨by decide +kernel, by decide +kernel, by decide +kernel⟩
def M_R_halving : MI := (⟨"CloudDepthModel", "halving", "(I)I"⟩, prog_14_method_61_code, 5, (some .int), "CloudDepthModel", mF_12, mK_R, { frames := 5, cells := 0, slots := 0, locals := 119 })
theorem ok_R_halving : MOK M_R_halving := ⟨by decide, wd_873, rfl, rfl, rfl, fOK_12, kOK_R⟩
theorem ds_R_halving : (mY M_R_halving).cls ≠ "java/lang/invoke/MethodHandle" ∧ (mY M_R_halving).cls ≠ "java/lang/invoke/VarHandle" ∧ (parseMethodDescriptor (mY M_R_halving).desc).map (fun d => d.parameters.length) = some 1 := ⟨by decide +kernel, by decide +kernel, by decide +kernel⟩
def M_J_fill : MI := (⟨"java/util/Arrays", "fill", "([II)V"⟩, prog_20_method_103_code, 4, none, "java/util/Arrays", (fun _ => none), (fun _ => none), { frames := 0, cells := 0, slots := 0, locals := 0 })
theorem ok_J_fill : MOK M_J_fill := ⟨by decide, wd_874, rfl, rfl, rfl, (fun i c k h => by cases h), (fun i v h => by cases h)⟩
theorem ds_J_fill : (mY M_J_fill).cls ≠ "java/lang/invoke/MethodHandle" ∧ (mY M_J_fill).cls ≠ "java/lang/invoke/VarHandle" ∧ (parseMethodDescriptor (mY M_J_fill).desc).map (fun d => d.parameters.length) = some 2 := ⟨by decide +kernel, by decide +kernel, by decide +kernel⟩
def M_SetMarks_clear : MI := (⟨"CloudDepth$SetMarks", "clear", "()V"⟩, prog_8_method_2_code, 1, none, "CloudDepth$SetMarks", mF_6, (fun _ => none), { frames := 1, cells := 0, slots := 0, locals := 23 })
theorem ok_SetMarks_clear : MOK M_SetMarks_clear := ⟨by decide, wd_875, rfl, rfl, rfl, fOK_6, (fun i v h => by cases h)⟩
theorem ds_SetMarks_clear : (mY M_SetMarks_clear).cls ≠ "java/lang/invoke/MethodHandle" ∧ (mY M_SetMarks_clear).cls ≠ "java/lang/invoke/VarHandle" ∧ (parseMethodDescriptor (mY M_SetMarks_clear).desc).map (fun d => d.parameters.length) = some 0 := ⟨by decide +kernel, by decide +kernel, by decide +kernel⟩
def M_SetMarks_mark : MI := (⟨"CloudDepth$SetMarks", "mark", "(I)V"⟩, prog_8_method_3_code, 2, none, "CloudDepth$SetMarks", mF_6, (fun _ => none), { frames := 0, cells := 0, slots := 0, locals := 0 })
theorem ok_SetMarks_mark : MOK M_SetMarks_mark := ⟨by decide, wd_876, rfl, rfl, rfl, fOK_6, (fun i v h => by cases h)⟩
theorem ds_SetMarks_mark : (mY M_SetMarks_mark).cls ≠ "java/lang/invoke/MethodHandle" ∧ (mY M_SetMarks_mark).cls ≠ "java/lang/invoke/VarHandle" ∧ (parseMethodDescriptor (mY M_SetMarks_mark).desc).map (fun d => d.parameters.length) = some 1 := ⟨by decide +kernel, by decide +kernel, by decide +kernel⟩
def M_Cuts_markBoth : MI := (⟨"CloudDepth$Cuts", "markBoth", "(IIII)V"⟩, prog_3_method_4_code, 6, none, "CloudDepth$Cuts", mF_1, (fun _ => none), { frames := 1, cells := 0, slots := 0, locals := 21 })
theorem ok_Cuts_markBoth : MOK M_Cuts_markBoth := ⟨by decide, wd_877, rfl, rfl, rfl, fOK_1, (fun i v h => by cases h)⟩
theorem ds_Cuts_markBoth : (mY M_Cuts_markBoth).cls ≠ "java/lang/invoke/MethodHandle" ∧ (mY M_Cuts_markBoth).cls ≠ "java/lang/invoke/VarHandle" ∧ (parseMethodDescriptor (mY M_Cuts_markBoth).desc).map (fun d => d.parameters.length) = some 4 := ⟨by decide +kernel, by decide +kernel, by decide +kernel⟩
def M_Cuts_upTo : MI := (⟨"CloudDepth$Cuts", "upTo", "(LCloudDepth$Cloud;III)I"⟩, prog_3_method_5_code, 7, (some .int), "CloudDepth$Cuts", mF_1, (fun _ => none), { frames := 1, cells := 0, slots := 0, locals := 23 })
theorem ok_Cuts_upTo : MOK M_Cuts_upTo := ⟨by decide, wd_878, rfl, rfl, rfl, fOK_1, (fun i v h => by cases h)⟩
theorem ds_Cuts_upTo : (mY M_Cuts_upTo).cls ≠ "java/lang/invoke/MethodHandle" ∧ (mY M_Cuts_upTo).cls ≠ "java/lang/invoke/VarHandle" ∧ (parseMethodDescriptor (mY M_Cuts_upTo).desc).map (fun d => d.parameters.length) = some 4 := ⟨by decide +kernel, by decide +kernel, by decide +kernel⟩
def M_Cuts_cutAlong : MI := (⟨"CloudDepth$Cuts", "cutAlong", "(LCloudDepth$Cloud;II)V"⟩, prog_3_method_3_code, 8, none, "CloudDepth$Cuts", mF_1, (fun _ => none), { frames := 2, cells := 0, slots := 0, locals := 49 })
theorem ok_Cuts_cutAlong : MOK M_Cuts_cutAlong := ⟨by decide, wd_879, rfl, rfl, rfl, fOK_1, (fun i v h => by cases h)⟩
theorem ds_Cuts_cutAlong : (mY M_Cuts_cutAlong).cls ≠ "java/lang/invoke/MethodHandle" ∧ (mY M_Cuts_cutAlong).cls ≠ "java/lang/invoke/VarHandle" ∧ (parseMethodDescriptor (mY M_Cuts_cutAlong).desc).map (fun d => d.parameters.length) = some 3 := ⟨by decide +kernel, by decide +kernel, by decide +kernel⟩
def M_Cuts_find : MI := (⟨"CloudDepth$Cuts", "find", "(LCloudDepth$Cloud;)V"⟩, prog_3_method_2_code, 4, none, "CloudDepth$Cuts", mF_1, (fun _ => none), { frames := 3, cells := 0, slots := 0, locals := 76 })
theorem ok_Cuts_find : MOK M_Cuts_find := ⟨by decide, wd_880, rfl, rfl, rfl, fOK_1, (fun i v h => by cases h)⟩
theorem ds_Cuts_find : (mY M_Cuts_find).cls ≠ "java/lang/invoke/MethodHandle" ∧ (mY M_Cuts_find).cls ≠ "java/lang/invoke/VarHandle" ∧ (parseMethodDescriptor (mY M_Cuts_find).desc).map (fun d => d.parameters.length) = some 1 := ⟨by decide +kernel, by decide +kernel, by decide +kernel⟩
def M_SetMarks_isMarked : MI := (⟨"CloudDepth$SetMarks", "isMarked", "(I)Z"⟩, prog_8_method_4_code, 2, (some .boolean), "CloudDepth$SetMarks", mF_6, (fun _ => none), { frames := 0, cells := 0, slots := 0, locals := 0 })
theorem ok_SetMarks_isMarked : MOK M_SetMarks_isMarked := ⟨by decide, wd_881, rfl, rfl, rfl, fOK_6, (fun i v h => by cases h)⟩
theorem ds_SetMarks_isMarked : (mY M_SetMarks_isMarked).cls ≠ "java/lang/invoke/MethodHandle" ∧ (mY M_SetMarks_isMarked).cls ≠ "java/lang/invoke/VarHandle" ∧ (parseMethodDescriptor (mY M_SetMarks_isMarked).desc).map (fun d => d.parameters.length) = some 1 := ⟨by decide +kernel, by decide +kernel, by decide +kernel⟩
def M_Cuts_countOfSize : MI := (⟨"CloudDepth$Cuts", "countOfSize", "(LCloudDepth$Cloud;I)I"⟩, prog_3_method_6_code, 5, (some .int), "CloudDepth$Cuts", mF_1, (fun _ => none), { frames := 1, cells := 0, slots := 0, locals := 21 })
theorem ok_Cuts_countOfSize : MOK M_Cuts_countOfSize := ⟨by decide, wd_882, rfl, rfl, rfl, fOK_1, (fun i v h => by cases h)⟩
theorem ds_Cuts_countOfSize : (mY M_Cuts_countOfSize).cls ≠ "java/lang/invoke/MethodHandle" ∧ (mY M_Cuts_countOfSize).cls ≠ "java/lang/invoke/VarHandle" ∧ (parseMethodDescriptor (mY M_Cuts_countOfSize).desc).map (fun d => d.parameters.length) = some 2 := ⟨by decide +kernel, by decide +kernel, by decide +kernel⟩
def M_C_cutOff : MI := (⟨"CloudDepth", "cutOff", "(I)I"⟩, prog_1_method_24_code, 2, (some .int), "CloudDepth", mF_11, mK_C, { frames := 4, cells := 0, slots := 0, locals := 99 })
theorem ok_C_cutOff : MOK M_C_cutOff := ⟨by decide, wd_883, rfl, rfl, rfl, fOK_11, kOK_C⟩
theorem ds_C_cutOff : (mY M_C_cutOff).cls ≠ "java/lang/invoke/MethodHandle" ∧ (mY M_C_cutOff).cls ≠ "java/lang/invoke/VarHandle" ∧ (parseMethodDescriptor (mY M_C_cutOff).desc).map (fun d => d.parameters.length) = some 1 := ⟨by decide +kernel, by decide +kernel, by decide +kernel⟩
def M_R_meets : MI := (⟨"CloudDepthModel", "meets", "(II)V"⟩, prog_14_method_63_code, 3, none, "CloudDepthModel", mF_12, mK_R, { frames := 0, cells := 0, slots := 0, locals := 0 })
theorem ok_R_meets : MOK M_R_meets := ⟨by decide, wd_884, rfl, rfl, rfl, fOK_12, kOK_R⟩
theorem ds_R_meets : (mY M_R_meets).cls ≠ "java/lang/invoke/MethodHandle" ∧ (mY M_R_meets).cls ≠ "java/lang/invoke/VarHandle" ∧ (parseMethodDescriptor (mY M_R_meets).desc).map (fun d => d.parameters.length) = some 2 := ⟨by decide +kernel, by decide +kernel, by decide +kernel⟩
def M_R_isWithin : MI := (⟨"CloudDepthModel", "isWithin", "(IIII)Z"⟩, prog_14_method_64_code, 6, (some .boolean), "CloudDepthModel", mF_12, mK_R, { frames := 3, cells := 0, slots := 0, locals := 69 })
theorem ok_R_isWithin : MOK M_R_isWithin := ⟨by decide, wd_885, rfl, rfl, rfl, fOK_12, kOK_R⟩
theorem ds_R_isWithin : (mY M_R_isWithin).cls ≠ "java/lang/invoke/MethodHandle" ∧ (mY M_R_isWithin).cls ≠ "java/lang/invoke/VarHandle" ∧ (parseMethodDescriptor (mY M_R_isWithin).desc).map (fun d => d.parameters.length) = some 4 := ⟨by decide +kernel, by decide +kernel, by decide +kernel⟩
def M_R_areAcross : MI := (⟨"CloudDepthModel", "areAcross", "(IIII)Z"⟩, prog_14_method_65_code, 5, (some .boolean), "CloudDepthModel", mF_12, mK_R, { frames := 3, cells := 0, slots := 0, locals := 69 })
theorem ok_R_areAcross : MOK M_R_areAcross := ⟨by decide, wd_886, rfl, rfl, rfl, fOK_12, kOK_R⟩
theorem ds_R_areAcross : (mY M_R_areAcross).cls ≠ "java/lang/invoke/MethodHandle" ∧ (mY M_R_areAcross).cls ≠ "java/lang/invoke/VarHandle" ∧ (parseMethodDescriptor (mY M_R_areAcross).desc).map (fun d => d.parameters.length) = some 4 := ⟨by decide +kernel, by decide +kernel, by decide +kernel⟩
def M_R_laysMeetings : MI := (⟨"CloudDepthModel", "laysMeetings", "()V"⟩, prog_14_method_66_code, 5, none, "CloudDepthModel", mF_12, mK_R, { frames := 4, cells := 0, slots := 0, locals := 94 })
theorem ok_R_laysMeetings : MOK M_R_laysMeetings := ⟨by decide, wd_887, rfl, rfl, rfl, fOK_12, kOK_R⟩
theorem ds_R_laysMeetings : (mY M_R_laysMeetings).cls ≠ "java/lang/invoke/MethodHandle" ∧ (mY M_R_laysMeetings).cls ≠ "java/lang/invoke/VarHandle" ∧ (parseMethodDescriptor (mY M_R_laysMeetings).desc).map (fun d => d.parameters.length) = some 0 := ⟨by decide +kernel, by decide +kernel, by decide +kernel⟩
def M_R_areParted : MI := (⟨"CloudDepthModel", "areParted", "(I)Z"⟩, prog_14_method_67_code, 5, (some .boolean), "CloudDepthModel", mF_12, mK_R, { frames := 0, cells := 0, slots := 0, locals := 0 })
theorem ok_R_areParted : MOK M_R_areParted := ⟨by decide, wd_888, rfl, rfl, rfl, fOK_12, kOK_R⟩
theorem ds_R_areParted : (mY M_R_areParted).cls ≠ "java/lang/invoke/MethodHandle" ∧ (mY M_R_areParted).cls ≠ "java/lang/invoke/VarHandle" ∧ (parseMethodDescriptor (mY M_R_areParted).desc).map (fun d => d.parameters.length) = some 1 := ⟨by decide +kernel, by decide +kernel, by decide +kernel⟩
def M_R_cutOff : MI := (⟨"CloudDepthModel", "cutOff", "(I)I"⟩, prog_14_method_68_code, 4, (some .int), "CloudDepthModel", mF_12, mK_R, { frames := 5, cells := 0, slots := 0, locals := 118 })
theorem ok_R_cutOff : MOK M_R_cutOff := ⟨by decide, wd_889, rfl, rfl, rfl, fOK_12, kOK_R⟩
theorem ds_R_cutOff : (mY M_R_cutOff).cls ≠ "java/lang/invoke/MethodHandle" ∧ (mY M_R_cutOff).cls ≠ "java/lang/invoke/VarHandle" ∧ (parseMethodDescriptor (mY M_R_cutOff).desc).map (fun d => d.parameters.length) = some 1 := ⟨by decide +kernel, by decide +kernel, by decide +kernel⟩
def M_Cloud_hasSet : MI := (⟨"CloudDepth$Cloud", "hasSet", "(I)Z"⟩, prog_2_method_3_code, 2, (some .boolean), "CloudDepth$Cloud", mF_0, (fun _ => none), { frames := 1, cells := 0, slots := 0, locals := 20 })
theorem ok_Cloud_hasSet : MOK M_Cloud_hasSet := ⟨by decide, wd_890, rfl, rfl, rfl, fOK_0, (fun i v h => by cases h)⟩
theorem ds_Cloud_hasSet : (mY M_Cloud_hasSet).cls ≠ "java/lang/invoke/MethodHandle" ∧ (mY M_Cloud_hasSet).cls ≠ "java/lang/invoke/VarHandle" ∧ (parseMethodDescriptor (mY M_Cloud_hasSet).desc).map (fun d => d.parameters.length) = some 1 := ⟨by decide +kernel, by decide +kernel, by decide +kernel⟩
def M_C_isCutOff : MI := (⟨"CloudDepth", "isCutOff", "(I)I"⟩, prog_1_method_25_code, 2, (some .int), "CloudDepth", mF_11, mK_C, { frames := 4, cells := 0, slots := 0, locals := 99 })
theorem ok_C_isCutOff : MOK M_C_isCutOff := ⟨by decide, wd_891, rfl, rfl, rfl, fOK_11, kOK_C⟩
theorem ds_C_isCutOff : (mY M_C_isCutOff).cls ≠ "java/lang/invoke/MethodHandle" ∧ (mY M_C_isCutOff).cls ≠ "java/lang/invoke/VarHandle" ∧ (parseMethodDescriptor (mY M_C_isCutOff).desc).map (fun d => d.parameters.length) = some 1 := ⟨by decide +kernel, by decide +kernel, by decide +kernel⟩
def M_R_isCutOff : MI := (⟨"CloudDepthModel", "isCutOff", "(I)I"⟩, prog_14_method_69_code, 2, (some .int), "CloudDepthModel", mF_12, mK_R, { frames := 5, cells := 0, slots := 0, locals := 118 })
theorem ok_R_isCutOff : MOK M_R_isCutOff := ⟨by decide, wd_892, rfl, rfl, rfl, fOK_12, kOK_R⟩
theorem ds_R_isCutOff : (mY M_R_isCutOff).cls ≠ "java/lang/invoke/MethodHandle" ∧ (mY M_R_isCutOff).cls ≠ "java/lang/invoke/VarHandle" ∧ (parseMethodDescriptor (mY M_R_isCutOff).desc).map (fun d => d.parameters.length) = some 1 := ⟨by decide +kernel, by decide +kernel, by decide +kernel⟩
def M_C_isPlace : MI := (⟨"CloudDepth", "isPlace", "(II)Z"⟩, prog_1_method_44_code, 2, (some .boolean), "CloudDepth", mF_11, mK_C, { frames := 0, cells := 0, slots := 0, locals := 0 })
theorem ok_C_isPlace : MOK M_C_isPlace := ⟨by decide, wd_893, rfl, rfl, rfl, fOK_11, kOK_C⟩
theorem ds_C_isPlace : (mY M_C_isPlace).cls ≠ "java/lang/invoke/MethodHandle" ∧ (mY M_C_isPlace).cls ≠ "java/lang/invoke/VarHandle" ∧ (parseMethodDescriptor (mY M_C_isPlace).desc).map (fun d => d.parameters.length) = some 2 := ⟨by decide +kernel, by decide +kernel, by decide +kernel⟩
def M_C_depth : MI := (⟨"CloudDepth", "depth", "(II)I"⟩, prog_1_method_27_code, 3, (some .int), "CloudDepth", mF_11, mK_C, { frames := 4, cells := 0, slots := 0, locals := 100 })
theorem ok_C_depth : MOK M_C_depth := ⟨by decide, wd_894, rfl, rfl, rfl, fOK_11, kOK_C⟩
theorem ds_C_depth : (mY M_C_depth).cls ≠ "java/lang/invoke/MethodHandle" ∧ (mY M_C_depth).cls ≠ "java/lang/invoke/VarHandle" ∧ (parseMethodDescriptor (mY M_C_depth).desc).map (fun d => d.parameters.length) = some 2 := ⟨by decide +kernel, by decide +kernel, by decide +kernel⟩
def M_R_depth : MI := (⟨"CloudDepthModel", "depth", "(II)I"⟩, prog_14_method_82_code, 3, (some .int), "CloudDepthModel", mF_12, mK_R, { frames := 3, cells := 0, slots := 0, locals := 80 })
theorem ok_R_depth : MOK M_R_depth := ⟨by decide, wd_895, rfl, rfl, rfl, fOK_12, kOK_R⟩
theorem ds_R_depth : (mY M_R_depth).cls ≠ "java/lang/invoke/MethodHandle" ∧ (mY M_R_depth).cls ≠ "java/lang/invoke/VarHandle" ∧ (parseMethodDescriptor (mY M_R_depth).desc).map (fun d => d.parameters.length) = some 2 := ⟨by decide +kernel, by decide +kernel, by decide +kernel⟩
def M_Depths_noteDepth : MI := (⟨"CloudDepth$Depths", "noteDepth", "(III)V"⟩, prog_4_method_7_code, 4, none, "CloudDepth$Depths", mF_2, (fun _ => none), { frames := 0, cells := 0, slots := 0, locals := 0 })
theorem ok_Depths_noteDepth : MOK M_Depths_noteDepth := ⟨by decide, wd_896, rfl, rfl, rfl, fOK_2, (fun i v h => by cases h)⟩
theorem ds_Depths_noteDepth : (mY M_Depths_noteDepth).cls ≠ "java/lang/invoke/MethodHandle" ∧ (mY M_Depths_noteDepth).cls ≠ "java/lang/invoke/VarHandle" ∧ (parseMethodDescriptor (mY M_Depths_noteDepth).desc).map (fun d => d.parameters.length) = some 3 := ⟨by decide +kernel, by decide +kernel, by decide +kernel⟩
def M_Depths_survey : MI := (⟨"CloudDepth$Depths", "survey", "(LCloudDepth$Cloud;)V"⟩, prog_4_method_5_code, 6, none, "CloudDepth$Depths", mF_2, (fun _ => none), { frames := 4, cells := 0, slots := 0, locals := 100 })
theorem ok_Depths_survey : MOK M_Depths_survey := ⟨by decide, wd_897, rfl, rfl, rfl, fOK_2, (fun i v h => by cases h)⟩
theorem ds_Depths_survey : (mY M_Depths_survey).cls ≠ "java/lang/invoke/MethodHandle" ∧ (mY M_Depths_survey).cls ≠ "java/lang/invoke/VarHandle" ∧ (parseMethodDescriptor (mY M_Depths_survey).desc).map (fun d => d.parameters.length) = some 1 := ⟨by decide +kernel, by decide +kernel, by decide +kernel⟩
def M_C_deepest : MI := (⟨"CloudDepth", "deepest", "(I)I"⟩, prog_1_method_28_code, 2, (some .int), "CloudDepth", mF_11, mK_C, { frames := 5, cells := 0, slots := 0, locals := 125 })
theorem ok_C_deepest : MOK M_C_deepest := ⟨by decide, wd_898, rfl, rfl, rfl, fOK_11, kOK_C⟩
theorem ds_C_deepest : (mY M_C_deepest).cls ≠ "java/lang/invoke/MethodHandle" ∧ (mY M_C_deepest).cls ≠ "java/lang/invoke/VarHandle" ∧ (parseMethodDescriptor (mY M_C_deepest).desc).map (fun d => d.parameters.length) = some 1 := ⟨by decide +kernel, by decide +kernel, by decide +kernel⟩
def M_R_deepestOf : MI := (⟨"CloudDepthModel", "deepestOf", "()I"⟩, prog_14_method_83_code, 6, (some .int), "CloudDepthModel", mF_12, mK_R, { frames := 3, cells := 0, slots := 0, locals := 80 })
theorem ok_R_deepestOf : MOK M_R_deepestOf := ⟨by decide, wd_899, rfl, rfl, rfl, fOK_12, kOK_R⟩
theorem ds_R_deepestOf : (mY M_R_deepestOf).cls ≠ "java/lang/invoke/MethodHandle" ∧ (mY M_R_deepestOf).cls ≠ "java/lang/invoke/VarHandle" ∧ (parseMethodDescriptor (mY M_R_deepestOf).desc).map (fun d => d.parameters.length) = some 0 := ⟨by decide +kernel, by decide +kernel, by decide +kernel⟩
def M_R_deepest : MI := (⟨"CloudDepthModel", "deepest", "(I)I"⟩, prog_14_method_84_code, 3, (some .int), "CloudDepthModel", mF_12, mK_R, { frames := 4, cells := 0, slots := 0, locals := 105 })
theorem ok_R_deepest : MOK M_R_deepest := ⟨by decide, wd_900, rfl, rfl, rfl, fOK_12, kOK_R⟩
theorem ds_R_deepest : (mY M_R_deepest).cls ≠ "java/lang/invoke/MethodHandle" ∧ (mY M_R_deepest).cls ≠ "java/lang/invoke/VarHandle" ∧ (parseMethodDescriptor (mY M_R_deepest).desc).map (fun d => d.parameters.length) = some 1 := ⟨by decide +kernel, by decide +kernel, by decide +kernel⟩
def M_Depths_bound : MI := (⟨"CloudDepth$Depths", "bound", "(LCloudDepth$Cloud;I)V"⟩, prog_4_method_8_code, 6, none, "CloudDepth$Depths", mF_2, (fun _ => none), { frames := 1, cells := 0, slots := 0, locals := 21 })
theorem ok_Depths_bound : MOK M_Depths_bound := ⟨by decide, wd_901, rfl, rfl, rfl, fOK_2, (fun i v h => by cases h)⟩
theorem ds_Depths_bound : (mY M_Depths_bound).cls ≠ "java/lang/invoke/MethodHandle" ∧ (mY M_Depths_bound).cls ≠ "java/lang/invoke/VarHandle" ∧ (parseMethodDescriptor (mY M_Depths_bound).desc).map (fun d => d.parameters.length) = some 2 := ⟨by decide +kernel, by decide +kernel, by decide +kernel⟩
def M_C_region : MI := (⟨"CloudDepth", "region", "(II)I"⟩, prog_1_method_29_code, 3, (some .int), "CloudDepth", mF_11, mK_C, { frames := 5, cells := 0, slots := 0, locals := 125 })
theorem ok_C_region : MOK M_C_region := ⟨by decide, wd_902, rfl, rfl, rfl, fOK_11, kOK_C⟩
theorem ds_C_region : (mY M_C_region).cls ≠ "java/lang/invoke/MethodHandle" ∧ (mY M_C_region).cls ≠ "java/lang/invoke/VarHandle" ∧ (parseMethodDescriptor (mY M_C_region).desc).map (fun d => d.parameters.length) = some 2 := ⟨by decide +kernel, by decide +kernel, by decide +kernel⟩
def M_R_region : MI := (⟨"CloudDepthModel", "region", "(II)I"⟩, prog_14_method_85_code, 10, (some .int), "CloudDepthModel", mF_12, mK_R, { frames := 3, cells := 0, slots := 0, locals := 80 })
theorem ok_R_region : MOK M_R_region := ⟨by decide, wd_903, rfl, rfl, rfl, fOK_12, kOK_R⟩
theorem ds_R_region : (mY M_R_region).cls ≠ "java/lang/invoke/MethodHandle" ∧ (mY M_R_region).cls ≠ "java/lang/invoke/VarHandle" ∧ (parseMethodDescriptor (mY M_R_region).desc).map (fun d => d.parameters.length) = some 2 := ⟨by decide +kernel, by decide +kernel, by decide +kernel⟩
def M_Shapes_leastOf : MI := (⟨"CloudDepth$Shapes", "leastOf", "(I)I"⟩, prog_9_method_7_code, 1, (some .int), "CloudDepth$Shapes", mF_7, (fun _ => none), { frames := 1, cells := 0, slots := 0, locals := 20 })
theorem ok_Shapes_leastOf : MOK M_Shapes_leastOf := ⟨by decide, wd_904, rfl, rfl, rfl, fOK_7, (fun i v h => by cases h)⟩
theorem ds_Shapes_leastOf : (mY M_Shapes_leastOf).cls ≠ "java/lang/invoke/MethodHandle" ∧ (mY M_Shapes_leastOf).cls ≠ "java/lang/invoke/VarHandle" ∧ (parseMethodDescriptor (mY M_Shapes_leastOf).desc).map (fun d => d.parameters.length) = some 1 := ⟨by decide +kernel, by decide +kernel, by decide +kernel⟩
def M_Shapes_covers : MI := (⟨"CloudDepth$Shapes", "covers", "(LCloudDepth$Cloud;III)Z"⟩, prog_9_method_6_code, 12, (some .boolean), "CloudDepth$Shapes", mF_7, (fun _ => none), { frames := 2, cells := 0, slots := 0, locals := 40 })
theorem ok_Shapes_covers : MOK M_Shapes_covers := ⟨by decide, wd_905, rfl, rfl, rfl, fOK_7, (fun i v h => by cases h)⟩
theorem ds_Shapes_covers : (mY M_Shapes_covers).cls ≠ "java/lang/invoke/MethodHandle" ∧ (mY M_Shapes_covers).cls ≠ "java/lang/invoke/VarHandle" ∧ (parseMethodDescriptor (mY M_Shapes_covers).desc).map (fun d => d.parameters.length) = some 4 := ⟨by decide +kernel, by decide +kernel, by decide +kernel⟩
def M_Shapes_trianglesAbout : MI := (⟨"CloudDepth$Shapes", "trianglesAbout", "(LCloudDepth$Cloud;II)I"⟩, prog_9_method_2_code, 8, (some .int), "CloudDepth$Shapes", mF_7, (fun _ => none), { frames := 3, cells := 0, slots := 0, locals := 71 })
theorem ok_Shapes_trianglesAbout : MOK M_Shapes_trianglesAbout := ⟨by decide, wd_906, rfl, rfl, rfl, fOK_7, (fun i v h => by cases h)⟩
theorem ds_Shapes_trianglesAbout : (mY M_Shapes_trianglesAbout).cls ≠ "java/lang/invoke/MethodHandle" ∧ (mY M_Shapes_trianglesAbout).cls ≠ "java/lang/invoke/VarHandle" ∧ (parseMethodDescriptor (mY M_Shapes_trianglesAbout).desc).map (fun d => d.parameters.length) = some 3 := ⟨by decide +kernel, by decide +kernel, by decide +kernel⟩
def M_C_triangles : MI := (⟨"CloudDepth", "triangles", "(II)I"⟩, prog_1_method_31_code, 3, (some .int), "CloudDepth", mF_11, mK_C, { frames := 4, cells := 0, slots := 0, locals := 98 })
theorem ok_C_triangles : MOK M_C_triangles := ⟨by decide, wd_907, rfl, rfl, rfl, fOK_11, kOK_C⟩
theorem ds_C_triangles : (mY M_C_triangles).cls ≠ "java/lang/invoke/MethodHandle" ∧ (mY M_C_triangles).cls ≠ "java/lang/invoke/VarHandle" ∧ (parseMethodDescriptor (mY M_C_triangles).desc).map (fun d => d.parameters.length) = some 2 := ⟨by decide +kernel, by decide +kernel, by decide +kernel⟩
def M_R_isInside : MI := (⟨"CloudDepthModel", "isInside", "(IIIII)Z"⟩, prog_14_method_75_code, 7, (some .boolean), "CloudDepthModel", mF_12, mK_R, { frames := 3, cells := 0, slots := 0, locals := 69 })
theorem ok_R_isInside : MOK M_R_isInside := ⟨by decide, wd_908, rfl, rfl, rfl, fOK_12, kOK_R⟩
theorem ds_R_isInside : (mY M_R_isInside).cls ≠ "java/lang/invoke/MethodHandle" ∧ (mY M_R_isInside).cls ≠ "java/lang/invoke/VarHandle" ∧ (parseMethodDescriptor (mY M_R_isInside).desc).map (fun d => d.parameters.length) = some 5 := ⟨by decide +kernel, by decide +kernel, by decide +kernel⟩
def M_R_triangles : MI := (⟨"CloudDepthModel", "triangles", "(II)I"⟩, prog_14_method_76_code, 7, (some .int), "CloudDepthModel", mF_12, mK_R, { frames := 4, cells := 0, slots := 0, locals := 95 })
theorem ok_R_triangles : MOK M_R_triangles := ⟨by decide, wd_909, rfl, rfl, rfl, fOK_12, kOK_R⟩
theorem ds_R_triangles : (mY M_R_triangles).cls ≠ "java/lang/invoke/MethodHandle" ∧ (mY M_R_triangles).cls ≠ "java/lang/invoke/VarHandle" ∧ (parseMethodDescriptor (mY M_R_triangles).desc).map (fun d => d.parameters.length) = some 2 := ⟨by decide +kernel, by decide +kernel, by decide +kernel⟩
def M_Lines_rankOf : MI := (⟨"CloudDepth$Lines", "rankOf", "(LCloudDepth$Cloud;IIII)I"⟩, prog_7_method_3_code, 9, (some .int), "CloudDepth$Lines", mF_5, (fun _ => none), { frames := 0, cells := 0, slots := 0, locals := 0 })
theorem ok_Lines_rankOf : MOK M_Lines_rankOf := ⟨by decide, wd_910, rfl, rfl, rfl, fOK_5, (fun i v h => by cases h)⟩
theorem ds_Lines_rankOf : (mY M_Lines_rankOf).cls ≠ "java/lang/invoke/MethodHandle" ∧ (mY M_Lines_rankOf).cls ≠ "java/lang/invoke/VarHandle" ∧ (parseMethodDescriptor (mY M_Lines_rankOf).desc).map (fun d => d.parameters.length) = some 5 := ⟨by decide +kernel, by decide +kernel, by decide +kernel⟩
def M_Lines_lineAt : MI := (⟨"CloudDepth$Lines", "lineAt", "(LCloudDepth$Cloud;IIII)I"⟩, prog_7_method_2_code, 6, (some .int), "CloudDepth$Lines", mF_5, (fun _ => none), { frames := 1, cells := 0, slots := 0, locals := 28 })
theorem ok_Lines_lineAt : MOK M_Lines_lineAt := ⟨by decide, wd_911, rfl, rfl, rfl, fOK_5, (fun i v h => by cases h)⟩
theorem ds_Lines_lineAt : (mY M_Lines_lineAt).cls ≠ "java/lang/invoke/MethodHandle" ∧ (mY M_Lines_lineAt).cls ≠ "java/lang/invoke/VarHandle" ∧ (parseMethodDescriptor (mY M_Lines_lineAt).desc).map (fun d => d.parameters.length) = some 5 := ⟨by decide +kernel, by decide +kernel, by decide +kernel⟩
def M_C_order : MI := (⟨"CloudDepth", "order", "(II)I"⟩, prog_1_method_34_code, 3, (some .int), "CloudDepth", mF_11, mK_C, { frames := 2, cells := 0, slots := 0, locals := 53 })
theorem ok_C_order : MOK M_C_order := ⟨by decide, wd_912, rfl, rfl, rfl, fOK_11, kOK_C⟩
theorem ds_C_order : (mY M_C_order).cls ≠ "java/lang/invoke/MethodHandle" ∧ (mY M_C_order).cls ≠ "java/lang/invoke/VarHandle" ∧ (parseMethodDescriptor (mY M_C_order).desc).map (fun d => d.parameters.length) = some 2 := ⟨by decide +kernel, by decide +kernel, by decide +kernel⟩
def M_R_valueAt : MI := (⟨"CloudDepthModel", "valueAt", "(III)I"⟩, prog_14_method_94_code, 4, (some .int), "CloudDepthModel", mF_12, mK_R, { frames := 1, cells := 0, slots := 0, locals := 21 })
theorem ok_R_valueAt : MOK M_R_valueAt := ⟨by decide, wd_913, rfl, rfl, rfl, fOK_12, kOK_R⟩
theorem ds_R_valueAt : (mY M_R_valueAt).cls ≠ "java/lang/invoke/MethodHandle" ∧ (mY M_R_valueAt).cls ≠ "java/lang/invoke/VarHandle" ∧ (parseMethodDescriptor (mY M_R_valueAt).desc).map (fun d => d.parameters.length) = some 3 := ⟨by decide +kernel, by decide +kernel, by decide +kernel⟩
def M_R_lineAt : MI := (⟨"CloudDepthModel", "lineAt", "(IIIZ)I"⟩, prog_14_method_95_code, 9, (some .int), "CloudDepthModel", mF_12, mK_R, { frames := 2, cells := 0, slots := 0, locals := 44 })
theorem ok_R_lineAt : MOK M_R_lineAt := ⟨by decide, wd_914, rfl, rfl, rfl, fOK_12, kOK_R⟩
theorem ds_R_lineAt : (mY M_R_lineAt).cls ≠ "java/lang/invoke/MethodHandle" ∧ (mY M_R_lineAt).cls ≠ "java/lang/invoke/VarHandle" ∧ (parseMethodDescriptor (mY M_R_lineAt).desc).map (fun d => d.parameters.length) = some 4 := ⟨by decide +kernel, by decide +kernel, by decide +kernel⟩
def M_R_order : MI := (⟨"CloudDepthModel", "order", "(II)I"⟩, prog_14_method_96_code, 3, (some .int), "CloudDepthModel", mF_12, mK_R, { frames := 3, cells := 0, slots := 0, locals := 72 })
theorem ok_R_order : MOK M_R_order := ⟨by decide, wd_915, rfl, rfl, rfl, fOK_12, kOK_R⟩
theorem ds_R_order : (mY M_R_order).cls ≠ "java/lang/invoke/MethodHandle" ∧ (mY M_R_order).cls ≠ "java/lang/invoke/VarHandle" ∧ (parseMethodDescriptor (mY M_R_order).desc).map (fun d => d.parameters.length) = some 2 := ⟨by decide +kernel, by decide +kernel, by decide +kernel⟩
def M_Lines_lesser : MI := (⟨"CloudDepth$Lines", "lesser", "(I)I"⟩, prog_7_method_7_code, 2, (some .int), "CloudDepth$Lines", mF_5, (fun _ => none), { frames := 0, cells := 0, slots := 0, locals := 0 })
theorem ok_Lines_lesser : MOK M_Lines_lesser := ⟨by decide, wd_916, rfl, rfl, rfl, fOK_5, (fun i v h => by cases h)⟩
theorem ds_Lines_lesser : (mY M_Lines_lesser).cls ≠ "java/lang/invoke/MethodHandle" ∧ (mY M_Lines_lesser).cls ≠ "java/lang/invoke/VarHandle" ∧ (parseMethodDescriptor (mY M_Lines_lesser).desc).map (fun d => d.parameters.length) = some 1 := ⟨by decide +kernel, by decide +kernel, by decide +kernel⟩
def M_Lines_other : MI := (⟨"CloudDepth$Lines", "other", "(I)I"⟩, prog_7_method_8_code, 2, (some .int), "CloudDepth$Lines", mF_5, (fun _ => none), { frames := 0, cells := 0, slots := 0, locals := 0 })
theorem ok_Lines_other : MOK M_Lines_other := ⟨by decide, wd_917, rfl, rfl, rfl, fOK_5, (fun i v h => by cases h)⟩
theorem ds_Lines_other : (mY M_Lines_other).cls ≠ "java/lang/invoke/MethodHandle" ∧ (mY M_Lines_other).cls ≠ "java/lang/invoke/VarHandle" ∧ (parseMethodDescriptor (mY M_Lines_other).desc).map (fun d => d.parameters.length) = some 1 := ⟨by decide +kernel, by decide +kernel, by decide +kernel⟩
def M_Lines_over : MI := (⟨"CloudDepth$Lines", "over", "(LCloudDepth$Cloud;I)I"⟩, prog_7_method_9_code, 4, (some .int), "CloudDepth$Lines", mF_5, (fun _ => none), { frames := 1, cells := 0, slots := 0, locals := 21 })
theorem ok_Lines_over : MOK M_Lines_over := ⟨by decide, wd_918, rfl, rfl, rfl, fOK_5, (fun i v h => by cases h)⟩
theorem ds_Lines_over : (mY M_Lines_over).cls ≠ "java/lang/invoke/MethodHandle" ∧ (mY M_Lines_over).cls ≠ "java/lang/invoke/VarHandle" ∧ (parseMethodDescriptor (mY M_Lines_over).desc).map (fun d => d.parameters.length) = some 2 := ⟨by decide +kernel, by decide +kernel, by decide +kernel⟩
def M_Lines_under : MI := (⟨"CloudDepth$Lines", "under", "(LCloudDepth$Cloud;I)I"⟩, prog_7_method_10_code, 3, (some .int), "CloudDepth$Lines", mF_5, (fun _ => none), { frames := 1, cells := 0, slots := 0, locals := 21 })
theorem ok_Lines_under : MOK M_Lines_under := ⟨by decide, wd_919, rfl, rfl, rfl, fOK_5, (fun i v h => by cases h)⟩
theorem ds_Lines_under : (mY M_Lines_under).cls ≠ "java/lang/invoke/MethodHandle" ∧ (mY M_Lines_under).cls ≠ "java/lang/invoke/VarHandle" ∧ (parseMethodDescriptor (mY M_Lines_under).desc).map (fun d => d.parameters.length) = some 2 := ⟨by decide +kernel, by decide +kernel, by decide +kernel⟩
def M_J_compare : MI := (⟨"java/lang/Integer", "compare", "(II)I"⟩, prog_15_method_40_code, 2, (some .int), "java/lang/Integer", (fun _ => none), mK_J, { frames := 0, cells := 0, slots := 0, locals := 0 })
theorem ok_J_compare : MOK M_J_compare := ⟨by decide, wd_920, rfl, rfl, rfl, (fun i c k h => by cases h), kOK_J⟩
theorem ds_J_compare : (mY M_J_compare).cls ≠ "java/lang/invoke/MethodHandle" ∧ (mY M_J_compare).cls ≠ "java/lang/invoke/VarHandle" ∧ (parseMethodDescriptor (mY M_J_compare).desc).map (fun d => d.parameters.length) = some 2 := ⟨by decide +kernel, by decide +kernel, by decide +kernel⟩
def M_Lines_compareX : MI := (⟨"CloudDepth$Lines", "compareX", "(LCloudDepth$Cloud;II)I"⟩, prog_7_method_6_code, 4, (some .int), "CloudDepth$Lines", mF_5, (fun _ => none), { frames := 2, cells := 0, slots := 0, locals := 44 })
theorem ok_Lines_compareX : MOK M_Lines_compareX := ⟨by decide, wd_921, rfl, rfl, rfl, fOK_5, (fun i v h => by cases h)⟩
theorem ds_Lines_compareX : (mY M_Lines_compareX).cls ≠ "java/lang/invoke/MethodHandle" ∧ (mY M_Lines_compareX).cls ≠ "java/lang/invoke/VarHandle" ∧ (parseMethodDescriptor (mY M_Lines_compareX).desc).map (fun d => d.parameters.length) = some 3 := ⟨by decide +kernel, by decide +kernel, by decide +kernel⟩
def M_Lines_sinkLast : MI := (⟨"CloudDepth$Lines", "sinkLast", "(LCloudDepth$Cloud;)V"⟩, prog_7_method_5_code, 4, none, "CloudDepth$Lines", mF_5, (fun _ => none), { frames := 3, cells := 0, slots := 0, locals := 67 })
theorem ok_Lines_sinkLast : MOK M_Lines_sinkLast := ⟨by decide, wd_922, rfl, rfl, rfl, fOK_5, (fun i v h => by cases h)⟩
theorem ds_Lines_sinkLast : (mY M_Lines_sinkLast).cls ≠ "java/lang/invoke/MethodHandle" ∧ (mY M_Lines_sinkLast).cls ≠ "java/lang/invoke/VarHandle" ∧ (parseMethodDescriptor (mY M_Lines_sinkLast).desc).map (fun d => d.parameters.length) = some 1 := ⟨by decide +kernel, by decide +kernel, by decide +kernel⟩
def M_Lines_cross : MI := (⟨"CloudDepth$Lines", "cross", "(LCloudDepth$Cloud;)V"⟩, prog_7_method_4_code, 4, none, "CloudDepth$Lines", mF_5, (fun _ => none), { frames := 4, cells := 0, slots := 0, locals := 90 })
theorem ok_Lines_cross : MOK M_Lines_cross := ⟨by decide, wd_923, rfl, rfl, rfl, fOK_5, (fun i v h => by cases h)⟩
theorem ds_Lines_cross : (mY M_Lines_cross).cls ≠ "java/lang/invoke/MethodHandle" ∧ (mY M_Lines_cross).cls ≠ "java/lang/invoke/VarHandle" ∧ (parseMethodDescriptor (mY M_Lines_cross).desc).map (fun d => d.parameters.length) = some 1 := ⟨by decide +kernel, by decide +kernel, by decide +kernel⟩
def M_Lines_divisor : MI := (⟨"CloudDepth$Lines", "divisor", "(LCloudDepth$Cloud;I)I"⟩, prog_7_method_11_code, 7, (some .int), "CloudDepth$Lines", mF_5, (fun _ => none), { frames := 2, cells := 0, slots := 0, locals := 44 })
theorem ok_Lines_divisor : MOK M_Lines_divisor := ⟨by decide, wd_924, rfl, rfl, rfl, fOK_5, (fun i v h => by cases h)⟩
theorem ds_Lines_divisor : (mY M_Lines_divisor).cls ≠ "java/lang/invoke/MethodHandle" ∧ (mY M_Lines_divisor).cls ≠ "java/lang/invoke/VarHandle" ∧ (parseMethodDescriptor (mY M_Lines_divisor).desc).map (fun d => d.parameters.length) = some 2 := ⟨by decide +kernel, by decide +kernel, by decide +kernel⟩
def M_C_crossing : MI := (⟨"CloudDepth", "crossing", "(II)I"⟩, prog_1_method_35_code, 3, (some .int), "CloudDepth", mF_11, mK_C, { frames := 5, cells := 0, slots := 0, locals := 113 })
theorem ok_C_crossing : MOK M_C_crossing := ⟨by decide, wd_925, rfl, rfl, rfl, fOK_11, kOK_C⟩
theorem ds_C_crossing : (mY M_C_crossing).cls ≠ "java/lang/invoke/MethodHandle" ∧ (mY M_C_crossing).cls ≠ "java/lang/invoke/VarHandle" ∧ (parseMethodDescriptor (mY M_C_crossing).desc).map (fun d => d.parameters.length) = some 2 := ⟨by decide +kernel, by decide +kernel, by decide +kernel⟩
def M_R_measure : MI := (⟨"CloudDepthModel", "measure", "(II)I"⟩, prog_14_method_97_code, 5, (some .int), "CloudDepthModel", mF_12, mK_R, { frames := 0, cells := 0, slots := 0, locals := 0 })
theorem ok_R_measure : MOK M_R_measure := ⟨by decide, wd_926, rfl, rfl, rfl, fOK_12, kOK_R⟩
theorem ds_R_measure : (mY M_R_measure).cls ≠ "java/lang/invoke/MethodHandle" ∧ (mY M_R_measure).cls ≠ "java/lang/invoke/VarHandle" ∧ (parseMethodDescriptor (mY M_R_measure).desc).map (fun d => d.parameters.length) = some 2 := ⟨by decide +kernel, by decide +kernel, by decide +kernel⟩
def M_R_laysCrossings : MI := (⟨"CloudDepthModel", "laysCrossings", "()I"⟩, prog_14_method_98_code, 8, (some .int), "CloudDepthModel", mF_12, mK_R, { frames := 1, cells := 0, slots := 0, locals := 24 })
theorem ok_R_laysCrossings : MOK M_R_laysCrossings := ⟨by decide, wd_927, rfl, rfl, rfl, fOK_12, kOK_R⟩
theorem ds_R_laysCrossings : (mY M_R_laysCrossings).cls ≠ "java/lang/invoke/MethodHandle" ∧ (mY M_R_laysCrossings).cls ≠ "java/lang/invoke/VarHandle" ∧ (parseMethodDescriptor (mY M_R_laysCrossings).desc).map (fun d => d.parameters.length) = some 0 := ⟨by decide +kernel, by decide +kernel, by decide +kernel⟩
def M_R_crossing : MI := (⟨"CloudDepthModel", "crossing", "(II)I"⟩, prog_14_method_99_code, 4, (some .int), "CloudDepthModel", mF_12, mK_R, { frames := 2, cells := 0, slots := 0, locals := 51 })
theorem ok_R_crossing : MOK M_R_crossing := ⟨by decide, wd_928, rfl, rfl, rfl, fOK_12, kOK_R⟩
theorem ds_R_crossing : (mY M_R_crossing).cls ≠ "java/lang/invoke/MethodHandle" ∧ (mY M_R_crossing).cls ≠ "java/lang/invoke/VarHandle" ∧ (parseMethodDescriptor (mY M_R_crossing).desc).map (fun d => d.parameters.length) = some 2 := ⟨by decide +kernel, by decide +kernel, by decide +kernel⟩
def M_Lines_bendsAt : MI := (⟨"CloudDepth$Lines", "bendsAt", "(LCloudDepth$Cloud;III)Z"⟩, prog_7_method_13_code, 4, (some .boolean), "CloudDepth$Lines", mF_5, (fun _ => none), { frames := 2, cells := 0, slots := 0, locals := 53 })
theorem ok_Lines_bendsAt : MOK M_Lines_bendsAt := ⟨by decide, wd_929, rfl, rfl, rfl, fOK_5, (fun i v h => by cases h)⟩
theorem ds_Lines_bendsAt : (mY M_Lines_bendsAt).cls ≠ "java/lang/invoke/MethodHandle" ∧ (mY M_Lines_bendsAt).cls ≠ "java/lang/invoke/VarHandle" ∧ (parseMethodDescriptor (mY M_Lines_bendsAt).desc).map (fun d => d.parameters.length) = some 4 := ⟨by decide +kernel, by decide +kernel, by decide +kernel⟩
def M_Lines_bendsOf : MI := (⟨"CloudDepth$Lines", "bendsOf", "(LCloudDepth$Cloud;I)I"⟩, prog_7_method_12_code, 6, (some .int), "CloudDepth$Lines", mF_5, (fun _ => none), { frames := 3, cells := 0, slots := 0, locals := 76 })
theorem ok_Lines_bendsOf : MOK M_Lines_bendsOf := ⟨by decide, wd_930, rfl, rfl, rfl, fOK_5, (fun i v h => by cases h)⟩
theorem ds_Lines_bendsOf : (mY M_Lines_bendsOf).cls ≠ "java/lang/invoke/MethodHandle" ∧ (mY M_Lines_bendsOf).cls ≠ "java/lang/invoke/VarHandle" ∧ (parseMethodDescriptor (mY M_Lines_bendsOf).desc).map (fun d => d.parameters.length) = some 2 := ⟨by decide +kernel, by decide +kernel, by decide +kernel⟩
def M_C_bends : MI := (⟨"CloudDepth", "bends", "(I)I"⟩, prog_1_method_36_code, 2, (some .int), "CloudDepth", mF_11, mK_C, { frames := 5, cells := 0, slots := 0, locals := 113 })
theorem ok_C_bends : MOK M_C_bends := ⟨by decide, wd_931, rfl, rfl, rfl, fOK_11, kOK_C⟩
theorem ds_C_bends : (mY M_C_bends).cls ≠ "java/lang/invoke/MethodHandle" ∧ (mY M_C_bends).cls ≠ "java/lang/invoke/VarHandle" ∧ (parseMethodDescriptor (mY M_C_bends).desc).map (fun d => d.parameters.length) = some 1 := ⟨by decide +kernel, by decide +kernel, by decide +kernel⟩
def M_R_bends : MI := (⟨"CloudDepthModel", "bends", "(I)I"⟩, prog_14_method_100_code, 5, (some .int), "CloudDepthModel", mF_12, mK_R, { frames := 3, cells := 0, slots := 0, locals := 72 })
theorem ok_R_bends : MOK M_R_bends := ⟨by decide, wd_932, rfl, rfl, rfl, fOK_12, kOK_R⟩
theorem ds_R_bends : (mY M_R_bends).cls ≠ "java/lang/invoke/MethodHandle" ∧ (mY M_R_bends).cls ≠ "java/lang/invoke/VarHandle" ∧ (parseMethodDescriptor (mY M_R_bends).desc).map (fun d => d.parameters.length) = some 1 := ⟨by decide +kernel, by decide +kernel, by decide +kernel⟩
def M_Fits_arrange : MI := (⟨"CloudDepth$Fits", "arrange", "(LCloudDepth$Cloud;)V"⟩, prog_5_method_2_code, 4, none, "CloudDepth$Fits", mF_3, (fun _ => none), { frames := 0, cells := 0, slots := 0, locals := 0 })
theorem ok_Fits_arrange : MOK M_Fits_arrange := ⟨by decide, wd_933, rfl, rfl, rfl, fOK_3, (fun i v h => by cases h)⟩
theorem ds_Fits_arrange : (mY M_Fits_arrange).cls ≠ "java/lang/invoke/MethodHandle" ∧ (mY M_Fits_arrange).cls ≠ "java/lang/invoke/VarHandle" ∧ (parseMethodDescriptor (mY M_Fits_arrange).desc).map (fun d => d.parameters.length) = some 1 := ⟨by decide +kernel, by decide +kernel, by decide +kernel⟩
def M_Fits_fitOf : MI := (⟨"CloudDepth$Fits", "fitOf", "(LCloudDepth$Cloud;II)I"⟩, prog_5_method_3_code, 14, (some .int), "CloudDepth$Fits", mF_3, (fun _ => none), { frames := 1, cells := 0, slots := 0, locals := 21 })
theorem ok_Fits_fitOf : MOK M_Fits_fitOf := ⟨by decide, wd_934, rfl, rfl, rfl, fOK_3, (fun i v h => by cases h)⟩
theorem ds_Fits_fitOf : (mY M_Fits_fitOf).cls ≠ "java/lang/invoke/MethodHandle" ∧ (mY M_Fits_fitOf).cls ≠ "java/lang/invoke/VarHandle" ∧ (parseMethodDescriptor (mY M_Fits_fitOf).desc).map (fun d => d.parameters.length) = some 3 := ⟨by decide +kernel, by decide +kernel, by decide +kernel⟩
def M_C_fit : MI := (⟨"CloudDepth", "fit", "(II)I"⟩, prog_1_method_37_code, 3, (some .int), "CloudDepth", mF_11, mK_C, { frames := 2, cells := 0, slots := 0, locals := 54 })
theorem ok_C_fit : MOK M_C_fit := ⟨by decide, wd_935, rfl, rfl, rfl, fOK_11, kOK_C⟩
theorem ds_C_fit : (mY M_C_fit).cls ≠ "java/lang/invoke/MethodHandle" ∧ (mY M_C_fit).cls ≠ "java/lang/invoke/VarHandle" ∧ (parseMethodDescriptor (mY M_C_fit).desc).map (fun d => d.parameters.length) = some 2 := ⟨by decide +kernel, by decide +kernel, by decide +kernel⟩
def M_R_fitOf : MI := (⟨"CloudDepthModel", "fitOf", "(II)I"⟩, prog_14_method_101_code, 11, (some .int), "CloudDepthModel", mF_12, mK_R, { frames := 1, cells := 0, slots := 0, locals := 21 })
theorem ok_R_fitOf : MOK M_R_fitOf := ⟨by decide, wd_936, rfl, rfl, rfl, fOK_12, kOK_R⟩
theorem ds_R_fitOf : (mY M_R_fitOf).cls ≠ "java/lang/invoke/MethodHandle" ∧ (mY M_R_fitOf).cls ≠ "java/lang/invoke/VarHandle" ∧ (parseMethodDescriptor (mY M_R_fitOf).desc).map (fun d => d.parameters.length) = some 2 := ⟨by decide +kernel, by decide +kernel, by decide +kernel⟩
def M_R_fit : MI := (⟨"CloudDepthModel", "fit", "(II)I"⟩, prog_14_method_102_code, 3, (some .int), "CloudDepthModel", mF_12, mK_R, { frames := 2, cells := 0, slots := 0, locals := 51 })
theorem ok_R_fit : MOK M_R_fit := ⟨by decide, wd_937, rfl, rfl, rfl, fOK_12, kOK_R⟩
theorem ds_R_fit : (mY M_R_fit).cls ≠ "java/lang/invoke/MethodHandle" ∧ (mY M_R_fit).cls ≠ "java/lang/invoke/VarHandle" ∧ (parseMethodDescriptor (mY M_R_fit).desc).map (fun d => d.parameters.length) = some 2 := ⟨by decide +kernel, by decide +kernel, by decide +kernel⟩
def M_Fits_noteFit : MI := (⟨"CloudDepth$Fits", "noteFit", "(III)V"⟩, prog_5_method_5_code, 4, none, "CloudDepth$Fits", mF_3, (fun _ => none), { frames := 0, cells := 0, slots := 0, locals := 0 })
theorem ok_Fits_noteFit : MOK M_Fits_noteFit := ⟨by decide, wd_938, rfl, rfl, rfl, fOK_3, (fun i v h => by cases h)⟩
theorem ds_Fits_noteFit : (mY M_Fits_noteFit).cls ≠ "java/lang/invoke/MethodHandle" ∧ (mY M_Fits_noteFit).cls ≠ "java/lang/invoke/VarHandle" ∧ (parseMethodDescriptor (mY M_Fits_noteFit).desc).map (fun d => d.parameters.length) = some 3 := ⟨by decide +kernel, by decide +kernel, by decide +kernel⟩
def M_Fits_search : MI := (⟨"CloudDepth$Fits", "search", "(LCloudDepth$Cloud;)V"⟩, prog_5_method_4_code, 4, none, "CloudDepth$Fits", mF_3, (fun _ => none), { frames := 2, cells := 0, slots := 0, locals := 54 })
theorem ok_Fits_search : MOK M_Fits_search := ⟨by decide, wd_939, rfl, rfl, rfl, fOK_3, (fun i v h => by cases h)⟩
theorem ds_Fits_search : (mY M_Fits_search).cls ≠ "java/lang/invoke/MethodHandle" ∧ (mY M_Fits_search).cls ≠ "java/lang/invoke/VarHandle" ∧ (parseMethodDescriptor (mY M_Fits_search).desc).map (fun d => d.parameters.length) = some 1 := ⟨by decide +kernel, by decide +kernel, by decide +kernel⟩
def M_C_best : MI := (⟨"CloudDepth", "best", "(I)I"⟩, prog_1_method_38_code, 2, (some .int), "CloudDepth", mF_11, mK_C, { frames := 3, cells := 0, slots := 0, locals := 77 })
theorem ok_C_best : MOK M_C_best := ⟨by decide, wd_940, rfl, rfl, rfl, fOK_11, kOK_C⟩
theorem ds_C_best : (mY M_C_best).cls ≠ "java/lang/invoke/MethodHandle" ∧ (mY M_C_best).cls ≠ "java/lang/invoke/VarHandle" ∧ (parseMethodDescriptor (mY M_C_best).desc).map (fun d => d.parameters.length) = some 1 := ⟨by decide +kernel, by decide +kernel, by decide +kernel⟩
def M_R_best : MI := (⟨"CloudDepthModel", "best", "(I)I"⟩, prog_14_method_103_code, 9, (some .int), "CloudDepthModel", mF_12, mK_R, { frames := 2, cells := 0, slots := 0, locals := 51 })
theorem ok_R_best : MOK M_R_best := ⟨by decide, wd_941, rfl, rfl, rfl, fOK_12, kOK_R⟩
theorem ds_R_best : (mY M_R_best).cls ≠ "java/lang/invoke/MethodHandle" ∧ (mY M_R_best).cls ≠ "java/lang/invoke/VarHandle" ∧ (parseMethodDescriptor (mY M_R_best).desc).map (fun d => d.parameters.length) = some 1 := ⟨by decide +kernel, by decide +kernel, by decide +kernel⟩
def M_C_halvingBoth : MI := (⟨"CloudDepth", "halvingBoth", "(II)I"⟩, prog_1_method_23_code, 7, (some .int), "CloudDepth", mF_11, mK_C, { frames := 3, cells := 0, slots := 0, locals := 73 })
theorem ok_C_halvingBoth : MOK M_C_halvingBoth := ⟨by decide, wd_942, rfl, rfl, rfl, fOK_11, kOK_C⟩
theorem ds_C_halvingBoth : (mY M_C_halvingBoth).cls ≠ "java/lang/invoke/MethodHandle" ∧ (mY M_C_halvingBoth).cls ≠ "java/lang/invoke/VarHandle" ∧ (parseMethodDescriptor (mY M_C_halvingBoth).desc).map (fun d => d.parameters.length) = some 2 := ⟨by decide +kernel, by decide +kernel, by decide +kernel⟩
def M_R_halvingBoth : MI := (⟨"CloudDepthModel", "halvingBoth", "(II)I"⟩, prog_14_method_62_code, 6, (some .int), "CloudDepthModel", mF_12, mK_R, { frames := 5, cells := 0, slots := 0, locals := 119 })
theorem ok_R_halvingBoth : MOK M_R_halvingBoth := ⟨by decide, wd_943, rfl, rfl, rfl, fOK_12, kOK_R⟩
theorem ds_R_halvingBoth : (mY M_R_halvingBoth).cls ≠ "java/lang/invoke/MethodHandle" ∧ (mY M_R_halvingBoth).cls ≠ "java/lang/invoke/VarHandle" ∧ (parseMethodDescriptor (mY M_R_halvingBoth).desc).map (fun d => d.parameters.length) = some 2 := ⟨by decide +kernel, by decide +kernel, by decide +kernel⟩
def M_Shapes_hasThreeOnOneLine : MI := (⟨"CloudDepth$Shapes", "hasThreeOnOneLine", "(LCloudDepth$Cloud;I)Z"⟩, prog_9_method_10_code, 4, (some .boolean), "CloudDepth$Shapes", mF_7, (fun _ => none), { frames := 2, cells := 0, slots := 0, locals := 49 })
theorem ok_Shapes_hasThreeOnOneLine : MOK M_Shapes_hasThreeOnOneLine := ⟨by decide, wd_944, rfl, rfl, rfl, fOK_7, (fun i v h => by cases h)⟩
theorem ds_Shapes_hasThreeOnOneLine : (mY M_Shapes_hasThreeOnOneLine).cls ≠ "java/lang/invoke/MethodHandle" ∧ (mY M_Shapes_hasThreeOnOneLine).cls ≠ "java/lang/invoke/VarHandle" ∧ (parseMethodDescriptor (mY M_Shapes_hasThreeOnOneLine).desc).map (fun d => d.parameters.length) = some 2 := ⟨by decide +kernel, by decide +kernel, by decide +kernel⟩
def M_Shapes_innerOf : MI := (⟨"CloudDepth$Shapes", "innerOf", "(LCloudDepth$Cloud;I)I"⟩, prog_9_method_11_code, 3, (some .int), "CloudDepth$Shapes", mF_7, (fun _ => none), { frames := 3, cells := 0, slots := 0, locals := 71 })
theorem ok_Shapes_innerOf : MOK M_Shapes_innerOf := ⟨by decide, wd_945, rfl, rfl, rfl, fOK_7, (fun i v h => by cases h)⟩
theorem ds_Shapes_innerOf : (mY M_Shapes_innerOf).cls ≠ "java/lang/invoke/MethodHandle" ∧ (mY M_Shapes_innerOf).cls ≠ "java/lang/invoke/VarHandle" ∧ (parseMethodDescriptor (mY M_Shapes_innerOf).desc).map (fun d => d.parameters.length) = some 2 := ⟨by decide +kernel, by decide +kernel, by decide +kernel⟩
def M_Shapes_meet : MI := (⟨"CloudDepth$Shapes", "meet", "(LCloudDepth$Cloud;III)Z"⟩, prog_9_method_13_code, 6, (some .boolean), "CloudDepth$Shapes", mF_7, (fun _ => none), { frames := 2, cells := 0, slots := 0, locals := 47 })
theorem ok_Shapes_meet : MOK M_Shapes_meet := ⟨by decide, wd_946, rfl, rfl, rfl, fOK_7, (fun i v h => by cases h)⟩
theorem ds_Shapes_meet : (mY M_Shapes_meet).cls ≠ "java/lang/invoke/MethodHandle" ∧ (mY M_Shapes_meet).cls ≠ "java/lang/invoke/VarHandle" ∧ (parseMethodDescriptor (mY M_Shapes_meet).desc).map (fun d => d.parameters.length) = some 4 := ⟨by decide +kernel, by decide +kernel, by decide +kernel⟩
def M_Shapes_partWithLeast : MI := (⟨"CloudDepth$Shapes", "partWithLeast", "(LCloudDepth$Cloud;I)I"⟩, prog_9_method_12_code, 7, (some .int), "CloudDepth$Shapes", mF_7, (fun _ => none), { frames := 4, cells := 0, slots := 0, locals := 93 })
theorem ok_Shapes_partWithLeast : MOK M_Shapes_partWithLeast := ⟨by decide, wd_947, rfl, rfl, rfl, fOK_7, (fun i v h => by cases h)⟩
theorem ds_Shapes_partWithLeast : (mY M_Shapes_partWithLeast).cls ≠ "java/lang/invoke/MethodHandle" ∧ (mY M_Shapes_partWithLeast).cls ≠ "java/lang/invoke/VarHandle" ∧ (parseMethodDescriptor (mY M_Shapes_partWithLeast).desc).map (fun d => d.parameters.length) = some 2 := ⟨by decide +kernel, by decide +kernel, by decide +kernel⟩
def M_C_four : MI := (⟨"CloudDepth", "four", "(IIII)I"⟩, prog_1_method_32_code, 6, (some .int), "CloudDepth", mF_11, mK_C, { frames := 5, cells := 0, slots := 0, locals := 119 })
theorem ok_C_four : MOK M_C_four := ⟨by decide, wd_948, rfl, rfl, rfl, fOK_11, kOK_C⟩
theorem ds_C_four : (mY M_C_four).cls ≠ "java/lang/invoke/MethodHandle" ∧ (mY M_C_four).cls ≠ "java/lang/invoke/VarHandle" ∧ (parseMethodDescriptor (mY M_C_four).desc).map (fun d => d.parameters.length) = some 4 := ⟨by decide +kernel, by decide +kernel, by decide +kernel⟩
def M_R_topmost : MI := (⟨"CloudDepthModel", "topmost", "(I)I"⟩, prog_14_method_72_code, 2, (some .int), "CloudDepthModel", mF_12, mK_R, { frames := 0, cells := 0, slots := 0, locals := 0 })
theorem ok_R_topmost : MOK M_R_topmost := ⟨by decide, wd_949, rfl, rfl, rfl, fOK_12, kOK_R⟩
theorem ds_R_topmost : (mY M_R_topmost).cls ≠ "java/lang/invoke/MethodHandle" ∧ (mY M_R_topmost).cls ≠ "java/lang/invoke/VarHandle" ∧ (parseMethodDescriptor (mY M_R_topmost).desc).map (fun d => d.parameters.length) = some 1 := ⟨by decide +kernel, by decide +kernel, by decide +kernel⟩
def M_R_four : MI := (⟨"CloudDepthModel", "four", "(IIII)I"⟩, prog_14_method_71_code, 7, (some .int), "CloudDepthModel", mF_12, mK_R, { frames := 5, cells := 0, slots := 0, locals := 118 })
theorem ok_R_four : MOK M_R_four := ⟨by decide, wd_950, rfl, rfl, rfl, fOK_12, kOK_R⟩
theorem ds_R_four : (mY M_R_four).cls ≠ "java/lang/invoke/MethodHandle" ∧ (mY M_R_four).cls ≠ "java/lang/invoke/VarHandle" ∧ (parseMethodDescriptor (mY M_R_four).desc).map (fun d => d.parameters.length) = some 4 := ⟨by decide +kernel, by decide +kernel, by decide +kernel⟩
def M_Shapes_keepsTurns : MI := (⟨"CloudDepth$Shapes", "keepsTurns", "(LCloudDepth$Cloud;III)Z"⟩, prog_9_method_17_code, 6, (some .boolean), "CloudDepth$Shapes", mF_7, (fun _ => none), { frames := 2, cells := 0, slots := 0, locals := 47 })
theorem ok_Shapes_keepsTurns : MOK M_Shapes_keepsTurns := ⟨by decide, wd_951, rfl, rfl, rfl, fOK_7, (fun i v h => by cases h)⟩
theorem ds_Shapes_keepsTurns : (mY M_Shapes_keepsTurns).cls ≠ "java/lang/invoke/MethodHandle" ∧ (mY M_Shapes_keepsTurns).cls ≠ "java/lang/invoke/VarHandle" ∧ (parseMethodDescriptor (mY M_Shapes_keepsTurns).desc).map (fun d => d.parameters.length) = some 4 := ⟨by decide +kernel, by decide +kernel, by decide +kernel⟩
def M_Shapes_keepingPlaces : MI := (⟨"CloudDepth$Shapes", "keepingPlaces", "(LCloudDepth$Cloud;I)I"⟩, prog_9_method_16_code, 7, (some .int), "CloudDepth$Shapes", mF_7, (fun _ => none), { frames := 3, cells := 0, slots := 0, locals := 72 })
theorem ok_Shapes_keepingPlaces : MOK M_Shapes_keepingPlaces := ⟨by decide, wd_952, rfl, rfl, rfl, fOK_7, (fun i v h => by cases h)⟩
theorem ds_Shapes_keepingPlaces : (mY M_Shapes_keepingPlaces).cls ≠ "java/lang/invoke/MethodHandle" ∧ (mY M_Shapes_keepingPlaces).cls ≠ "java/lang/invoke/VarHandle" ∧ (parseMethodDescriptor (mY M_Shapes_keepingPlaces).desc).map (fun d => d.parameters.length) = some 2 := ⟨by decide +kernel, by decide +kernel, by decide +kernel⟩
def M_C_keeping : MI := (⟨"CloudDepth", "keeping", "(I)I"⟩, prog_1_method_33_code, 2, (some .int), "CloudDepth", mF_11, mK_C, { frames := 4, cells := 0, slots := 0, locals := 98 })
theorem ok_C_keeping : MOK M_C_keeping := ⟨by decide, wd_953, rfl, rfl, rfl, fOK_11, kOK_C⟩
theorem ds_C_keeping : (mY M_C_keeping).cls ≠ "java/lang/invoke/MethodHandle" ∧ (mY M_C_keeping).cls ≠ "java/lang/invoke/VarHandle" ∧ (parseMethodDescriptor (mY M_C_keeping).desc).map (fun d => d.parameters.length) = some 1 := ⟨by decide +kernel, by decide +kernel, by decide +kernel⟩
def M_R_keeps : MI := (⟨"CloudDepthModel", "keeps", "(III)Z"⟩, prog_14_method_91_code, 9, (some .boolean), "CloudDepthModel", mF_12, mK_R, { frames := 3, cells := 0, slots := 0, locals := 69 })
theorem ok_R_keeps : MOK M_R_keeps := ⟨by decide, wd_954, rfl, rfl, rfl, fOK_12, kOK_R⟩
theorem ds_R_keeps : (mY M_R_keeps).cls ≠ "java/lang/invoke/MethodHandle" ∧ (mY M_R_keeps).cls ≠ "java/lang/invoke/VarHandle" ∧ (parseMethodDescriptor (mY M_R_keeps).desc).map (fun d => d.parameters.length) = some 3 := ⟨by decide +kernel, by decide +kernel, by decide +kernel⟩
def M_R_keeping : MI := (⟨"CloudDepthModel", "keeping", "(I)I"⟩, prog_14_method_92_code, 6, (some .int), "CloudDepthModel", mF_12, mK_R, { frames := 4, cells := 0, slots := 0, locals := 97 })
theorem ok_R_keeping : MOK M_R_keeping := ⟨by decide, wd_955, rfl, rfl, rfl, fOK_12, kOK_R⟩
theorem ds_R_keeping : (mY M_R_keeping).cls ≠ "java/lang/invoke/MethodHandle" ∧ (mY M_R_keeping).cls ≠ "java/lang/invoke/VarHandle" ∧ (parseMethodDescriptor (mY M_R_keeping).desc).map (fun d => d.parameters.length) = some 1 := ⟨by decide +kernel, by decide +kernel, by decide +kernel⟩
def M_Cuts_countAll : MI := (⟨"CloudDepth$Cuts", "countAll", "(LCloudDepth$Cloud;)I"⟩, prog_3_method_7_code, 4, (some .int), "CloudDepth$Cuts", mF_1, (fun _ => none), { frames := 1, cells := 0, slots := 0, locals := 21 })
theorem ok_Cuts_countAll : MOK M_Cuts_countAll := ⟨by decide, wd_956, rfl, rfl, rfl, fOK_1, (fun i v h => by cases h)⟩
theorem ds_Cuts_countAll : (mY M_Cuts_countAll).cls ≠ "java/lang/invoke/MethodHandle" ∧ (mY M_Cuts_countAll).cls ≠ "java/lang/invoke/VarHandle" ∧ (parseMethodDescriptor (mY M_Cuts_countAll).desc).map (fun d => d.parameters.length) = some 1 := ⟨by decide +kernel, by decide +kernel, by decide +kernel⟩
def M_C_splits : MI := (⟨"CloudDepth", "splits", "()I"⟩, prog_1_method_26_code, 2, (some .int), "CloudDepth", mF_11, mK_C, { frames := 4, cells := 0, slots := 0, locals := 99 })
theorem ok_C_splits : MOK M_C_splits := ⟨by decide, wd_957, rfl, rfl, rfl, fOK_11, kOK_C⟩
theorem ds_C_splits : (mY M_C_splits).cls ≠ "java/lang/invoke/MethodHandle" ∧ (mY M_C_splits).cls ≠ "java/lang/invoke/VarHandle" ∧ (parseMethodDescriptor (mY M_C_splits).desc).map (fun d => d.parameters.length) = some 0 := ⟨by decide +kernel, by decide +kernel, by decide +kernel⟩
def M_R_splits : MI := (⟨"CloudDepthModel", "splits", "()I"⟩, prog_14_method_70_code, 3, (some .int), "CloudDepthModel", mF_12, mK_R, { frames := 5, cells := 0, slots := 0, locals := 118 })
theorem ok_R_splits : MOK M_R_splits := ⟨by decide, wd_958, rfl, rfl, rfl, fOK_12, kOK_R⟩
theorem ds_R_splits : (mY M_R_splits).cls ≠ "java/lang/invoke/MethodHandle" ∧ (mY M_R_splits).cls ≠ "java/lang/invoke/VarHandle" ∧ (parseMethodDescriptor (mY M_R_splits).desc).map (fun d => d.parameters.length) = some 0 := ⟨by decide +kernel, by decide +kernel, by decide +kernel⟩
def M_Depths_greatestOf : MI := (⟨"CloudDepth$Depths", "greatestOf", "(LCloudDepth$Cloud;)I"⟩, prog_4_method_6_code, 5, (some .int), "CloudDepth$Depths", mF_2, (fun _ => none), { frames := 3, cells := 0, slots := 0, locals := 77 })
theorem ok_Depths_greatestOf : MOK M_Depths_greatestOf := ⟨by decide, wd_959, rfl, rfl, rfl, fOK_2, (fun i v h => by cases h)⟩
theorem ds_Depths_greatestOf : (mY M_Depths_greatestOf).cls ≠ "java/lang/invoke/MethodHandle" ∧ (mY M_Depths_greatestOf).cls ≠ "java/lang/invoke/VarHandle" ∧ (parseMethodDescriptor (mY M_Depths_greatestOf).desc).map (fun d => d.parameters.length) = some 1 := ⟨by decide +kernel, by decide +kernel, by decide +kernel⟩
def M_C_fresh : MI := (⟨"CloudDepth", "fresh", "(III)I"⟩, prog_1_method_30_code, 4, (some .int), "CloudDepth", mF_11, mK_C, { frames := 5, cells := 0, slots := 0, locals := 119 })
theorem ok_C_fresh : MOK M_C_fresh := ⟨by decide, wd_960, rfl, rfl, rfl, fOK_11, kOK_C⟩
theorem ds_C_fresh : (mY M_C_fresh).cls ≠ "java/lang/invoke/MethodHandle" ∧ (mY M_C_fresh).cls ≠ "java/lang/invoke/VarHandle" ∧ (parseMethodDescriptor (mY M_C_fresh).desc).map (fun d => d.parameters.length) = some 3 := ⟨by decide +kernel, by decide +kernel, by decide +kernel⟩
def M_R_fresh : MI := (⟨"CloudDepthModel", "fresh", "(III)I"⟩, prog_14_method_93_code, 5, (some .int), "CloudDepthModel", mF_12, mK_R, { frames := 7, cells := 0, slots := 0, locals := 167 })
theorem ok_R_fresh : MOK M_R_fresh := ⟨by decide, wd_961, rfl, rfl, rfl, fOK_12, kOK_R⟩
theorem ds_R_fresh : (mY M_R_fresh).cls ≠ "java/lang/invoke/MethodHandle" ∧ (mY M_R_fresh).cls ≠ "java/lang/invoke/VarHandle" ∧ (parseMethodDescriptor (mY M_R_fresh).desc).map (fun d => d.parameters.length) = some 3 := ⟨by decide +kernel, by decide +kernel, by decide +kernel⟩
def M_C_hold : MI := (⟨"CloudDepth", "hold", "(I)Z"⟩, prog_1_method_11_code, 2, (some .boolean), "CloudDepth", mF_11, mK_C, { frames := 1, cells := 0, slots := 0, locals := 24 })
theorem ok_C_hold : MOK M_C_hold := ⟨by decide, wd_962, rfl, rfl, rfl, fOK_11, kOK_C⟩
theorem ds_C_hold : (mY M_C_hold).cls ≠ "java/lang/invoke/MethodHandle" ∧ (mY M_C_hold).cls ≠ "java/lang/invoke/VarHandle" ∧ (parseMethodDescriptor (mY M_C_hold).desc).map (fun d => d.parameters.length) = some 1 := ⟨by decide +kernel, by decide +kernel, by decide +kernel⟩
def M_R_hold : MI := (⟨"CloudDepthModel", "hold", "(I)Z"⟩, prog_14_method_37_code, 3, (some .boolean), "CloudDepthModel", mF_12, mK_R, { frames := 1, cells := 0, slots := 0, locals := 22 })
theorem ok_R_hold : MOK M_R_hold := ⟨by decide, wd_963, rfl, rfl, rfl, fOK_12, kOK_R⟩
theorem ds_R_hold : (mY M_R_hold).cls ≠ "java/lang/invoke/MethodHandle" ∧ (mY M_R_hold).cls ≠ "java/lang/invoke/VarHandle" ∧ (parseMethodDescriptor (mY M_R_hold).desc).map (fun d => d.parameters.length) = some 1 := ⟨by decide +kernel, by decide +kernel, by decide +kernel⟩
def M_C_restore : MI := (⟨"CloudDepth", "restore", "(I)Z"⟩, prog_1_method_12_code, 2, (some .boolean), "CloudDepth", mF_11, mK_C, { frames := 2, cells := 0, slots := 0, locals := 46 })
theorem ok_C_restore : MOK M_C_restore := ⟨by decide, wd_964, rfl, rfl, rfl, fOK_11, kOK_C⟩
theorem ds_C_restore : (mY M_C_restore).cls ≠ "java/lang/invoke/MethodHandle" ∧ (mY M_C_restore).cls ≠ "java/lang/invoke/VarHandle" ∧ (parseMethodDescriptor (mY M_C_restore).desc).map (fun d => d.parameters.length) = some 1 := ⟨by decide +kernel, by decide +kernel, by decide +kernel⟩
def M_R_restore : MI := (⟨"CloudDepthModel", "restore", "(I)Z"⟩, prog_14_method_38_code, 3, (some .boolean), "CloudDepthModel", mF_12, mK_R, { frames := 1, cells := 0, slots := 0, locals := 22 })
theorem ok_R_restore : MOK M_R_restore := ⟨by decide, wd_965, rfl, rfl, rfl, fOK_12, kOK_R⟩
theorem ds_R_restore : (mY M_R_restore).cls ≠ "java/lang/invoke/MethodHandle" ∧ (mY M_R_restore).cls ≠ "java/lang/invoke/VarHandle" ∧ (parseMethodDescriptor (mY M_R_restore).desc).map (fun d => d.parameters.length) = some 1 := ⟨by decide +kernel, by decide +kernel, by decide +kernel⟩
def M_Hulls_areaTwice : MI := (⟨"CloudDepth$Hulls", "areaTwice", "(LCloudDepth$Cloud;)I"⟩, prog_6_method_7_code, 4, (some .int), "CloudDepth$Hulls", mF_4, (fun _ => none), { frames := 2, cells := 0, slots := 0, locals := 47 })
theorem ok_Hulls_areaTwice : MOK M_Hulls_areaTwice := ⟨by decide, wd_966, rfl, rfl, rfl, fOK_4, (fun i v h => by cases h)⟩
theorem ds_Hulls_areaTwice : (mY M_Hulls_areaTwice).cls ≠ "java/lang/invoke/MethodHandle" ∧ (mY M_Hulls_areaTwice).cls ≠ "java/lang/invoke/VarHandle" ∧ (parseMethodDescriptor (mY M_Hulls_areaTwice).desc).map (fun d => d.parameters.length) = some 1 := ⟨by decide +kernel, by decide +kernel, by decide +kernel⟩
def M_Shapes_triplesOnOneLine : MI := (⟨"CloudDepth$Shapes", "triplesOnOneLine", "(LCloudDepth$Cloud;)I"⟩, prog_9_method_3_code, 6, (some .int), "CloudDepth$Shapes", mF_7, (fun _ => none), { frames := 2, cells := 0, slots := 0, locals := 47 })
theorem ok_Shapes_triplesOnOneLine : MOK M_Shapes_triplesOnOneLine := ⟨by decide, wd_967, rfl, rfl, rfl, fOK_7, (fun i v h => by cases h)⟩
theorem ds_Shapes_triplesOnOneLine : (mY M_Shapes_triplesOnOneLine).cls ≠ "java/lang/invoke/MethodHandle" ∧ (mY M_Shapes_triplesOnOneLine).cls ≠ "java/lang/invoke/VarHandle" ∧ (parseMethodDescriptor (mY M_Shapes_triplesOnOneLine).desc).map (fun d => d.parameters.length) = some 1 := ⟨by decide +kernel, by decide +kernel, by decide +kernel⟩
def M_C_greatestPointDepth : MI := (⟨"CloudDepth", "greatestPointDepth", "()I"⟩, prog_1_method_40_code, 3, (some .int), "CloudDepth", mF_11, mK_C, { frames := 4, cells := 0, slots := 0, locals := 100 })
theorem ok_C_greatestPointDepth : MOK M_C_greatestPointDepth := ⟨by decide, wd_968, rfl, rfl, rfl, fOK_11, kOK_C⟩
theorem ds_C_greatestPointDepth : (mY M_C_greatestPointDepth).cls ≠ "java/lang/invoke/MethodHandle" ∧ (mY M_C_greatestPointDepth).cls ≠ "java/lang/invoke/VarHandle" ∧ (parseMethodDescriptor (mY M_C_greatestPointDepth).desc).map (fun d => d.parameters.length) = some 0 := ⟨by decide +kernel, by decide +kernel, by decide +kernel⟩
def M_C_pointsOfDepth : MI := (⟨"CloudDepth", "pointsOfDepth", "(I)I"⟩, prog_1_method_41_code, 4, (some .int), "CloudDepth", mF_11, mK_C, { frames := 4, cells := 0, slots := 0, locals := 100 })
theorem ok_C_pointsOfDepth : MOK M_C_pointsOfDepth := ⟨by decide, wd_969, rfl, rfl, rfl, fOK_11, kOK_C⟩
theorem ds_C_pointsOfDepth : (mY M_C_pointsOfDepth).cls ≠ "java/lang/invoke/MethodHandle" ∧ (mY M_C_pointsOfDepth).cls ≠ "java/lang/invoke/VarHandle" ∧ (parseMethodDescriptor (mY M_C_pointsOfDepth).desc).map (fun d => d.parameters.length) = some 1 := ⟨by decide +kernel, by decide +kernel, by decide +kernel⟩
def M_C_slotsInUse : MI := (⟨"CloudDepth", "slotsInUse", "()I"⟩, prog_1_method_42_code, 3, (some .int), "CloudDepth", mF_11, mK_C, { frames := 0, cells := 0, slots := 0, locals := 0 })
theorem ok_C_slotsInUse : MOK M_C_slotsInUse := ⟨by decide, wd_970, rfl, rfl, rfl, fOK_11, kOK_C⟩
theorem ds_C_slotsInUse : (mY M_C_slotsInUse).cls ≠ "java/lang/invoke/MethodHandle" ∧ (mY M_C_slotsInUse).cls ≠ "java/lang/invoke/VarHandle" ∧ (parseMethodDescriptor (mY M_C_slotsInUse).desc).map (fun d => d.parameters.length) = some 0 := ⟨by decide +kernel, by decide +kernel, by decide +kernel⟩
def M_C_thirdPart : MI := (⟨"CloudDepth", "thirdPart", "()I"⟩, prog_1_method_43_code, 1, (some .int), "CloudDepth", mF_11, mK_C, { frames := 0, cells := 0, slots := 0, locals := 0 })
theorem ok_C_thirdPart : MOK M_C_thirdPart := ⟨by decide, wd_971, rfl, rfl, rfl, fOK_11, kOK_C⟩
theorem ds_C_thirdPart : (mY M_C_thirdPart).cls ≠ "java/lang/invoke/MethodHandle" ∧ (mY M_C_thirdPart).cls ≠ "java/lang/invoke/VarHandle" ∧ (parseMethodDescriptor (mY M_C_thirdPart).desc).map (fun d => d.parameters.length) = some 0 := ⟨by decide +kernel, by decide +kernel, by decide +kernel⟩
def M_Shapes_isConvex : MI := (⟨"CloudDepth$Shapes", "isConvex", "(LCloudDepth$Cloud;I)Z"⟩, prog_9_method_9_code, 5, (some .boolean), "CloudDepth$Shapes", mF_7, (fun _ => none), { frames := 4, cells := 0, slots := 0, locals := 93 })
theorem ok_Shapes_isConvex : MOK M_Shapes_isConvex := ⟨by decide, wd_972, rfl, rfl, rfl, fOK_7, (fun i v h => by cases h)⟩
theorem ds_Shapes_isConvex : (mY M_Shapes_isConvex).cls ≠ "java/lang/invoke/MethodHandle" ∧ (mY M_Shapes_isConvex).cls ≠ "java/lang/invoke/VarHandle" ∧ (parseMethodDescriptor (mY M_Shapes_isConvex).desc).map (fun d => d.parameters.length) = some 2 := ⟨by decide +kernel, by decide +kernel, by decide +kernel⟩
def M_Shapes_greatestConvex : MI := (⟨"CloudDepth$Shapes", "greatestConvex", "(LCloudDepth$Cloud;)I"⟩, prog_9_method_8_code, 4, (some .int), "CloudDepth$Shapes", mF_7, (fun _ => none), { frames := 5, cells := 0, slots := 0, locals := 117 })
theorem ok_Shapes_greatestConvex : MOK M_Shapes_greatestConvex := ⟨by decide, wd_973, rfl, rfl, rfl, fOK_7, (fun i v h => by cases h)⟩
theorem ds_Shapes_greatestConvex : (mY M_Shapes_greatestConvex).cls ≠ "java/lang/invoke/MethodHandle" ∧ (mY M_Shapes_greatestConvex).cls ≠ "java/lang/invoke/VarHandle" ∧ (parseMethodDescriptor (mY M_Shapes_greatestConvex).desc).map (fun d => d.parameters.length) = some 1 := ⟨by decide +kernel, by decide +kernel, by decide +kernel⟩
def M_Shapes_isEmpty : MI := (⟨"CloudDepth$Shapes", "isEmpty", "(LCloudDepth$Cloud;I)Z"⟩, prog_9_method_5_code, 3, (some .boolean), "CloudDepth$Shapes", mF_7, (fun _ => none), { frames := 3, cells := 0, slots := 0, locals := 71 })
theorem ok_Shapes_isEmpty : MOK M_Shapes_isEmpty := ⟨by decide, wd_974, rfl, rfl, rfl, fOK_7, (fun i v h => by cases h)⟩
theorem ds_Shapes_isEmpty : (mY M_Shapes_isEmpty).cls ≠ "java/lang/invoke/MethodHandle" ∧ (mY M_Shapes_isEmpty).cls ≠ "java/lang/invoke/VarHandle" ∧ (parseMethodDescriptor (mY M_Shapes_isEmpty).desc).map (fun d => d.parameters.length) = some 2 := ⟨by decide +kernel, by decide +kernel, by decide +kernel⟩
def M_Shapes_emptyTriangles : MI := (⟨"CloudDepth$Shapes", "emptyTriangles", "(LCloudDepth$Cloud;)I"⟩, prog_9_method_4_code, 6, (some .int), "CloudDepth$Shapes", mF_7, (fun _ => none), { frames := 4, cells := 0, slots := 0, locals := 93 })
theorem ok_Shapes_emptyTriangles : MOK M_Shapes_emptyTriangles := ⟨by decide, wd_975, rfl, rfl, rfl, fOK_7, (fun i v h => by cases h)⟩
theorem ds_Shapes_emptyTriangles : (mY M_Shapes_emptyTriangles).cls ≠ "java/lang/invoke/MethodHandle" ∧ (mY M_Shapes_emptyTriangles).cls ≠ "java/lang/invoke/VarHandle" ∧ (parseMethodDescriptor (mY M_Shapes_emptyTriangles).desc).map (fun d => d.parameters.length) = some 1 := ⟨by decide +kernel, by decide +kernel, by decide +kernel⟩
def M_Shapes_meetingBehind : MI := (⟨"CloudDepth$Shapes", "meetingBehind", "(LCloudDepth$Cloud;II)I"⟩, prog_9_method_15_code, 6, (some .int), "CloudDepth$Shapes", mF_7, (fun _ => none), { frames := 3, cells := 0, slots := 0, locals := 72 })
theorem ok_Shapes_meetingBehind : MOK M_Shapes_meetingBehind := ⟨by decide, wd_976, rfl, rfl, rfl, fOK_7, (fun i v h => by cases h)⟩
theorem ds_Shapes_meetingBehind : (mY M_Shapes_meetingBehind).cls ≠ "java/lang/invoke/MethodHandle" ∧ (mY M_Shapes_meetingBehind).cls ≠ "java/lang/invoke/VarHandle" ∧ (parseMethodDescriptor (mY M_Shapes_meetingBehind).desc).map (fun d => d.parameters.length) = some 3 := ⟨by decide +kernel, by decide +kernel, by decide +kernel⟩
def M_Shapes_meetingPairs : MI := (⟨"CloudDepth$Shapes", "meetingPairs", "(LCloudDepth$Cloud;)I"⟩, prog_9_method_14_code, 5, (some .int), "CloudDepth$Shapes", mF_7, (fun _ => none), { frames := 4, cells := 0, slots := 0, locals := 97 })
theorem ok_Shapes_meetingPairs : MOK M_Shapes_meetingPairs := ⟨by decide, wd_977, rfl, rfl, rfl, fOK_7, (fun i v h => by cases h)⟩
theorem ds_Shapes_meetingPairs : (mY M_Shapes_meetingPairs).cls ≠ "java/lang/invoke/MethodHandle" ∧ (mY M_Shapes_meetingPairs).cls ≠ "java/lang/invoke/VarHandle" ∧ (parseMethodDescriptor (mY M_Shapes_meetingPairs).desc).map (fun d => d.parameters.length) = some 1 := ⟨by decide +kernel, by decide +kernel, by decide +kernel⟩
def M_C_count : MI := (⟨"CloudDepth", "count", "(I)I"⟩, prog_1_method_39_code, 2, (some .int), "CloudDepth", mF_11, mK_C, { frames := 6, cells := 0, slots := 0, locals := 144 })
theorem ok_C_count : MOK M_C_count := ⟨by decide, wd_978, rfl, rfl, rfl, fOK_11, kOK_C⟩
theorem ds_C_count : (mY M_C_count).cls ≠ "java/lang/invoke/MethodHandle" ∧ (mY M_C_count).cls ≠ "java/lang/invoke/VarHandle" ∧ (parseMethodDescriptor (mY M_C_count).desc).map (fun d => d.parameters.length) = some 1 := ⟨by decide +kernel, by decide +kernel, by decide +kernel⟩
def M_R_area : MI := (⟨"CloudDepthModel", "area", "()I"⟩, prog_14_method_58_code, 6, (some .int), "CloudDepthModel", mF_12, mK_R, { frames := 8, cells := 0, slots := 0, locals := 194 })
theorem ok_R_area : MOK M_R_area := ⟨by decide, wd_979, rfl, rfl, rfl, fOK_12, kOK_R⟩
theorem ds_R_area : (mY M_R_area).cls ≠ "java/lang/invoke/MethodHandle" ∧ (mY M_R_area).cls ≠ "java/lang/invoke/VarHandle" ∧ (parseMethodDescriptor (mY M_R_area).desc).map (fun d => d.parameters.length) = some 0 := ⟨by decide +kernel, by decide +kernel, by decide +kernel⟩
def M_R_onLine : MI := (⟨"CloudDepthModel", "onLine", "()I"⟩, prog_14_method_79_code, 5, (some .int), "CloudDepthModel", mF_12, mK_R, { frames := 3, cells := 0, slots := 0, locals := 69 })
theorem ok_R_onLine : MOK M_R_onLine := ⟨by decide, wd_980, rfl, rfl, rfl, fOK_12, kOK_R⟩
theorem ds_R_onLine : (mY M_R_onLine).cls ≠ "java/lang/invoke/MethodHandle" ∧ (mY M_R_onLine).cls ≠ "java/lang/invoke/VarHandle" ∧ (parseMethodDescriptor (mY M_R_onLine).desc).map (fun d => d.parameters.length) = some 0 := ⟨by decide +kernel, by decide +kernel, by decide +kernel⟩
def M_R_deepestPoint : MI := (⟨"CloudDepthModel", "deepestPoint", "(Z)I"⟩, prog_14_method_86_code, 6, (some .int), "CloudDepthModel", mF_12, mK_R, { frames := 3, cells := 0, slots := 0, locals := 80 })
theorem ok_R_deepestPoint : MOK M_R_deepestPoint := ⟨by decide, wd_981, rfl, rfl, rfl, fOK_12, kOK_R⟩
theorem ds_R_deepestPoint : (mY M_R_deepestPoint).cls ≠ "java/lang/invoke/MethodHandle" ∧ (mY M_R_deepestPoint).cls ≠ "java/lang/invoke/VarHandle" ∧ (parseMethodDescriptor (mY M_R_deepestPoint).desc).map (fun d => d.parameters.length) = some 1 := ⟨by decide +kernel, by decide +kernel, by decide +kernel⟩
def M_R_third : MI := (⟨"CloudDepthModel", "third", "()I"⟩, prog_14_method_104_code, 1, (some .int), "CloudDepthModel", mF_12, mK_R, { frames := 1, cells := 0, slots := 0, locals := 20 })
theorem ok_R_third : MOK M_R_third := ⟨by decide, wd_982, rfl, rfl, rfl, fOK_12, kOK_R⟩
theorem ds_R_third : (mY M_R_third).cls ≠ "java/lang/invoke/MethodHandle" ∧ (mY M_R_third).cls ≠ "java/lang/invoke/VarHandle" ∧ (parseMethodDescriptor (mY M_R_third).desc).map (fun d => d.parameters.length) = some 0 := ⟨by decide +kernel, by decide +kernel, by decide +kernel⟩
def M_R_convexMost : MI := (⟨"CloudDepthModel", "convexMost", "()I"⟩, prog_14_method_73_code, 5, (some .int), "CloudDepthModel", mF_12, mK_R, { frames := 5, cells := 0, slots := 0, locals := 118 })
theorem ok_R_convexMost : MOK M_R_convexMost := ⟨by decide, wd_983, rfl, rfl, rfl, fOK_12, kOK_R⟩
theorem ds_R_convexMost : (mY M_R_convexMost).cls ≠ "java/lang/invoke/MethodHandle" ∧ (mY M_R_convexMost).cls ≠ "java/lang/invoke/VarHandle" ∧ (parseMethodDescriptor (mY M_R_convexMost).desc).map (fun d => d.parameters.length) = some 0 := ⟨by decide +kernel, by decide +kernel, by decide +kernel⟩
def M_R_isEmpty : MI := (⟨"CloudDepthModel", "isEmpty", "(III)Z"⟩, prog_14_method_78_code, 5, (some .boolean), "CloudDepthModel", mF_12, mK_R, { frames := 4, cells := 0, slots := 0, locals := 95 })
theorem ok_R_isEmpty : MOK M_R_isEmpty := ⟨by decide, wd_984, rfl, rfl, rfl, fOK_12, kOK_R⟩
theorem ds_R_isEmpty : (mY M_R_isEmpty).cls ≠ "java/lang/invoke/MethodHandle" ∧ (mY M_R_isEmpty).cls ≠ "java/lang/invoke/VarHandle" ∧ (parseMethodDescriptor (mY M_R_isEmpty).desc).map (fun d => d.parameters.length) = some 3 := ⟨by decide +kernel, by decide +kernel, by decide +kernel⟩
def M_R_emptyOnes : MI := (⟨"CloudDepthModel", "emptyOnes", "()I"⟩, prog_14_method_77_code, 5, (some .int), "CloudDepthModel", mF_12, mK_R, { frames := 5, cells := 0, slots := 0, locals := 119 })
theorem ok_R_emptyOnes : MOK M_R_emptyOnes := ⟨by decide, wd_985, rfl, rfl, rfl, fOK_12, kOK_R⟩
theorem ds_R_emptyOnes : (mY M_R_emptyOnes).cls ≠ "java/lang/invoke/MethodHandle" ∧ (mY M_R_emptyOnes).cls ≠ "java/lang/invoke/VarHandle" ∧ (parseMethodDescriptor (mY M_R_emptyOnes).desc).map (fun d => d.parameters.length) = some 0 := ⟨by decide +kernel, by decide +kernel, by decide +kernel⟩
def M_R_crossingWays : MI := (⟨"CloudDepthModel", "crossingWays", "()I"⟩, prog_14_method_74_code, 3, (some .int), "CloudDepthModel", mF_12, mK_R, { frames := 5, cells := 0, slots := 0, locals := 118 })
theorem ok_R_crossingWays : MOK M_R_crossingWays := ⟨by decide, wd_986, rfl, rfl, rfl, fOK_12, kOK_R⟩
theorem ds_R_crossingWays : (mY M_R_crossingWays).cls ≠ "java/lang/invoke/MethodHandle" ∧ (mY M_R_crossingWays).cls ≠ "java/lang/invoke/VarHandle" ∧ (parseMethodDescriptor (mY M_R_crossingWays).desc).map (fun d => d.parameters.length) = some 0 := ⟨by decide +kernel, by decide +kernel, by decide +kernel⟩
def M_R_count : MI := (⟨"CloudDepthModel", "count", "(I)I"⟩, prog_14_method_105_code, 2, (some .int), "CloudDepthModel", mF_12, mK_R, { frames := 9, cells := 0, slots := 0, locals := 219 })
theorem ok_R_count : MOK M_R_count := ⟨by decide, wd_987, rfl, rfl, rfl, fOK_12, kOK_R⟩
theorem ds_R_count : (mY M_R_count).cls ≠ "java/lang/invoke/MethodHandle" ∧ (mY M_R_count).cls ≠ "java/lang/invoke/VarHandle" ∧ (parseMethodDescriptor (mY M_R_count).desc).map (fun d => d.parameters.length) = some 1 := ⟨by decide +kernel, by decide +kernel, by decide +kernel⟩
theorem st_0_0 {o : Nat} (h : ak o = 0 ∧ cx o = 0) : ak (rf o 0) = 1 ∧ cx (rf o 0) = 12 := by
  have hlt : o < NO := ob_lt (by rw [h.1]; decide)
  exact (by decide +kernel : ∀ o, o < NO → ak o = 0 ∧ cx o = 0 → ak (rf o 0) = 1 ∧ cx (rf o 0) = 12) o hlt h
theorem st_0_1 {o : Nat} (h : ak o = 0 ∧ cx o = 0) : ak (rf o 1) = 1 ∧ cx (rf o 1) = 12 := by
  have hlt : o < NO := ob_lt (by rw [h.1]; decide)
  exact (by decide +kernel : ∀ o, o < NO → ak o = 0 ∧ cx o = 0 → ak (rf o 1) = 1 ∧ cx (rf o 1) = 12) o hlt h
theorem st_6_0 {o : Nat} (h : ak o = 0 ∧ cx o = 6) : ak (rf o 0) = 1 ∧ cx (rf o 0) = 128 := by
  have hlt : o < NO := ob_lt (by rw [h.1]; decide)
  exact (by decide +kernel : ∀ o, o < NO → ak o = 0 ∧ cx o = 6 → ak (rf o 0) = 1 ∧ cx (rf o 0) = 128) o hlt h
theorem st_8_0 {o : Nat} (h : ak o = 0 ∧ cx o = 8) : ak (rf o 0) = 5 := by
  have hlt : o < NO := ob_lt (by rw [h.1]; decide)
  exact (by decide +kernel : ∀ o, o < NO → ak o = 0 ∧ cx o = 8 → ak (rf o 0) = 5) o hlt h
theorem st_row {o i : Nat} (h : ak o = 5) : ak (rf o i) = 1 ∧ cx (rf o i) = 26 := by
  have hlt : o < NO := ob_lt (by rw [h]; decide)
  have key : ∀ o, o < NO → ak o = 5 → ∀ x ∈ (ob o).2.2, ak x = 1 ∧ cx x = 26 := by decide +kernel
  unfold rf
  rw [List.getD_eq_getElem?_getD]
  cases hq : (ob o).2.2[i]? with
  | none => exact ⟨by decide +kernel, by decide +kernel⟩
  | some x => exact key o hlt h x (List.mem_of_getElem? hq)
end
section
def f_Tape_push_L1 (x1 : Int32) (x2 : Int32) (h : pH) : Option ((Int32 × pH) ⊕ pH) :=
  if x2 < 0 then
    some (.inr h)
  else
    if 2000 ≤ (hI h 1 1) then
      some (.inl ((x2 + (-8)), h))
    else
      if (hI h 1 1) < 0 ∨ 2000 ≤ (hI h 1 1).toNatClampNeg then none else
      some (.inl ((x2 + (-8)), (sI (sI h 2 (hI h 1 1).toNatClampNeg ((jshr x1 x2) &&& 255)) 1 1 ((hI (sI h 2 (hI h 1 1).toNatClampNeg ((jshr x1 x2) &&& 255)) 1 1) + 1))))
set_option maxHeartbeats 4000000 in
theorem b_Tape_push_L1 {E : pE} {r : Option Value} {hr : pH} {x1 : Int32} {x2 : Int32} {h : pH}  {b : ((Int32 × pH) ⊕ pH)} (e : f_Tape_push_L1 x1 x2 h = some b) (k : (Sum.elim (fun s : (Int32 × pH) => Go E M_Tape_push 3 [some (.ref 1), some (.int x1), some (.int s.1)] [] s.2 r hr) (fun v : pH => r = none ∧ hr = v)) b) : Go E M_Tape_push 3 [some (.ref 1), some (.int x1), some (.int x2)] [] h r hr := by
  unfold f_Tape_push_L1 at e
  refine sl_ok ok_Tape_push [.iload_n 2] (pc1 := 4) (ls1 := [some (.ref 1), some (.int x1), some (.int x2)]) (st1 := [.int x2]) (h1 := h) (P := True) (by decide +kernel) rfl trivial ?_
  refine q_if_lt (off := 45) (tgt := 49) (by decide +kernel) (by decide) (fun c_1 => ?_) (fun c_1 => ?_)
  · have e := it_t c_1 e
    cases e
    exact q_vret rfl k.1 k.2 (by decide +kernel)
  · have e := it_f c_1 e
    refine sl_ok ok_Tape_push [.aload_n 0, .getfield 15, .sipush 2000] (pc1 := 14) (ls1 := [some (.ref 1), some (.int x1), some (.int x2)]) (st1 := [.int 2000, .int (hI h 1 1)]) (h1 := h) (P := (ak 1 = 0 ∧ cx 1 = 9) ∧ True) (by decide +kernel) rfl ⟨⟨rfl, rfl⟩, trivial⟩ ?_
    refine q_icmp_ge (off := 29) (tgt := 43) (by decide +kernel) (by decide) (fun c_2 => ?_) (fun c_2 => ?_)
    · have e := it_t c_2 e
      refine sl_ok ok_Tape_push [.iinc 2 (-8)] (pc1 := 46) (ls1 := [some (.ref 1), some (.int x1), some (.int (x2 + (-8)))]) (st1 := []) (h1 := h) (P := True) (by decide +kernel) rfl trivial ?_
      refine q_goto (off := -43) (tgt := 3) (by decide) (by decide +kernel) ?_
      cases e
      exact k
    · have e := it_f c_2 e
      obtain ⟨g_3, e⟩ := it_g e
      refine sl_ok ok_Tape_push [.aload_n 0, .getfield 9, .aload_n 0, .getfield 15, .iload_n 1, .iload_n 2, .ishr, .sipush 255, .iand, .iastore, .aload_n 0, .dup, .getfield 15, .iconst 1, .iadd, .putfield 15, .iinc 2 (-8)] (pc1 := 46) (ls1 := [some (.ref 1), some (.int x1), some (.int (x2 + (-8)))]) (st1 := []) (h1 := (sI (sI h 2 (hI h 1 1).toNatClampNeg ((jshr x1 x2) &&& 255)) 1 1 ((hI (sI h 2 (hI h 1 1).toNatClampNeg ((jshr x1 x2) &&& 255)) 1 1) + 1))) (P := (ak 1 = 0 ∧ cx 1 = 9) ∧ (ak 1 = 0 ∧ cx 1 = 9) ∧ (ak 2 = 1 ∧ ¬ ((hI h 1 1) < 0 ∨ cx 2 ≤ (hI h 1 1).toNatClampNeg)) ∧ (ak 1 = 0 ∧ cx 1 = 9) ∧ (ak 1 = 0 ∧ cx 1 = 9) ∧ True) (by decide +kernel) rfl ⟨⟨rfl, rfl⟩, ⟨rfl, rfl⟩, ⟨rfl, g_3⟩, ⟨rfl, rfl⟩, ⟨rfl, rfl⟩, trivial⟩ ?_
      refine q_goto (off := -43) (tgt := 3) (by decide) (by decide +kernel) ?_
      cases e
      exact k
def f_Tape_push (x1 : Int32) (h : pH) : Option pH :=
  lp (fun s => f_Tape_push_L1 x1 s.1 s.2) lpN (24, h)
set_option maxHeartbeats 4000000 in
theorem b_Tape_push {E : pE} {r : Option Value} {hr : pH} {x1 : Int32} {h : pH}  {b : pH} (e : f_Tape_push x1 h = some b) (k : (fun v : pH => r = none ∧ hr = v) b) : Go E M_Tape_push 0 [some (.ref 1), some (.int x1), none] [] h r hr := by
  unfold f_Tape_push at e
  refine sl_ok ok_Tape_push [.bipush 24, .istore_n 2] (pc1 := 3) (ls1 := [some (.ref 1), some (.int x1), some (.int 24)]) (st1 := []) (h1 := h) (P := True) (by decide +kernel) rfl trivial ?_
  exact lp_in e (fun s => Go E M_Tape_push 3 [some (.ref 1), some (.int x1), some (.int s.1)] [] s.2 r hr) (fun v : pH => r = none ∧ hr = v) (fun _ _ e k => b_Tape_push_L1  e k) k
theorem s_Tape_push {E : pE} {x1 : Int32} {h : pH}  {v : pH} (e : f_Tape_push x1 h = some v) : Ct E M_Tape_push [.ref 1, .int x1] h none v :=
  Ct_of ok_Tape_push [some (.ref 1), some (.int x1), none] (Nat.le_of_ble_eq_true rfl) rfl (b_Tape_push  e ⟨rfl, rfl⟩)
def f_C_feed (x1 : Int32) (x2 : Int32) (x3 : Int32) (x4 : Int32) (x5 : Int32) (h : pH) : Option (Int32 × pH) :=
  if (hI h 1 1) ≤ 1980 then
    (f_Tape_push x1 h).bind fun v_2 =>
    (f_Tape_push x2 v_2).bind fun v_4 =>
    (f_Tape_push x3 v_4).bind fun v_6 =>
    (f_Tape_push x4 v_6).bind fun v_8 =>
    (f_Tape_push x5 v_8).bind fun v_10 =>
    some ((hI v_10 1 1), v_10)
  else
    some ((-1), h)
set_option maxHeartbeats 4000000 in
theorem b_C_feed {E : pE} {r : Option Value} {hr : pH} {x1 : Int32} {x2 : Int32} {x3 : Int32} {x4 : Int32} {x5 : Int32} {h : pH}  {b : (Int32 × pH)} (e : f_C_feed x1 x2 x3 x4 x5 h = some b) (k : (fun v : (Int32 × pH) => r = some (.int v.1) ∧ hr = v.2) b) : Go E M_C_feed 0 [some (.ref 0), some (.int x1), some (.int x2), some (.int x3), some (.int x4), some (.int x5)] [] h r hr := by
  unfold f_C_feed at e
  refine sl_ok ok_C_feed [.aload_n 0, .getfield 10, .getfield 93, .sipush 1980] (pc1 := 10) (ls1 := [some (.ref 0), some (.int x1), some (.int x2), some (.int x3), some (.int x4), some (.int x5)]) (st1 := [.int 1980, .int (hI h 1 1)]) (h1 := h) (P := (ak 0 = 0 ∧ cx 0 = 11) ∧ (ak 1 = 0 ∧ cx 1 = 9) ∧ True) (by decide +kernel) rfl ⟨⟨rfl, rfl⟩, ⟨rfl, rfl⟩, trivial⟩ ?_
  refine q_icmp_le (off := 5) (tgt := 15) (by decide +kernel) (by decide) (fun c_1 => ?_) (fun c_1 => ?_)
  · have e := it_t c_1 e
    refine sl_ok ok_C_feed [.aload_n 0, .getfield 10, .iload_n 1] (pc1 := 20) (ls1 := [some (.ref 0), some (.int x1), some (.int x2), some (.int x3), some (.int x4), some (.int x5)]) (st1 := [.int x1, .ref 1]) (h1 := h) (P := (ak 0 = 0 ∧ cx 0 = 11) ∧ True) (by decide +kernel) rfl ⟨⟨rfl, rfl⟩, trivial⟩ ?_
    obtain ⟨v_2, e_3, e⟩ := bi_s e
    refine q_callV ok_Tape_push (as := [.int x1]) (st := []) ⟨wd_0, wd_1, wd_2, wd_3, ds_Tape_push, Nat.le_of_ble_eq_true rfl, Nat.le_of_ble_eq_true rfl⟩ (s_Tape_push  e_3) rfl ⟨rfl, rfl⟩ (ci := 9) rfl (fun v hv => by cases hv) (Nat.le_of_ble_eq_true rfl) (by decide +kernel) rfl ?_
    refine sl_ok ok_C_feed [.aload_n 0, .getfield 10, .iload_n 2] (pc1 := 28) (ls1 := [some (.ref 0), some (.int x1), some (.int x2), some (.int x3), some (.int x4), some (.int x5)]) (st1 := [.int x2, .ref 1]) (h1 := v_2) (P := (ak 0 = 0 ∧ cx 0 = 11) ∧ True) (by decide +kernel) rfl ⟨⟨rfl, rfl⟩, trivial⟩ ?_
    obtain ⟨v_4, e_5, e⟩ := bi_s e
    refine q_callV ok_Tape_push (as := [.int x2]) (st := []) ⟨wd_0, wd_1, wd_2, wd_3, ds_Tape_push, Nat.le_of_ble_eq_true rfl, Nat.le_of_ble_eq_true rfl⟩ (s_Tape_push  e_5) rfl ⟨rfl, rfl⟩ (ci := 9) rfl (fun v hv => by cases hv) (Nat.le_of_ble_eq_true rfl) (by decide +kernel) rfl ?_
    refine sl_ok ok_C_feed [.aload_n 0, .getfield 10, .iload_n 3] (pc1 := 36) (ls1 := [some (.ref 0), some (.int x1), some (.int x2), some (.int x3), some (.int x4), some (.int x5)]) (st1 := [.int x3, .ref 1]) (h1 := v_4) (P := (ak 0 = 0 ∧ cx 0 = 11) ∧ True) (by decide +kernel) rfl ⟨⟨rfl, rfl⟩, trivial⟩ ?_
    obtain ⟨v_6, e_7, e⟩ := bi_s e
    refine q_callV ok_Tape_push (as := [.int x3]) (st := []) ⟨wd_0, wd_1, wd_2, wd_3, ds_Tape_push, Nat.le_of_ble_eq_true rfl, Nat.le_of_ble_eq_true rfl⟩ (s_Tape_push  e_7) rfl ⟨rfl, rfl⟩ (ci := 9) rfl (fun v hv => by cases hv) (Nat.le_of_ble_eq_true rfl) (by decide +kernel) rfl ?_
    refine sl_ok ok_C_feed [.aload_n 0, .getfield 10, .iload 4] (pc1 := 45) (ls1 := [some (.ref 0), some (.int x1), some (.int x2), some (.int x3), some (.int x4), some (.int x5)]) (st1 := [.int x4, .ref 1]) (h1 := v_6) (P := (ak 0 = 0 ∧ cx 0 = 11) ∧ True) (by decide +kernel) rfl ⟨⟨rfl, rfl⟩, trivial⟩ ?_
    obtain ⟨v_8, e_9, e⟩ := bi_s e
    refine q_callV ok_Tape_push (as := [.int x4]) (st := []) ⟨wd_0, wd_1, wd_2, wd_3, ds_Tape_push, Nat.le_of_ble_eq_true rfl, Nat.le_of_ble_eq_true rfl⟩ (s_Tape_push  e_9) rfl ⟨rfl, rfl⟩ (ci := 9) rfl (fun v hv => by cases hv) (Nat.le_of_ble_eq_true rfl) (by decide +kernel) rfl ?_
    refine sl_ok ok_C_feed [.aload_n 0, .getfield 10, .iload 5] (pc1 := 54) (ls1 := [some (.ref 0), some (.int x1), some (.int x2), some (.int x3), some (.int x4), some (.int x5)]) (st1 := [.int x5, .ref 1]) (h1 := v_8) (P := (ak 0 = 0 ∧ cx 0 = 11) ∧ True) (by decide +kernel) rfl ⟨⟨rfl, rfl⟩, trivial⟩ ?_
    obtain ⟨v_10, e_11, e⟩ := bi_s e
    refine q_callV ok_Tape_push (as := [.int x5]) (st := []) ⟨wd_0, wd_1, wd_2, wd_3, ds_Tape_push, Nat.le_of_ble_eq_true rfl, Nat.le_of_ble_eq_true rfl⟩ (s_Tape_push  e_11) rfl ⟨rfl, rfl⟩ (ci := 9) rfl (fun v hv => by cases hv) (Nat.le_of_ble_eq_true rfl) (by decide +kernel) rfl ?_
    refine sl_ok ok_C_feed [.aload_n 0, .getfield 10, .getfield 93] (pc1 := 64) (ls1 := [some (.ref 0), some (.int x1), some (.int x2), some (.int x3), some (.int x4), some (.int x5)]) (st1 := [.int (hI v_10 1 1)]) (h1 := v_10) (P := (ak 0 = 0 ∧ cx 0 = 11) ∧ (ak 1 = 0 ∧ cx 1 = 9) ∧ True) (by decide +kernel) rfl ⟨⟨rfl, rfl⟩, ⟨rfl, rfl⟩, trivial⟩ ?_
    cases e
    exact q_iret rfl k.1 k.2 (by decide +kernel)
  · have e := it_f c_1 e
    refine sl_ok ok_C_feed [.iconst (-1)] (pc1 := 14) (ls1 := [some (.ref 0), some (.int x1), some (.int x2), some (.int x3), some (.int x4), some (.int x5)]) (st1 := [.int (-1)]) (h1 := h) (P := True) (by decide +kernel) rfl trivial ?_
    cases e
    exact q_iret rfl k.1 k.2 (by decide +kernel)
theorem s_C_feed {E : pE} {x1 : Int32} {x2 : Int32} {x3 : Int32} {x4 : Int32} {x5 : Int32} {h : pH}  {v : (Int32 × pH)} (e : f_C_feed x1 x2 x3 x4 x5 h = some v) : Ct E M_C_feed [.ref 0, .int x1, .int x2, .int x3, .int x4, .int x5] h (some (.int v.1)) v.2 :=
  Ct_of ok_C_feed [some (.ref 0), some (.int x1), some (.int x2), some (.int x3), some (.int x4), some (.int x5)] (Nat.le_of_ble_eq_true rfl) rfl (b_C_feed  e ⟨rfl, rfl⟩)
def f_R_lays1_L1 (x1 : Int32) (x2 : Int32) (h : pH) : Option ((Int32 × pH) ⊕ pH) :=
  if x2 < 0 then
    some (.inr h)
  else
    if (hI h 79 2) < 0 ∨ 2000 ≤ (hI h 79 2).toNatClampNeg then none else
    some (.inl ((x2 + (-8)), (sI (sI h 80 (hI h 79 2).toNatClampNeg (vp_nar .byte ((Int32.toInt8 (jshr x1 x2)).toInt32))) 79 2 ((hI (sI h 80 (hI h 79 2).toNatClampNeg (vp_nar .byte ((Int32.toInt8 (jshr x1 x2)).toInt32))) 79 2) + 1))))
set_option maxHeartbeats 4000000 in
theorem b_R_lays1_L1 {E : pE} {r : Option Value} {hr : pH} {x1 : Int32} {x2 : Int32} {h : pH}  {b : ((Int32 × pH) ⊕ pH)} (e : f_R_lays1_L1 x1 x2 h = some b) (k : (Sum.elim (fun s : (Int32 × pH) => Go E M_R_lays1 3 [some (.ref 79), some (.int x1), some (.int s.1)] [] s.2 r hr) (fun v : pH => r = none ∧ hr = v)) b) : Go E M_R_lays1 3 [some (.ref 79), some (.int x1), some (.int x2)] [] h r hr := by
  unfold f_R_lays1_L1 at e
  refine sl_ok ok_R_lays1 [.iload_n 2] (pc1 := 4) (ls1 := [some (.ref 79), some (.int x1), some (.int x2)]) (st1 := [.int x2]) (h1 := h) (P := True) (by decide +kernel) rfl trivial ?_
  refine q_if_lt (off := 32) (tgt := 36) (by decide +kernel) (by decide) (fun c_1 => ?_) (fun c_1 => ?_)
  · have e := it_t c_1 e
    cases e
    exact q_vret rfl k.1 k.2 (by decide +kernel)
  · have e := it_f c_1 e
    obtain ⟨g_2, e⟩ := it_g e
    refine sl_ok ok_R_lays1 [.aload_n 0, .getfield 13, .aload_n 0, .getfield 93, .iload_n 1, .iload_n 2, .ishr, .i2b, .bastore, .aload_n 0, .dup, .getfield 93, .iconst 1, .iadd, .putfield 93, .iinc 2 (-8)] (pc1 := 33) (ls1 := [some (.ref 79), some (.int x1), some (.int (x2 + (-8)))]) (st1 := []) (h1 := (sI (sI h 80 (hI h 79 2).toNatClampNeg (vp_nar .byte ((Int32.toInt8 (jshr x1 x2)).toInt32))) 79 2 ((hI (sI h 80 (hI h 79 2).toNatClampNeg (vp_nar .byte ((Int32.toInt8 (jshr x1 x2)).toInt32))) 79 2) + 1))) (P := (ak 79 = 0 ∧ cx 79 = 12) ∧ (ak 79 = 0 ∧ cx 79 = 12) ∧ (¬ ((hI h 79 2) < 0 ∨ cx 80 ≤ (hI h 79 2).toNatClampNeg)) ∧ (ak 79 = 0 ∧ cx 79 = 12) ∧ (ak 79 = 0 ∧ cx 79 = 12) ∧ True) (by decide +kernel) rfl ⟨⟨rfl, rfl⟩, ⟨rfl, rfl⟩, g_2, ⟨rfl, rfl⟩, ⟨rfl, rfl⟩, trivial⟩ ?_
    refine q_goto (off := -30) (tgt := 3) (by decide) (by decide +kernel) ?_
    cases e
    exact k
def f_R_lays1 (x1 : Int32) (h : pH) : Option pH :=
  lp (fun s => f_R_lays1_L1 x1 s.1 s.2) lpN (24, h)
set_option maxHeartbeats 4000000 in
theorem b_R_lays1 {E : pE} {r : Option Value} {hr : pH} {x1 : Int32} {h : pH}  {b : pH} (e : f_R_lays1 x1 h = some b) (k : (fun v : pH => r = none ∧ hr = v) b) : Go E M_R_lays1 0 [some (.ref 79), some (.int x1), none] [] h r hr := by
  unfold f_R_lays1 at e
  refine sl_ok ok_R_lays1 [.bipush 24, .istore_n 2] (pc1 := 3) (ls1 := [some (.ref 79), some (.int x1), some (.int 24)]) (st1 := []) (h1 := h) (P := True) (by decide +kernel) rfl trivial ?_
  exact lp_in e (fun s => Go E M_R_lays1 3 [some (.ref 79), some (.int x1), some (.int s.1)] [] s.2 r hr) (fun v : pH => r = none ∧ hr = v) (fun _ _ e k => b_R_lays1_L1  e k) k
theorem s_R_lays1 {E : pE} {x1 : Int32} {h : pH}  {v : pH} (e : f_R_lays1 x1 h = some v) : Ct E M_R_lays1 [.ref 79, .int x1] h none v :=
  Ct_of ok_R_lays1 [some (.ref 79), some (.int x1), none] (Nat.le_of_ble_eq_true rfl) rfl (b_R_lays1  e ⟨rfl, rfl⟩)
def f_R_feed (x1 : Int32) (x2 : Int32) (x3 : Int32) (x4 : Int32) (x5 : Int32) (h : pH) : Option (Int32 × pH) :=
  if ((hI h 79 2) + 20) ≤ 2000 then
    (f_R_lays1 x1 h).bind fun v_2 =>
    (f_R_lays1 x2 v_2).bind fun v_4 =>
    (f_R_lays1 x3 v_4).bind fun v_6 =>
    (f_R_lays1 x4 v_6).bind fun v_8 =>
    (f_R_lays1 x5 v_8).bind fun v_10 =>
    some ((hI v_10 79 2), v_10)
  else
    some ((-1), h)
set_option maxHeartbeats 4000000 in
theorem b_R_feed {E : pE} {r : Option Value} {hr : pH} {x1 : Int32} {x2 : Int32} {x3 : Int32} {x4 : Int32} {x5 : Int32} {h : pH}  {b : (Int32 × pH)} (e : f_R_feed x1 x2 x3 x4 x5 h = some b) (k : (fun v : (Int32 × pH) => r = some (.int v.1) ∧ hr = v.2) b) : Go E M_R_feed 0 [some (.ref 79), some (.int x1), some (.int x2), some (.int x3), some (.int x4), some (.int x5)] [] h r hr := by
  unfold f_R_feed at e
  refine sl_ok ok_R_feed [.aload_n 0, .getfield 93, .bipush 20, .iadd, .sipush 2000] (pc1 := 10) (ls1 := [some (.ref 79), some (.int x1), some (.int x2), some (.int x3), some (.int x4), some (.int x5)]) (st1 := [.int 2000, .int ((hI h 79 2) + 20)]) (h1 := h) (P := (ak 79 = 0 ∧ cx 79 = 12) ∧ True) (by decide +kernel) rfl ⟨⟨rfl, rfl⟩, trivial⟩ ?_
  refine q_icmp_le (off := 5) (tgt := 15) (by decide +kernel) (by decide) (fun c_1 => ?_) (fun c_1 => ?_)
  · have e := it_t c_1 e
    refine sl_ok ok_R_feed [.aload_n 0, .iload_n 1] (pc1 := 17) (ls1 := [some (.ref 79), some (.int x1), some (.int x2), some (.int x3), some (.int x4), some (.int x5)]) (st1 := [.int x1, .ref 79]) (h1 := h) (P := True) (by decide +kernel) rfl trivial ?_
    obtain ⟨v_2, e_3, e⟩ := bi_s e
    refine q_callV ok_R_lays1 (as := [.int x1]) (st := []) ⟨wd_4, wd_5, wd_6, wd_7, ds_R_lays1, Nat.le_of_ble_eq_true rfl, Nat.le_of_ble_eq_true rfl⟩ (s_R_lays1  e_3) rfl ⟨rfl, rfl⟩ (ci := 12) rfl (fun v hv => by cases hv) (Nat.le_of_ble_eq_true rfl) (by decide +kernel) rfl ?_
    refine sl_ok ok_R_feed [.aload_n 0, .iload_n 2] (pc1 := 22) (ls1 := [some (.ref 79), some (.int x1), some (.int x2), some (.int x3), some (.int x4), some (.int x5)]) (st1 := [.int x2, .ref 79]) (h1 := v_2) (P := True) (by decide +kernel) rfl trivial ?_
    obtain ⟨v_4, e_5, e⟩ := bi_s e
    refine q_callV ok_R_lays1 (as := [.int x2]) (st := []) ⟨wd_4, wd_5, wd_6, wd_7, ds_R_lays1, Nat.le_of_ble_eq_true rfl, Nat.le_of_ble_eq_true rfl⟩ (s_R_lays1  e_5) rfl ⟨rfl, rfl⟩ (ci := 12) rfl (fun v hv => by cases hv) (Nat.le_of_ble_eq_true rfl) (by decide +kernel) rfl ?_
    refine sl_ok ok_R_feed [.aload_n 0, .iload_n 3] (pc1 := 27) (ls1 := [some (.ref 79), some (.int x1), some (.int x2), some (.int x3), some (.int x4), some (.int x5)]) (st1 := [.int x3, .ref 79]) (h1 := v_4) (P := True) (by decide +kernel) rfl trivial ?_
    obtain ⟨v_6, e_7, e⟩ := bi_s e
    refine q_callV ok_R_lays1 (as := [.int x3]) (st := []) ⟨wd_4, wd_5, wd_6, wd_7, ds_R_lays1, Nat.le_of_ble_eq_true rfl, Nat.le_of_ble_eq_true rfl⟩ (s_R_lays1  e_7) rfl ⟨rfl, rfl⟩ (ci := 12) rfl (fun v hv => by cases hv) (Nat.le_of_ble_eq_true rfl) (by decide +kernel) rfl ?_
    refine sl_ok ok_R_feed [.aload_n 0, .iload 4] (pc1 := 33) (ls1 := [some (.ref 79), some (.int x1), some (.int x2), some (.int x3), some (.int x4), some (.int x5)]) (st1 := [.int x4, .ref 79]) (h1 := v_6) (P := True) (by decide +kernel) rfl trivial ?_
    obtain ⟨v_8, e_9, e⟩ := bi_s e
    refine q_callV ok_R_lays1 (as := [.int x4]) (st := []) ⟨wd_4, wd_5, wd_6, wd_7, ds_R_lays1, Nat.le_of_ble_eq_true rfl, Nat.le_of_ble_eq_true rfl⟩ (s_R_lays1  e_9) rfl ⟨rfl, rfl⟩ (ci := 12) rfl (fun v hv => by cases hv) (Nat.le_of_ble_eq_true rfl) (by decide +kernel) rfl ?_
    refine sl_ok ok_R_feed [.aload_n 0, .iload 5] (pc1 := 39) (ls1 := [some (.ref 79), some (.int x1), some (.int x2), some (.int x3), some (.int x4), some (.int x5)]) (st1 := [.int x5, .ref 79]) (h1 := v_8) (P := True) (by decide +kernel) rfl trivial ?_
    obtain ⟨v_10, e_11, e⟩ := bi_s e
    refine q_callV ok_R_lays1 (as := [.int x5]) (st := []) ⟨wd_4, wd_5, wd_6, wd_7, ds_R_lays1, Nat.le_of_ble_eq_true rfl, Nat.le_of_ble_eq_true rfl⟩ (s_R_lays1  e_11) rfl ⟨rfl, rfl⟩ (ci := 12) rfl (fun v hv => by cases hv) (Nat.le_of_ble_eq_true rfl) (by decide +kernel) rfl ?_
    refine sl_ok ok_R_feed [.aload_n 0, .getfield 93] (pc1 := 46) (ls1 := [some (.ref 79), some (.int x1), some (.int x2), some (.int x3), some (.int x4), some (.int x5)]) (st1 := [.int (hI v_10 79 2)]) (h1 := v_10) (P := (ak 79 = 0 ∧ cx 79 = 12) ∧ True) (by decide +kernel) rfl ⟨⟨rfl, rfl⟩, trivial⟩ ?_
    cases e
    exact q_iret rfl k.1 k.2 (by decide +kernel)
  · have e := it_f c_1 e
    refine sl_ok ok_R_feed [.iconst (-1)] (pc1 := 14) (ls1 := [some (.ref 79), some (.int x1), some (.int x2), some (.int x3), some (.int x4), some (.int x5)]) (st1 := [.int (-1)]) (h1 := h) (P := True) (by decide +kernel) rfl trivial ?_
    cases e
    exact q_iret rfl k.1 k.2 (by decide +kernel)
theorem s_R_feed {E : pE} {x1 : Int32} {x2 : Int32} {x3 : Int32} {x4 : Int32} {x5 : Int32} {h : pH}  {v : (Int32 × pH)} (e : f_R_feed x1 x2 x3 x4 x5 h = some v) : Ct E M_R_feed [.ref 79, .int x1, .int x2, .int x3, .int x4, .int x5] h (some (.int v.1)) v.2 :=
  Ct_of ok_R_feed [some (.ref 79), some (.int x1), some (.int x2), some (.int x3), some (.int x4), some (.int x5)] (Nat.le_of_ble_eq_true rfl) rfl (b_R_feed  e ⟨rfl, rfl⟩)
def f_C_back (x1 : Int32) (h : pH) : (Int32 × pH) :=
  if x1 < 0 then
    ((-1), h)
  else
    if x1 ≤ (hI h 1 1) then
      ((hI (sI h 1 1 ((hI h 1 1) - x1)) 1 1), (sI h 1 1 ((hI h 1 1) - x1)))
    else
      ((-1), h)
set_option maxHeartbeats 4000000 in
theorem b_C_back {E : pE} {r : Option Value} {hr : pH} {x1 : Int32} {h : pH}  {b : (Int32 × pH)} (e : f_C_back x1 h = b) (k : (fun v : (Int32 × pH) => r = some (.int v.1) ∧ hr = v.2) b) : Go E M_C_back 0 [some (.ref 0), some (.int x1)] [] h r hr := by
  unfold f_C_back at e
  refine sl_ok ok_C_back [.iload_n 1] (pc1 := 1) (ls1 := [some (.ref 0), some (.int x1)]) (st1 := [.int x1]) (h1 := h) (P := True) (by decide +kernel) rfl trivial ?_
  refine q_if_lt (off := 14) (tgt := 15) (by decide +kernel) (by decide) (fun c_1 => ?_) (fun c_1 => ?_)
  · have e := it_t c_1 e
    refine sl_ok ok_C_back [.iconst (-1)] (pc1 := 16) (ls1 := [some (.ref 0), some (.int x1)]) (st1 := [.int (-1)]) (h1 := h) (P := True) (by decide +kernel) rfl trivial ?_
    cases e
    exact q_iret rfl k.1 k.2 (by decide +kernel)
  · have e := it_f c_1 e
    refine sl_ok ok_C_back [.iload_n 1, .aload_n 0, .getfield 10, .getfield 93] (pc1 := 12) (ls1 := [some (.ref 0), some (.int x1)]) (st1 := [.int (hI h 1 1), .int x1]) (h1 := h) (P := (ak 0 = 0 ∧ cx 0 = 11) ∧ (ak 1 = 0 ∧ cx 1 = 9) ∧ True) (by decide +kernel) rfl ⟨⟨rfl, rfl⟩, ⟨rfl, rfl⟩, trivial⟩ ?_
    refine q_icmp_le (off := 5) (tgt := 17) (by decide +kernel) (by decide) (fun c_2 => ?_) (fun c_2 => ?_)
    · have e := it_t c_2 e
      refine sl_ok ok_C_back [.aload_n 0, .getfield 10, .dup, .getfield 93, .iload_n 1, .isub, .putfield 93, .aload_n 0, .getfield 10, .getfield 93] (pc1 := 37) (ls1 := [some (.ref 0), some (.int x1)]) (st1 := [.int (hI (sI h 1 1 ((hI h 1 1) - x1)) 1 1)]) (h1 := (sI h 1 1 ((hI h 1 1) - x1))) (P := (ak 0 = 0 ∧ cx 0 = 11) ∧ (ak 1 = 0 ∧ cx 1 = 9) ∧ (ak 1 = 0 ∧ cx 1 = 9) ∧ (ak 0 = 0 ∧ cx 0 = 11) ∧ (ak 1 = 0 ∧ cx 1 = 9) ∧ True) (by decide +kernel) rfl ⟨⟨rfl, rfl⟩, ⟨rfl, rfl⟩, ⟨rfl, rfl⟩, ⟨rfl, rfl⟩, ⟨rfl, rfl⟩, trivial⟩ ?_
      cases e
      exact q_iret rfl k.1 k.2 (by decide +kernel)
    · have e := it_f c_2 e
      refine sl_ok ok_C_back [.iconst (-1)] (pc1 := 16) (ls1 := [some (.ref 0), some (.int x1)]) (st1 := [.int (-1)]) (h1 := h) (P := True) (by decide +kernel) rfl trivial ?_
      cases e
      exact q_iret rfl k.1 k.2 (by decide +kernel)
theorem s_C_back {E : pE} {x1 : Int32} {h : pH}  : Ct E M_C_back [.ref 0, .int x1] h (some (.int (f_C_back x1 h).1)) (f_C_back x1 h).2 :=
  Ct_of ok_C_back [some (.ref 0), some (.int x1)] (Nat.le_of_ble_eq_true rfl) rfl (b_C_back  rfl ⟨rfl, rfl⟩)
def f_R_back (x1 : Int32) (h : pH) : (Int32 × pH) :=
  if x1 < 0 then
    ((-1), h)
  else
    if x1 ≤ (hI h 79 2) then
      ((hI (sI h 79 2 ((hI h 79 2) - x1)) 79 2), (sI h 79 2 ((hI h 79 2) - x1)))
    else
      ((-1), h)
set_option maxHeartbeats 4000000 in
theorem b_R_back {E : pE} {r : Option Value} {hr : pH} {x1 : Int32} {h : pH}  {b : (Int32 × pH)} (e : f_R_back x1 h = b) (k : (fun v : (Int32 × pH) => r = some (.int v.1) ∧ hr = v.2) b) : Go E M_R_back 0 [some (.ref 79), some (.int x1)] [] h r hr := by
  unfold f_R_back at e
  refine sl_ok ok_R_back [.iload_n 1] (pc1 := 1) (ls1 := [some (.ref 79), some (.int x1)]) (st1 := [.int x1]) (h1 := h) (P := True) (by decide +kernel) rfl trivial ?_
  refine q_if_lt (off := 11) (tgt := 12) (by decide +kernel) (by decide) (fun c_1 => ?_) (fun c_1 => ?_)
  · have e := it_t c_1 e
    refine sl_ok ok_R_back [.iconst (-1)] (pc1 := 13) (ls1 := [some (.ref 79), some (.int x1)]) (st1 := [.int (-1)]) (h1 := h) (P := True) (by decide +kernel) rfl trivial ?_
    cases e
    exact q_iret rfl k.1 k.2 (by decide +kernel)
  · have e := it_f c_1 e
    refine sl_ok ok_R_back [.iload_n 1, .aload_n 0, .getfield 93] (pc1 := 9) (ls1 := [some (.ref 79), some (.int x1)]) (st1 := [.int (hI h 79 2), .int x1]) (h1 := h) (P := (ak 79 = 0 ∧ cx 79 = 12) ∧ True) (by decide +kernel) rfl ⟨⟨rfl, rfl⟩, trivial⟩ ?_
    refine q_icmp_le (off := 5) (tgt := 14) (by decide +kernel) (by decide) (fun c_2 => ?_) (fun c_2 => ?_)
    · have e := it_t c_2 e
      refine sl_ok ok_R_back [.aload_n 0, .dup, .getfield 93, .iload_n 1, .isub, .putfield 93, .aload_n 0, .getfield 93] (pc1 := 28) (ls1 := [some (.ref 79), some (.int x1)]) (st1 := [.int (hI (sI h 79 2 ((hI h 79 2) - x1)) 79 2)]) (h1 := (sI h 79 2 ((hI h 79 2) - x1))) (P := (ak 79 = 0 ∧ cx 79 = 12) ∧ (ak 79 = 0 ∧ cx 79 = 12) ∧ (ak 79 = 0 ∧ cx 79 = 12) ∧ True) (by decide +kernel) rfl ⟨⟨rfl, rfl⟩, ⟨rfl, rfl⟩, ⟨rfl, rfl⟩, trivial⟩ ?_
      cases e
      exact q_iret rfl k.1 k.2 (by decide +kernel)
    · have e := it_f c_2 e
      refine sl_ok ok_R_back [.iconst (-1)] (pc1 := 13) (ls1 := [some (.ref 79), some (.int x1)]) (st1 := [.int (-1)]) (h1 := h) (P := True) (by decide +kernel) rfl trivial ?_
      cases e
      exact q_iret rfl k.1 k.2 (by decide +kernel)
theorem s_R_back {E : pE} {x1 : Int32} {h : pH}  : Ct E M_R_back [.ref 79, .int x1] h (some (.int (f_R_back x1 h).1)) (f_R_back x1 h).2 :=
  Ct_of ok_R_back [some (.ref 79), some (.int x1)] (Nat.le_of_ble_eq_true rfl) rfl (b_R_back  rfl ⟨rfl, rfl⟩)
def f_Tape_rewind (h : pH) : pH :=
  (sI h 1 6 0)
set_option maxHeartbeats 4000000 in
theorem b_Tape_rewind {E : pE} {r : Option Value} {hr : pH} {h : pH}  {b : pH} (e : f_Tape_rewind h = b) (k : (fun v : pH => r = none ∧ hr = v) b) : Go E M_Tape_rewind 0 [some (.ref 1)] [] h r hr := by
  unfold f_Tape_rewind at e
  refine sl_ok ok_Tape_rewind [.aload_n 0, .iconst 0, .putfield 19] (pc1 := 5) (ls1 := [some (.ref 1)]) (st1 := []) (h1 := (sI h 1 6 0)) (P := (ak 1 = 0 ∧ cx 1 = 9) ∧ True) (by decide +kernel) rfl ⟨⟨rfl, rfl⟩, trivial⟩ ?_
  cases e
  exact q_vret rfl k.1 k.2 (by decide +kernel)
theorem s_Tape_rewind {E : pE} {h : pH}  : Ct E M_Tape_rewind [.ref 1] h none (f_Tape_rewind h) :=
  Ct_of ok_Tape_rewind [some (.ref 1)] (Nat.le_of_ble_eq_true rfl) rfl (b_Tape_rewind  rfl ⟨rfl, rfl⟩)
def f_Cloud_clear (o0 : Nat) (h : pH) : pH :=
  (sI (sI (sI h o0 2 0) o0 3 10) o0 4 ((hI (sI (sI h o0 2 0) o0 3 10) o0 4) + 1))
set_option maxHeartbeats 4000000 in
theorem b_Cloud_clear {E : pE} {r : Option Value} {hr : pH} {o0 : Nat} {h : pH} (ho0 : ak o0 = 0 ∧ cx o0 = 0) {b : pH} (e : f_Cloud_clear o0 h = b) (k : (fun v : pH => r = none ∧ hr = v) b) : Go E M_Cloud_clear 0 [some (.ref o0)] [] h r hr := by
  unfold f_Cloud_clear at e
  refine sl_ok ok_Cloud_clear [.aload_n 0, .iconst 0, .putfield 22, .aload_n 0, .bipush 10, .putfield 18, .aload_n 0, .dup, .getfield 37, .iconst 1, .iadd, .putfield 37] (pc1 := 21) (ls1 := [some (.ref o0)]) (st1 := []) (h1 := (sI (sI (sI h o0 2 0) o0 3 10) o0 4 ((hI (sI (sI h o0 2 0) o0 3 10) o0 4) + 1))) (P := (ak o0 = 0 ∧ cx o0 = 0) ∧ (ak o0 = 0 ∧ cx o0 = 0) ∧ (ak o0 = 0 ∧ cx o0 = 0) ∧ (ak o0 = 0 ∧ cx o0 = 0) ∧ True) (by decide +kernel) rfl ⟨ho0, ho0, ho0, ho0, trivial⟩ ?_
  cases e
  exact q_vret rfl k.1 k.2 (by decide +kernel)
theorem s_Cloud_clear {E : pE} {o0 : Nat} {h : pH} (ho0 : ak o0 = 0 ∧ cx o0 = 0) : Ct E M_Cloud_clear [.ref o0] h none (f_Cloud_clear o0 h) :=
  Ct_of ok_Cloud_clear [some (.ref o0)] (Nat.le_of_ble_eq_true rfl) rfl (b_Cloud_clear ho0 rfl ⟨rfl, rfl⟩)
def f_TextReader_reset (h : pH) : pH :=
  (sI (sI (sI (sI (sI (sI (f_Cloud_clear 4 (f_Tape_rewind h)) 3 4 0) 3 1 (-1)) 3 5 0) 3 6 0) 3 7 0) 3 9 0)
set_option maxHeartbeats 4000000 in
theorem b_TextReader_reset {E : pE} {r : Option Value} {hr : pH} {h : pH}  {b : pH} (e : f_TextReader_reset h = b) (k : (fun v : pH => r = none ∧ hr = v) b) : Go E M_TextReader_reset 0 [some (.ref 3)] [] h r hr := by
  unfold f_TextReader_reset at e
  refine sl_ok ok_TextReader_reset [.aload_n 0, .getfield 26] (pc1 := 4) (ls1 := [some (.ref 3)]) (st1 := [.ref 1]) (h1 := h) (P := (ak 3 = 0 ∧ cx 3 = 10) ∧ True) (by decide +kernel) rfl ⟨⟨rfl, rfl⟩, trivial⟩ ?_
  refine q_callV ok_Tape_rewind (as := []) (st := []) ⟨wd_8, wd_9, wd_10, wd_3, ds_Tape_rewind, Nat.le_of_ble_eq_true rfl, Nat.le_of_ble_eq_true rfl⟩ (s_Tape_rewind ) rfl ⟨rfl, rfl⟩ (ci := 9) rfl (fun v hv => by cases hv) (Nat.le_of_ble_eq_true rfl) (by decide +kernel) rfl ?_
  refine sl_ok ok_TextReader_reset [.aload_n 0, .getfield 12] (pc1 := 11) (ls1 := [some (.ref 3)]) (st1 := [.ref 4]) (h1 := (f_Tape_rewind h)) (P := (ak 3 = 0 ∧ cx 3 = 10) ∧ True) (by decide +kernel) rfl ⟨⟨rfl, rfl⟩, trivial⟩ ?_
  refine q_callV ok_Cloud_clear (as := []) (st := []) ⟨wd_11, wd_12, wd_13, wd_14, ds_Cloud_clear, Nat.le_of_ble_eq_true rfl, Nat.le_of_ble_eq_true rfl⟩ (s_Cloud_clear ⟨rfl, rfl⟩) rfl ⟨rfl, rfl⟩ (ci := 0) rfl (fun v hv => by cases hv) (Nat.le_of_ble_eq_true rfl) (by decide +kernel) rfl ?_
  refine sl_ok ok_TextReader_reset [.aload_n 0, .iconst 0, .putfield 65, .aload_n 0, .iconst (-1), .putfield 18, .aload_n 0, .iconst 0, .putfield 53, .aload_n 0, .iconst 0, .putfield 74, .aload_n 0, .iconst 0, .putfield 77, .aload_n 0, .iconst 0, .putfield 80] (pc1 := 44) (ls1 := [some (.ref 3)]) (st1 := []) (h1 := (sI (sI (sI (sI (sI (sI (f_Cloud_clear 4 (f_Tape_rewind h)) 3 4 0) 3 1 (-1)) 3 5 0) 3 6 0) 3 7 0) 3 9 0)) (P := (ak 3 = 0 ∧ cx 3 = 10) ∧ (ak 3 = 0 ∧ cx 3 = 10) ∧ (ak 3 = 0 ∧ cx 3 = 10) ∧ (ak 3 = 0 ∧ cx 3 = 10) ∧ (ak 3 = 0 ∧ cx 3 = 10) ∧ ((ak 3 = 0 ∧ cx 3 = 10) ∧ ((0 : Int32) = 0 ∨ (0 : Int32) = 1)) ∧ True) (by decide +kernel) rfl ⟨⟨rfl, rfl⟩, ⟨rfl, rfl⟩, ⟨rfl, rfl⟩, ⟨rfl, rfl⟩, ⟨rfl, rfl⟩, ⟨⟨rfl, rfl⟩, Or.inl rfl⟩, trivial⟩ ?_
  cases e
  exact q_vret rfl k.1 k.2 (by decide +kernel)
theorem s_TextReader_reset {E : pE} {h : pH}  : Ct E M_TextReader_reset [.ref 3] h none (f_TextReader_reset h) :=
  Ct_of ok_TextReader_reset [some (.ref 3)] (Nat.le_of_ble_eq_true rfl) rfl (b_TextReader_reset  rfl ⟨rfl, rfl⟩)
def f_Tape_byteAt (x1 : Int32) (h : pH) : Option Int32 :=
  if x1 < 0 then
    some (-1)
  else
    if 2000 ≤ x1 then
      some (-1)
    else
      if x1 < 0 ∨ 2000 ≤ x1.toNatClampNeg then none else
      some (hI h 2 x1.toNatClampNeg)
set_option maxHeartbeats 4000000 in
theorem b_Tape_byteAt {E : pE} {r : Option Value} {hr : pH} {x1 : Int32} {h : pH}  {b : Int32} (e : f_Tape_byteAt x1 h = some b) (k : (fun v : Int32 => r = some (.int v) ∧ hr = h) b) : Go E M_Tape_byteAt 0 [some (.ref 1), some (.int x1)] [] h r hr := by
  unfold f_Tape_byteAt at e
  refine sl_ok ok_Tape_byteAt [.iload_n 1] (pc1 := 1) (ls1 := [some (.ref 1), some (.int x1)]) (st1 := [.int x1]) (h1 := h) (P := True) (by decide +kernel) rfl trivial ?_
  refine q_if_lt (off := 19) (tgt := 20) (by decide +kernel) (by decide) (fun c_1 => ?_) (fun c_1 => ?_)
  · have e := it_t c_1 e
    refine sl_ok ok_Tape_byteAt [.iconst (-1)] (pc1 := 21) (ls1 := [some (.ref 1), some (.int x1)]) (st1 := [.int (-1)]) (h1 := h) (P := True) (by decide +kernel) rfl trivial ?_
    cases e
    exact q_iret rfl k.1 k.2 (by decide +kernel)
  · have e := it_f c_1 e
    refine sl_ok ok_Tape_byteAt [.iload_n 1, .sipush 2000] (pc1 := 8) (ls1 := [some (.ref 1), some (.int x1)]) (st1 := [.int 2000, .int x1]) (h1 := h) (P := True) (by decide +kernel) rfl trivial ?_
    refine q_icmp_ge (off := 12) (tgt := 20) (by decide +kernel) (by decide) (fun c_2 => ?_) (fun c_2 => ?_)
    · have e := it_t c_2 e
      refine sl_ok ok_Tape_byteAt [.iconst (-1)] (pc1 := 21) (ls1 := [some (.ref 1), some (.int x1)]) (st1 := [.int (-1)]) (h1 := h) (P := True) (by decide +kernel) rfl trivial ?_
      cases e
      exact q_iret rfl k.1 k.2 (by decide +kernel)
    · have e := it_f c_2 e
      obtain ⟨g_3, e⟩ := it_g e
      refine sl_ok ok_Tape_byteAt [.aload_n 0, .getfield 9, .iload_n 1, .iaload] (pc1 := 17) (ls1 := [some (.ref 1), some (.int x1)]) (st1 := [.int (hI h 2 x1.toNatClampNeg)]) (h1 := h) (P := (ak 1 = 0 ∧ cx 1 = 9) ∧ (ak 2 = 1 ∧ ¬ (x1 < 0 ∨ cx 2 ≤ x1.toNatClampNeg)) ∧ True) (by decide +kernel) rfl ⟨⟨rfl, rfl⟩, ⟨rfl, g_3⟩, trivial⟩ ?_
      refine q_goto (off := 4) (tgt := 21) (by decide) (by decide +kernel) ?_
      cases e
      exact q_iret rfl k.1 k.2 (by decide +kernel)
theorem s_Tape_byteAt {E : pE} {x1 : Int32} {h : pH}  {v : Int32} (e : f_Tape_byteAt x1 h = some v) : Ct E M_Tape_byteAt [.ref 1, .int x1] h (some (.int v)) h :=
  Ct_of ok_Tape_byteAt [some (.ref 1), some (.int x1)] (Nat.le_of_ble_eq_true rfl) rfl (b_Tape_byteAt  e ⟨rfl, rfl⟩)
def f_Tape_isBlank (x0 : Int32) : Int32 :=
  if x0 = 9 then
    1
  else
    if x0 = 10 then
      1
    else
      if x0 = 13 then
        1
      else
        if x0 = 32 then
          1
        else
          0
set_option maxHeartbeats 4000000 in
theorem b_Tape_isBlank {E : pE} {r : Option Value} {hr : pH} {x0 : Int32} {h : pH}  {b : Int32} (e : f_Tape_isBlank x0 = b) (k : (fun v : Int32 => r = some (.int v) ∧ hr = h) b) : Go E M_Tape_isBlank 0 [some (.int x0)] [] h r hr := by
  unfold f_Tape_isBlank at e
  refine sl_ok ok_Tape_isBlank [.iload_n 0, .bipush 9] (pc1 := 3) (ls1 := [some (.int x0)]) (st1 := [.int 9, .int x0]) (h1 := h) (P := True) (by decide +kernel) rfl trivial ?_
  refine q_icmp_eq (off := 21) (tgt := 24) (by decide +kernel) (by decide) (fun c_1 => ?_) (fun c_1 => ?_)
  · have e := it_t c_1 e
    refine sl_ok ok_Tape_isBlank [.iconst 1] (pc1 := 25) (ls1 := [some (.int x0)]) (st1 := [.int 1]) (h1 := h) (P := True) (by decide +kernel) rfl trivial ?_
    refine q_goto (off := 4) (tgt := 29) (by decide) (by decide +kernel) ?_
    cases e
    exact q_zret rfl (Or.inr rfl) k.1 k.2 (by decide +kernel)
  · have e := it_f c_1 e
    refine sl_ok ok_Tape_isBlank [.iload_n 0, .bipush 10] (pc1 := 9) (ls1 := [some (.int x0)]) (st1 := [.int 10, .int x0]) (h1 := h) (P := True) (by decide +kernel) rfl trivial ?_
    refine q_icmp_eq (off := 15) (tgt := 24) (by decide +kernel) (by decide) (fun c_2 => ?_) (fun c_2 => ?_)
    · have e := it_t c_2 e
      refine sl_ok ok_Tape_isBlank [.iconst 1] (pc1 := 25) (ls1 := [some (.int x0)]) (st1 := [.int 1]) (h1 := h) (P := True) (by decide +kernel) rfl trivial ?_
      refine q_goto (off := 4) (tgt := 29) (by decide) (by decide +kernel) ?_
      cases e
      exact q_zret rfl (Or.inr rfl) k.1 k.2 (by decide +kernel)
    · have e := it_f c_2 e
      refine sl_ok ok_Tape_isBlank [.iload_n 0, .bipush 13] (pc1 := 15) (ls1 := [some (.int x0)]) (st1 := [.int 13, .int x0]) (h1 := h) (P := True) (by decide +kernel) rfl trivial ?_
      refine q_icmp_eq (off := 9) (tgt := 24) (by decide +kernel) (by decide) (fun c_3 => ?_) (fun c_3 => ?_)
      · have e := it_t c_3 e
        refine sl_ok ok_Tape_isBlank [.iconst 1] (pc1 := 25) (ls1 := [some (.int x0)]) (st1 := [.int 1]) (h1 := h) (P := True) (by decide +kernel) rfl trivial ?_
        refine q_goto (off := 4) (tgt := 29) (by decide) (by decide +kernel) ?_
        cases e
        exact q_zret rfl (Or.inr rfl) k.1 k.2 (by decide +kernel)
      · have e := it_f c_3 e
        refine sl_ok ok_Tape_isBlank [.iload_n 0, .bipush 32] (pc1 := 21) (ls1 := [some (.int x0)]) (st1 := [.int 32, .int x0]) (h1 := h) (P := True) (by decide +kernel) rfl trivial ?_
        refine q_icmp_ne (off := 7) (tgt := 28) (by decide +kernel) (by decide) (fun c_4 => ?_) (fun c_4 => ?_)
        · have e := it_f c_4 e
          refine sl_ok ok_Tape_isBlank [.iconst 0] (pc1 := 29) (ls1 := [some (.int x0)]) (st1 := [.int 0]) (h1 := h) (P := True) (by decide +kernel) rfl trivial ?_
          cases e
          exact q_zret rfl (Or.inl rfl) k.1 k.2 (by decide +kernel)
        · have e := it_t c_4 e
          refine sl_ok ok_Tape_isBlank [.iconst 1] (pc1 := 25) (ls1 := [some (.int x0)]) (st1 := [.int 1]) (h1 := h) (P := True) (by decide +kernel) rfl trivial ?_
          refine q_goto (off := 4) (tgt := 29) (by decide) (by decide +kernel) ?_
          cases e
          exact q_zret rfl (Or.inr rfl) k.1 k.2 (by decide +kernel)
theorem s_Tape_isBlank {E : pE} {x0 : Int32} {h : pH}  : Ct E M_Tape_isBlank [.int x0] h (some (.int (f_Tape_isBlank x0))) h :=
  Ct_of ok_Tape_isBlank [some (.int x0)] (Nat.le_of_ble_eq_true rfl) rfl (b_Tape_isBlank  rfl ⟨rfl, rfl⟩)
def f_Tape_isLetter (x0 : Int32) : Int32 :=
  if x0 < 97 then
    0
  else
    if 122 < x0 then
      0
    else
      1
set_option maxHeartbeats 4000000 in
theorem b_Tape_isLetter {E : pE} {r : Option Value} {hr : pH} {x0 : Int32} {h : pH}  {b : Int32} (e : f_Tape_isLetter x0 = b) (k : (fun v : Int32 => r = some (.int v) ∧ hr = h) b) : Go E M_Tape_isLetter 0 [some (.int x0)] [] h r hr := by
  unfold f_Tape_isLetter at e
  refine sl_ok ok_Tape_isLetter [.iload_n 0, .bipush 97] (pc1 := 3) (ls1 := [some (.int x0)]) (st1 := [.int 97, .int x0]) (h1 := h) (P := True) (by decide +kernel) rfl trivial ?_
  refine q_icmp_lt (off := 13) (tgt := 16) (by decide +kernel) (by decide) (fun c_1 => ?_) (fun c_1 => ?_)
  · have e := it_t c_1 e
    refine sl_ok ok_Tape_isLetter [.iconst 0] (pc1 := 17) (ls1 := [some (.int x0)]) (st1 := [.int 0]) (h1 := h) (P := True) (by decide +kernel) rfl trivial ?_
    cases e
    exact q_zret rfl (Or.inl rfl) k.1 k.2 (by decide +kernel)
  · have e := it_f c_1 e
    refine sl_ok ok_Tape_isLetter [.iload_n 0, .bipush 122] (pc1 := 9) (ls1 := [some (.int x0)]) (st1 := [.int 122, .int x0]) (h1 := h) (P := True) (by decide +kernel) rfl trivial ?_
    refine q_icmp_gt (off := 7) (tgt := 16) (by decide +kernel) (by decide) (fun c_2 => ?_) (fun c_2 => ?_)
    · have e := it_t c_2 e
      refine sl_ok ok_Tape_isLetter [.iconst 0] (pc1 := 17) (ls1 := [some (.int x0)]) (st1 := [.int 0]) (h1 := h) (P := True) (by decide +kernel) rfl trivial ?_
      cases e
      exact q_zret rfl (Or.inl rfl) k.1 k.2 (by decide +kernel)
    · have e := it_f c_2 e
      refine sl_ok ok_Tape_isLetter [.iconst 1] (pc1 := 13) (ls1 := [some (.int x0)]) (st1 := [.int 1]) (h1 := h) (P := True) (by decide +kernel) rfl trivial ?_
      refine q_goto (off := 4) (tgt := 17) (by decide) (by decide +kernel) ?_
      cases e
      exact q_zret rfl (Or.inr rfl) k.1 k.2 (by decide +kernel)
theorem s_Tape_isLetter {E : pE} {x0 : Int32} {h : pH}  : Ct E M_Tape_isLetter [.int x0] h (some (.int (f_Tape_isLetter x0))) h :=
  Ct_of ok_Tape_isLetter [some (.int x0)] (Nat.le_of_ble_eq_true rfl) rfl (b_Tape_isLetter  rfl ⟨rfl, rfl⟩)
def f_Tape_isDigit (x0 : Int32) : Int32 :=
  if x0 < 48 then
    0
  else
    if 57 < x0 then
      0
    else
      1
set_option maxHeartbeats 4000000 in
theorem b_Tape_isDigit {E : pE} {r : Option Value} {hr : pH} {x0 : Int32} {h : pH}  {b : Int32} (e : f_Tape_isDigit x0 = b) (k : (fun v : Int32 => r = some (.int v) ∧ hr = h) b) : Go E M_Tape_isDigit 0 [some (.int x0)] [] h r hr := by
  unfold f_Tape_isDigit at e
  refine sl_ok ok_Tape_isDigit [.iload_n 0, .bipush 48] (pc1 := 3) (ls1 := [some (.int x0)]) (st1 := [.int 48, .int x0]) (h1 := h) (P := True) (by decide +kernel) rfl trivial ?_
  refine q_icmp_lt (off := 13) (tgt := 16) (by decide +kernel) (by decide) (fun c_1 => ?_) (fun c_1 => ?_)
  · have e := it_t c_1 e
    refine sl_ok ok_Tape_isDigit [.iconst 0] (pc1 := 17) (ls1 := [some (.int x0)]) (st1 := [.int 0]) (h1 := h) (P := True) (by decide +kernel) rfl trivial ?_
    cases e
    exact q_zret rfl (Or.inl rfl) k.1 k.2 (by decide +kernel)
  · have e := it_f c_1 e
    refine sl_ok ok_Tape_isDigit [.iload_n 0, .bipush 57] (pc1 := 9) (ls1 := [some (.int x0)]) (st1 := [.int 57, .int x0]) (h1 := h) (P := True) (by decide +kernel) rfl trivial ?_
    refine q_icmp_gt (off := 7) (tgt := 16) (by decide +kernel) (by decide) (fun c_2 => ?_) (fun c_2 => ?_)
    · have e := it_t c_2 e
      refine sl_ok ok_Tape_isDigit [.iconst 0] (pc1 := 17) (ls1 := [some (.int x0)]) (st1 := [.int 0]) (h1 := h) (P := True) (by decide +kernel) rfl trivial ?_
      cases e
      exact q_zret rfl (Or.inl rfl) k.1 k.2 (by decide +kernel)
    · have e := it_f c_2 e
      refine sl_ok ok_Tape_isDigit [.iconst 1] (pc1 := 13) (ls1 := [some (.int x0)]) (st1 := [.int 1]) (h1 := h) (P := True) (by decide +kernel) rfl trivial ?_
      refine q_goto (off := 4) (tgt := 17) (by decide) (by decide +kernel) ?_
      cases e
      exact q_zret rfl (Or.inr rfl) k.1 k.2 (by decide +kernel)
theorem s_Tape_isDigit {E : pE} {x0 : Int32} {h : pH}  : Ct E M_Tape_isDigit [.int x0] h (some (.int (f_Tape_isDigit x0))) h :=
  Ct_of ok_Tape_isDigit [some (.int x0)] (Nat.le_of_ble_eq_true rfl) rfl (b_Tape_isDigit  rfl ⟨rfl, rfl⟩)
end
