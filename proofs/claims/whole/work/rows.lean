section
-- ===== PART A: goes FIRST, ahead of the names: the tables' words, and 'selects' of the private methods out of them =====
/-- a private method of a class that the tables say can be made, by its rows of tables_1 -/
def lw_okq (q : MethodName × Nat) : Prop := (q.1.cls ≠ "java/lang/invoke/MethodHandle" ∧ q.1.cls ≠ "java/lang/invoke/VarHandle") ∧ Cond.instantiable q.1.cls q.2 ∈ tables_1 ∧ Cond.privateMethod q.1 ∈ tables_1 ∧ Cond.instanceMethod q.1 ∈ tables_1
theorem lw_p0 : lw_okq (⟨"CloudDepth$TextReader", "reset", "()V"⟩, 10) := ⟨⟨by decide +kernel, by decide +kernel⟩, List.mem_of_getElem? (i := 65) (by decide +kernel), List.mem_of_getElem? (i := 397) (by decide +kernel), List.mem_of_getElem? (i := 398) (by decide +kernel)⟩
theorem lw_p1 : lw_okq (⟨"CloudDepth$Tape", "byteAt", "(I)I"⟩, 7) := ⟨⟨by decide +kernel, by decide +kernel⟩, List.mem_of_getElem? (i := 30) (by decide +kernel), List.mem_of_getElem? (i := 413) (by decide +kernel), List.mem_of_getElem? (i := 414) (by decide +kernel)⟩
theorem lw_p2 : lw_okq (⟨"CloudDepth$Tape", "scanLetters", "()V"⟩, 7) := ⟨⟨by decide +kernel, by decide +kernel⟩, List.mem_of_getElem? (i := 30) (by decide +kernel), List.mem_of_getElem? (i := 423) (by decide +kernel), List.mem_of_getElem? (i := 424) (by decide +kernel)⟩
theorem lw_p3 : lw_okq (⟨"CloudDepth$Tape", "spells", "(Ljava/lang/String;)Z"⟩, 7) := ⟨⟨by decide +kernel, by decide +kernel⟩, List.mem_of_getElem? (i := 30) (by decide +kernel), List.mem_of_getElem? (i := 429) (by decide +kernel), List.mem_of_getElem? (i := 430) (by decide +kernel)⟩
theorem lw_p4 : lw_okq (⟨"CloudDepth$Tape", "scanDigits", "()V"⟩, 7) := ⟨⟨by decide +kernel, by decide +kernel⟩, List.mem_of_getElem? (i := 30) (by decide +kernel), List.mem_of_getElem? (i := 485) (by decide +kernel), List.mem_of_getElem? (i := 486) (by decide +kernel)⟩
theorem lw_p5 : lw_okq (⟨"CloudDepth$TextReader", "hardFault", "()I"⟩, 10) := ⟨⟨by decide +kernel, by decide +kernel⟩, List.mem_of_getElem? (i := 65) (by decide +kernel), List.mem_of_getElem? (i := 489) (by decide +kernel), List.mem_of_getElem? (i := 490) (by decide +kernel)⟩
theorem lw_p6 : lw_okq (⟨"CloudDepth$TextReader", "endWith", "(II)I"⟩, 10) := ⟨⟨by decide +kernel, by decide +kernel⟩, List.mem_of_getElem? (i := 65) (by decide +kernel), List.mem_of_getElem? (i := 496) (by decide +kernel), List.mem_of_getElem? (i := 497) (by decide +kernel)⟩
theorem lw_p7 : lw_okq (⟨"CloudDepth$TextReader", "take", "()V"⟩, 10) := ⟨⟨by decide +kernel, by decide +kernel⟩, List.mem_of_getElem? (i := 65) (by decide +kernel), List.mem_of_getElem? (i := 500) (by decide +kernel), List.mem_of_getElem? (i := 501) (by decide +kernel)⟩
theorem lw_p8 : lw_okq (⟨"CloudDepth$TextReader", "takeName", "()V"⟩, 10) := ⟨⟨by decide +kernel, by decide +kernel⟩, List.mem_of_getElem? (i := 65) (by decide +kernel), List.mem_of_getElem? (i := 504) (by decide +kernel), List.mem_of_getElem? (i := 505) (by decide +kernel)⟩
theorem lw_p9 : lw_okq (⟨"CloudDepth$TextReader", "takeNumber", "(I)V"⟩, 10) := ⟨⟨by decide +kernel, by decide +kernel⟩, List.mem_of_getElem? (i := 65) (by decide +kernel), List.mem_of_getElem? (i := 508) (by decide +kernel), List.mem_of_getElem? (i := 509) (by decide +kernel)⟩
theorem lw_p10 : lw_okq (⟨"CloudDepth$TextReader", "takeGrid", "(I)V"⟩, 10) := ⟨⟨by decide +kernel, by decide +kernel⟩, List.mem_of_getElem? (i := 65) (by decide +kernel), List.mem_of_getElem? (i := 512) (by decide +kernel), List.mem_of_getElem? (i := 513) (by decide +kernel)⟩
theorem lw_p11 : lw_okq (⟨"CloudDepth", "forgetPast", "()V"⟩, 15) := ⟨⟨by decide +kernel, by decide +kernel⟩, List.mem_of_getElem? (i := 22) (by decide +kernel), List.mem_of_getElem? (i := 538) (by decide +kernel), List.mem_of_getElem? (i := 539) (by decide +kernel)⟩
theorem lw_p12 : lw_okq (⟨"CloudDepth", "emptySlots", "()V"⟩, 15) := ⟨⟨by decide +kernel, by decide +kernel⟩, List.mem_of_getElem? (i := 22) (by decide +kernel), List.mem_of_getElem? (i := 542) (by decide +kernel), List.mem_of_getElem? (i := 543) (by decide +kernel)⟩
theorem lw_p13 : lw_okq (⟨"CloudDepth", "rememberPast", "()V"⟩, 15) := ⟨⟨by decide +kernel, by decide +kernel⟩, List.mem_of_getElem? (i := 22) (by decide +kernel), List.mem_of_getElem? (i := 556) (by decide +kernel), List.mem_of_getElem? (i := 557) (by decide +kernel)⟩
theorem lw_p14 : lw_okq (⟨"CloudDepth$Depths", "depthOver", "(LCloudDepth$Cloud;III)I"⟩, 13) := ⟨⟨by decide +kernel, by decide +kernel⟩, List.mem_of_getElem? (i := 181) (by decide +kernel), List.mem_of_getElem? (i := 661) (by decide +kernel), List.mem_of_getElem? (i := 662) (by decide +kernel)⟩
theorem lw_p15 : lw_okq (⟨"CloudDepth$Depths", "fewestAbout", "(II)I"⟩, 13) := ⟨⟨by decide +kernel, by decide +kernel⟩, List.mem_of_getElem? (i := 181) (by decide +kernel), List.mem_of_getElem? (i := 665) (by decide +kernel), List.mem_of_getElem? (i := 666) (by decide +kernel)⟩
def lw_privs_1 : List (MethodName × Nat) := [(⟨"CloudDepth$TextReader", "reset", "()V"⟩, 10), (⟨"CloudDepth$Tape", "byteAt", "(I)I"⟩, 7), (⟨"CloudDepth$Tape", "scanLetters", "()V"⟩, 7), (⟨"CloudDepth$Tape", "spells", "(Ljava/lang/String;)Z"⟩, 7), (⟨"CloudDepth$Tape", "scanDigits", "()V"⟩, 7), (⟨"CloudDepth$TextReader", "hardFault", "()I"⟩, 10), (⟨"CloudDepth$TextReader", "endWith", "(II)I"⟩, 10), (⟨"CloudDepth$TextReader", "take", "()V"⟩, 10), (⟨"CloudDepth$TextReader", "takeName", "()V"⟩, 10), (⟨"CloudDepth$TextReader", "takeNumber", "(I)V"⟩, 10), (⟨"CloudDepth$TextReader", "takeGrid", "(I)V"⟩, 10), (⟨"CloudDepth", "forgetPast", "()V"⟩, 15), (⟨"CloudDepth", "emptySlots", "()V"⟩, 15), (⟨"CloudDepth", "rememberPast", "()V"⟩, 15), (⟨"CloudDepth$Depths", "depthOver", "(LCloudDepth$Cloud;III)I"⟩, 13), (⟨"CloudDepth$Depths", "fewestAbout", "(II)I"⟩, 13)]
theorem lw_r1 : ∀ q ∈ lw_privs_1, lw_okq q := List.forall_mem_cons.mpr ⟨lw_p0, List.forall_mem_cons.mpr ⟨lw_p1, List.forall_mem_cons.mpr ⟨lw_p2, List.forall_mem_cons.mpr ⟨lw_p3, List.forall_mem_cons.mpr ⟨lw_p4, List.forall_mem_cons.mpr ⟨lw_p5, List.forall_mem_cons.mpr ⟨lw_p6, List.forall_mem_cons.mpr ⟨lw_p7, List.forall_mem_cons.mpr ⟨lw_p8, List.forall_mem_cons.mpr ⟨lw_p9, List.forall_mem_cons.mpr ⟨lw_p10, List.forall_mem_cons.mpr ⟨lw_p11, List.forall_mem_cons.mpr ⟨lw_p12, List.forall_mem_cons.mpr ⟨lw_p13, List.forall_mem_cons.mpr ⟨lw_p14, List.forall_mem_cons.mpr ⟨lw_p15, fun _ h => absurd h List.not_mem_nil⟩⟩⟩⟩⟩⟩⟩⟩⟩⟩⟩⟩⟩⟩⟩⟩
theorem lw_p16 : lw_okq (⟨"CloudDepth$Cuts", "cutAlong", "(LCloudDepth$Cloud;II)V"⟩, 2) := ⟨⟨by decide +kernel, by decide +kernel⟩, List.mem_of_getElem? (i := 236) (by decide +kernel), List.mem_of_getElem? (i := 784) (by decide +kernel), List.mem_of_getElem? (i := 785) (by decide +kernel)⟩
theorem lw_p17 : lw_okq (⟨"CloudDepth$Cuts", "markBoth", "(IIII)V"⟩, 2) := ⟨⟨by decide +kernel, by decide +kernel⟩, List.mem_of_getElem? (i := 236) (by decide +kernel), List.mem_of_getElem? (i := 789) (by decide +kernel), List.mem_of_getElem? (i := 790) (by decide +kernel)⟩
theorem lw_p18 : lw_okq (⟨"CloudDepth$Depths", "noteDepth", "(III)V"⟩, 13) := ⟨⟨by decide +kernel, by decide +kernel⟩, List.mem_of_getElem? (i := 181) (by decide +kernel), List.mem_of_getElem? (i := 836) (by decide +kernel), List.mem_of_getElem? (i := 837) (by decide +kernel)⟩
theorem lw_p19 : lw_okq (⟨"CloudDepth$Lines", "sinkLast", "(LCloudDepth$Cloud;)V"⟩, 2) := ⟨⟨by decide +kernel, by decide +kernel⟩, List.mem_of_getElem? (i := 260) (by decide +kernel), List.mem_of_getElem? (i := 925) (by decide +kernel), List.mem_of_getElem? (i := 926) (by decide +kernel)⟩
theorem lw_p20 : lw_okq (⟨"CloudDepth$Lines", "compareX", "(LCloudDepth$Cloud;II)I"⟩, 2) := ⟨⟨by decide +kernel, by decide +kernel⟩, List.mem_of_getElem? (i := 260) (by decide +kernel), List.mem_of_getElem? (i := 929) (by decide +kernel), List.mem_of_getElem? (i := 930) (by decide +kernel)⟩
theorem lw_p21 : lw_okq (⟨"CloudDepth$Fits", "noteFit", "(III)V"⟩, 6) := ⟨⟨by decide +kernel, by decide +kernel⟩, List.mem_of_getElem? (i := 274) (by decide +kernel), List.mem_of_getElem? (i := 999) (by decide +kernel), List.mem_of_getElem? (i := 1000) (by decide +kernel)⟩
theorem lw_p22 : lw_okq (⟨"CloudDepth", "greatestPointDepth", "()I"⟩, 15) := ⟨⟨by decide +kernel, by decide +kernel⟩, List.mem_of_getElem? (i := 22) (by decide +kernel), List.mem_of_getElem? (i := 1015) (by decide +kernel), List.mem_of_getElem? (i := 1016) (by decide +kernel)⟩
theorem lw_p23 : lw_okq (⟨"CloudDepth", "pointsOfDepth", "(I)I"⟩, 15) := ⟨⟨by decide +kernel, by decide +kernel⟩, List.mem_of_getElem? (i := 22) (by decide +kernel), List.mem_of_getElem? (i := 1020) (by decide +kernel), List.mem_of_getElem? (i := 1021) (by decide +kernel)⟩
theorem lw_p24 : lw_okq (⟨"CloudDepth", "slotsInUse", "()I"⟩, 15) := ⟨⟨by decide +kernel, by decide +kernel⟩, List.mem_of_getElem? (i := 22) (by decide +kernel), List.mem_of_getElem? (i := 1024) (by decide +kernel), List.mem_of_getElem? (i := 1025) (by decide +kernel)⟩
theorem lw_p25 : lw_okq (⟨"CloudDepth", "thirdPart", "()I"⟩, 15) := ⟨⟨by decide +kernel, by decide +kernel⟩, List.mem_of_getElem? (i := 22) (by decide +kernel), List.mem_of_getElem? (i := 1028) (by decide +kernel), List.mem_of_getElem? (i := 1029) (by decide +kernel)⟩
theorem lw_p26 : lw_okq (⟨"CloudDepth$Shapes", "isConvex", "(LCloudDepth$Cloud;I)Z"⟩, 1) := ⟨⟨by decide +kernel, by decide +kernel⟩, List.mem_of_getElem? (i := 303) (by decide +kernel), List.mem_of_getElem? (i := 1038) (by decide +kernel), List.mem_of_getElem? (i := 1039) (by decide +kernel)⟩
theorem lw_p27 : lw_okq (⟨"CloudDepthModel", "lays", "(I)V"⟩, 40) := ⟨⟨by decide +kernel, by decide +kernel⟩, List.mem_of_getElem? (i := 1059) (by decide +kernel), List.mem_of_getElem? (i := 1196) (by decide +kernel), List.mem_of_getElem? (i := 1197) (by decide +kernel)⟩
theorem lw_p28 : lw_okq (⟨"CloudDepthModel", "cutsText", "()V"⟩, 40) := ⟨⟨by decide +kernel, by decide +kernel⟩, List.mem_of_getElem? (i := 1059) (by decide +kernel), List.mem_of_getElem? (i := 1208) (by decide +kernel), List.mem_of_getElem? (i := 1209) (by decide +kernel)⟩
theorem lw_p29 : lw_okq (⟨"CloudDepthModel", "byteAt", "(I)I"⟩, 40) := ⟨⟨by decide +kernel, by decide +kernel⟩, List.mem_of_getElem? (i := 1059) (by decide +kernel), List.mem_of_getElem? (i := 1212) (by decide +kernel), List.mem_of_getElem? (i := 1213) (by decide +kernel)⟩
theorem lw_p30 : lw_okq (⟨"CloudDepthModel", "token", "(IIIJ)V"⟩, 40) := ⟨⟨by decide +kernel, by decide +kernel⟩, List.mem_of_getElem? (i := 1059) (by decide +kernel), List.mem_of_getElem? (i := 1216) (by decide +kernel), List.mem_of_getElem? (i := 1217) (by decide +kernel)⟩
theorem lw_p31 : lw_okq (⟨"CloudDepthModel", "sign", "(II)I"⟩, 40) := ⟨⟨by decide +kernel, by decide +kernel⟩, List.mem_of_getElem? (i := 1059) (by decide +kernel), List.mem_of_getElem? (i := 1226) (by decide +kernel), List.mem_of_getElem? (i := 1227) (by decide +kernel)⟩
def lw_privs_2 : List (MethodName × Nat) := [(⟨"CloudDepth$Cuts", "cutAlong", "(LCloudDepth$Cloud;II)V"⟩, 2), (⟨"CloudDepth$Cuts", "markBoth", "(IIII)V"⟩, 2), (⟨"CloudDepth$Depths", "noteDepth", "(III)V"⟩, 13), (⟨"CloudDepth$Lines", "sinkLast", "(LCloudDepth$Cloud;)V"⟩, 2), (⟨"CloudDepth$Lines", "compareX", "(LCloudDepth$Cloud;II)I"⟩, 2), (⟨"CloudDepth$Fits", "noteFit", "(III)V"⟩, 6), (⟨"CloudDepth", "greatestPointDepth", "()I"⟩, 15), (⟨"CloudDepth", "pointsOfDepth", "(I)I"⟩, 15), (⟨"CloudDepth", "slotsInUse", "()I"⟩, 15), (⟨"CloudDepth", "thirdPart", "()I"⟩, 15), (⟨"CloudDepth$Shapes", "isConvex", "(LCloudDepth$Cloud;I)Z"⟩, 1), (⟨"CloudDepthModel", "lays", "(I)V"⟩, 40), (⟨"CloudDepthModel", "cutsText", "()V"⟩, 40), (⟨"CloudDepthModel", "byteAt", "(I)I"⟩, 40), (⟨"CloudDepthModel", "token", "(IIIJ)V"⟩, 40), (⟨"CloudDepthModel", "sign", "(II)I"⟩, 40)]
theorem lw_r2 : ∀ q ∈ lw_privs_2, lw_okq q := List.forall_mem_cons.mpr ⟨lw_p16, List.forall_mem_cons.mpr ⟨lw_p17, List.forall_mem_cons.mpr ⟨lw_p18, List.forall_mem_cons.mpr ⟨lw_p19, List.forall_mem_cons.mpr ⟨lw_p20, List.forall_mem_cons.mpr ⟨lw_p21, List.forall_mem_cons.mpr ⟨lw_p22, List.forall_mem_cons.mpr ⟨lw_p23, List.forall_mem_cons.mpr ⟨lw_p24, List.forall_mem_cons.mpr ⟨lw_p25, List.forall_mem_cons.mpr ⟨lw_p26, List.forall_mem_cons.mpr ⟨lw_p27, List.forall_mem_cons.mpr ⟨lw_p28, List.forall_mem_cons.mpr ⟨lw_p29, List.forall_mem_cons.mpr ⟨lw_p30, List.forall_mem_cons.mpr ⟨lw_p31, fun _ h => absurd h List.not_mem_nil⟩⟩⟩⟩⟩⟩⟩⟩⟩⟩⟩⟩⟩⟩⟩⟩
theorem lw_p32 : lw_okq (⟨"CloudDepthModel", "is", "(I)Z"⟩, 40) := ⟨⟨by decide +kernel, by decide +kernel⟩, List.mem_of_getElem? (i := 1059) (by decide +kernel), List.mem_of_getElem? (i := 1230) (by decide +kernel), List.mem_of_getElem? (i := 1231) (by decide +kernel)⟩
theorem lw_p33 : lw_okq (⟨"CloudDepthModel", "line", "()V"⟩, 40) := ⟨⟨by decide +kernel, by decide +kernel⟩, List.mem_of_getElem? (i := 1059) (by decide +kernel), List.mem_of_getElem? (i := 1234) (by decide +kernel), List.mem_of_getElem? (i := 1235) (by decide +kernel)⟩
theorem lw_p34 : lw_okq (⟨"CloudDepthModel", "fail", "(I)V"⟩, 40) := ⟨⟨by decide +kernel, by decide +kernel⟩, List.mem_of_getElem? (i := 1059) (by decide +kernel), List.mem_of_getElem? (i := 1238) (by decide +kernel), List.mem_of_getElem? (i := 1239) (by decide +kernel)⟩
theorem lw_p35 : lw_okq (⟨"CloudDepthModel", "passes", "()V"⟩, 40) := ⟨⟨by decide +kernel, by decide +kernel⟩, List.mem_of_getElem? (i := 1059) (by decide +kernel), List.mem_of_getElem? (i := 1242) (by decide +kernel), List.mem_of_getElem? (i := 1243) (by decide +kernel)⟩
theorem lw_p36 : lw_okq (⟨"CloudDepthModel", "must", "(I)V"⟩, 40) := ⟨⟨by decide +kernel, by decide +kernel⟩, List.mem_of_getElem? (i := 1059) (by decide +kernel), List.mem_of_getElem? (i := 1246) (by decide +kernel), List.mem_of_getElem? (i := 1247) (by decide +kernel)⟩
theorem lw_p37 : lw_okq (⟨"CloudDepthModel", "signed", "()V"⟩, 40) := ⟨⟨by decide +kernel, by decide +kernel⟩, List.mem_of_getElem? (i := 1059) (by decide +kernel), List.mem_of_getElem? (i := 1250) (by decide +kernel), List.mem_of_getElem? (i := 1251) (by decide +kernel)⟩
theorem lw_p38 : lw_okq (⟨"CloudDepthModel", "means", "()V"⟩, 40) := ⟨⟨by decide +kernel, by decide +kernel⟩, List.mem_of_getElem? (i := 1059) (by decide +kernel), List.mem_of_getElem? (i := 1254) (by decide +kernel), List.mem_of_getElem? (i := 1255) (by decide +kernel)⟩
theorem lw_p39 : lw_okq (⟨"CloudDepthModel", "meansPoint", "(I)V"⟩, 40) := ⟨⟨by decide +kernel, by decide +kernel⟩, List.mem_of_getElem? (i := 1059) (by decide +kernel), List.mem_of_getElem? (i := 1258) (by decide +kernel), List.mem_of_getElem? (i := 1259) (by decide +kernel)⟩
theorem lw_p40 : lw_okq (⟨"CloudDepthModel", "wrong", "(II)V"⟩, 40) := ⟨⟨by decide +kernel, by decide +kernel⟩, List.mem_of_getElem? (i := 1059) (by decide +kernel), List.mem_of_getElem? (i := 1262) (by decide +kernel), List.mem_of_getElem? (i := 1263) (by decide +kernel)⟩
theorem lw_p41 : lw_okq (⟨"CloudDepthModel", "all", "()I"⟩, 40) := ⟨⟨by decide +kernel, by decide +kernel⟩, List.mem_of_getElem? (i := 1059) (by decide +kernel), List.mem_of_getElem? (i := 1289) (by decide +kernel), List.mem_of_getElem? (i := 1290) (by decide +kernel)⟩
theorem lw_p42 : lw_okq (⟨"CloudDepthModel", "canBe", "(II)Z"⟩, 40) := ⟨⟨by decide +kernel, by decide +kernel⟩, List.mem_of_getElem? (i := 1059) (by decide +kernel), List.mem_of_getElem? (i := 1293) (by decide +kernel), List.mem_of_getElem? (i := 1294) (by decide +kernel)⟩
theorem lw_p43 : lw_okq (⟨"CloudDepthModel", "pointAt", "(II)I"⟩, 40) := ⟨⟨by decide +kernel, by decide +kernel⟩, List.mem_of_getElem? (i := 1059) (by decide +kernel), List.mem_of_getElem? (i := 1297) (by decide +kernel), List.mem_of_getElem? (i := 1298) (by decide +kernel)⟩
theorem lw_p44 : lw_okq (⟨"CloudDepthModel", "x", "(I)I"⟩, 40) := ⟨⟨by decide +kernel, by decide +kernel⟩, List.mem_of_getElem? (i := 1059) (by decide +kernel), List.mem_of_getElem? (i := 1301) (by decide +kernel), List.mem_of_getElem? (i := 1302) (by decide +kernel)⟩
theorem lw_p45 : lw_okq (⟨"CloudDepthModel", "y", "(I)I"⟩, 40) := ⟨⟨by decide +kernel, by decide +kernel⟩, List.mem_of_getElem? (i := 1059) (by decide +kernel), List.mem_of_getElem? (i := 1305) (by decide +kernel), List.mem_of_getElem? (i := 1306) (by decide +kernel)⟩
theorem lw_p46 : lw_okq (⟨"CloudDepthModel", "marks", "()V"⟩, 40) := ⟨⟨by decide +kernel, by decide +kernel⟩, List.mem_of_getElem? (i := 1059) (by decide +kernel), List.mem_of_getElem? (i := 1309) (by decide +kernel), List.mem_of_getElem? (i := 1310) (by decide +kernel)⟩
theorem lw_p47 : lw_okq (⟨"CloudDepthModel", "lays", "(III)V"⟩, 40) := ⟨⟨by decide +kernel, by decide +kernel⟩, List.mem_of_getElem? (i := 1059) (by decide +kernel), List.mem_of_getElem? (i := 1313) (by decide +kernel), List.mem_of_getElem? (i := 1314) (by decide +kernel)⟩
def lw_privs_3 : List (MethodName × Nat) := [(⟨"CloudDepthModel", "is", "(I)Z"⟩, 40), (⟨"CloudDepthModel", "line", "()V"⟩, 40), (⟨"CloudDepthModel", "fail", "(I)V"⟩, 40), (⟨"CloudDepthModel", "passes", "()V"⟩, 40), (⟨"CloudDepthModel", "must", "(I)V"⟩, 40), (⟨"CloudDepthModel", "signed", "()V"⟩, 40), (⟨"CloudDepthModel", "means", "()V"⟩, 40), (⟨"CloudDepthModel", "meansPoint", "(I)V"⟩, 40), (⟨"CloudDepthModel", "wrong", "(II)V"⟩, 40), (⟨"CloudDepthModel", "all", "()I"⟩, 40), (⟨"CloudDepthModel", "canBe", "(II)Z"⟩, 40), (⟨"CloudDepthModel", "pointAt", "(II)I"⟩, 40), (⟨"CloudDepthModel", "x", "(I)I"⟩, 40), (⟨"CloudDepthModel", "y", "(I)I"⟩, 40), (⟨"CloudDepthModel", "marks", "()V"⟩, 40), (⟨"CloudDepthModel", "lays", "(III)V"⟩, 40)]
theorem lw_r3 : ∀ q ∈ lw_privs_3, lw_okq q := List.forall_mem_cons.mpr ⟨lw_p32, List.forall_mem_cons.mpr ⟨lw_p33, List.forall_mem_cons.mpr ⟨lw_p34, List.forall_mem_cons.mpr ⟨lw_p35, List.forall_mem_cons.mpr ⟨lw_p36, List.forall_mem_cons.mpr ⟨lw_p37, List.forall_mem_cons.mpr ⟨lw_p38, List.forall_mem_cons.mpr ⟨lw_p39, List.forall_mem_cons.mpr ⟨lw_p40, List.forall_mem_cons.mpr ⟨lw_p41, List.forall_mem_cons.mpr ⟨lw_p42, List.forall_mem_cons.mpr ⟨lw_p43, List.forall_mem_cons.mpr ⟨lw_p44, List.forall_mem_cons.mpr ⟨lw_p45, List.forall_mem_cons.mpr ⟨lw_p46, List.forall_mem_cons.mpr ⟨lw_p47, fun _ h => absurd h List.not_mem_nil⟩⟩⟩⟩⟩⟩⟩⟩⟩⟩⟩⟩⟩⟩⟩⟩
theorem lw_p48 : lw_okq (⟨"CloudDepthModel", "isPoint", "(I)Z"⟩, 40) := ⟨⟨by decide +kernel, by decide +kernel⟩, List.mem_of_getElem? (i := 1059) (by decide +kernel), List.mem_of_getElem? (i := 1321) (by decide +kernel), List.mem_of_getElem? (i := 1322) (by decide +kernel)⟩
theorem lw_p49 : lw_okq (⟨"CloudDepthModel", "turnOf", "(IIII)I"⟩, 40) := ⟨⟨by decide +kernel, by decide +kernel⟩, List.mem_of_getElem? (i := 1059) (by decide +kernel), List.mem_of_getElem? (i := 1338) (by decide +kernel), List.mem_of_getElem? (i := 1339) (by decide +kernel)⟩
theorem lw_p50 : lw_okq (⟨"CloudDepthModel", "sideOf", "(III)I"⟩, 40) := ⟨⟨by decide +kernel, by decide +kernel⟩, List.mem_of_getElem? (i := 1059) (by decide +kernel), List.mem_of_getElem? (i := 1342) (by decide +kernel), List.mem_of_getElem? (i := 1343) (by decide +kernel)⟩
theorem lw_p51 : lw_okq (⟨"CloudDepthModel", "full", "()I"⟩, 40) := ⟨⟨by decide +kernel, by decide +kernel⟩, List.mem_of_getElem? (i := 1059) (by decide +kernel), List.mem_of_getElem? (i := 1350) (by decide +kernel), List.mem_of_getElem? (i := 1351) (by decide +kernel)⟩
theorem lw_p52 : lw_okq (⟨"CloudDepthModel", "onSide", "(IIII)I"⟩, 40) := ⟨⟨by decide +kernel, by decide +kernel⟩, List.mem_of_getElem? (i := 1059) (by decide +kernel), List.mem_of_getElem? (i := 1354) (by decide +kernel), List.mem_of_getElem? (i := 1355) (by decide +kernel)⟩
theorem lw_p53 : lw_okq (⟨"CloudDepthModel", "laysCorners", "()I"⟩, 40) := ⟨⟨by decide +kernel, by decide +kernel⟩, List.mem_of_getElem? (i := 1059) (by decide +kernel), List.mem_of_getElem? (i := 1368) (by decide +kernel), List.mem_of_getElem? (i := 1369) (by decide +kernel)⟩
theorem lw_p54 : lw_okq (⟨"CloudDepthModel", "cornersOf", "(I)I"⟩, 40) := ⟨⟨by decide +kernel, by decide +kernel⟩, List.mem_of_getElem? (i := 1059) (by decide +kernel), List.mem_of_getElem? (i := 1372) (by decide +kernel), List.mem_of_getElem? (i := 1373) (by decide +kernel)⟩
theorem lw_p55 : lw_okq (⟨"CloudDepthModel", "hullOf", "(I)I"⟩, 40) := ⟨⟨by decide +kernel, by decide +kernel⟩, List.mem_of_getElem? (i := 1059) (by decide +kernel), List.mem_of_getElem? (i := 1376) (by decide +kernel), List.mem_of_getElem? (i := 1377) (by decide +kernel)⟩
theorem lw_p56 : lw_okq (⟨"CloudDepthModel", "isRim", "(II)Z"⟩, 40) := ⟨⟨by decide +kernel, by decide +kernel⟩, List.mem_of_getElem? (i := 1059) (by decide +kernel), List.mem_of_getElem? (i := 1380) (by decide +kernel), List.mem_of_getElem? (i := 1381) (by decide +kernel)⟩
theorem lw_p57 : lw_okq (⟨"CloudDepthModel", "isBetween", "(III)Z"⟩, 40) := ⟨⟨by decide +kernel, by decide +kernel⟩, List.mem_of_getElem? (i := 1059) (by decide +kernel), List.mem_of_getElem? (i := 1384) (by decide +kernel), List.mem_of_getElem? (i := 1385) (by decide +kernel)⟩
theorem lw_p58 : lw_okq (⟨"CloudDepthModel", "laysLayers", "()I"⟩, 40) := ⟨⟨by decide +kernel, by decide +kernel⟩, List.mem_of_getElem? (i := 1059) (by decide +kernel), List.mem_of_getElem? (i := 1392) (by decide +kernel), List.mem_of_getElem? (i := 1393) (by decide +kernel)⟩
theorem lw_p59 : lw_okq (⟨"CloudDepthModel", "halves", "(III)Z"⟩, 40) := ⟨⟨by decide +kernel, by decide +kernel⟩, List.mem_of_getElem? (i := 1059) (by decide +kernel), List.mem_of_getElem? (i := 1404) (by decide +kernel), List.mem_of_getElem? (i := 1405) (by decide +kernel)⟩
theorem lw_p60 : lw_okq (⟨"CloudDepthModel", "laysMeetings", "()V"⟩, 40) := ⟨⟨by decide +kernel, by decide +kernel⟩, List.mem_of_getElem? (i := 1059) (by decide +kernel), List.mem_of_getElem? (i := 1416) (by decide +kernel), List.mem_of_getElem? (i := 1417) (by decide +kernel)⟩
theorem lw_p61 : lw_okq (⟨"CloudDepthModel", "meets", "(II)V"⟩, 40) := ⟨⟨by decide +kernel, by decide +kernel⟩, List.mem_of_getElem? (i := 1059) (by decide +kernel), List.mem_of_getElem? (i := 1420) (by decide +kernel), List.mem_of_getElem? (i := 1421) (by decide +kernel)⟩
theorem lw_p62 : lw_okq (⟨"CloudDepthModel", "isWithin", "(IIII)Z"⟩, 40) := ⟨⟨by decide +kernel, by decide +kernel⟩, List.mem_of_getElem? (i := 1059) (by decide +kernel), List.mem_of_getElem? (i := 1424) (by decide +kernel), List.mem_of_getElem? (i := 1425) (by decide +kernel)⟩
theorem lw_p63 : lw_okq (⟨"CloudDepthModel", "areAcross", "(IIII)Z"⟩, 40) := ⟨⟨by decide +kernel, by decide +kernel⟩, List.mem_of_getElem? (i := 1059) (by decide +kernel), List.mem_of_getElem? (i := 1428) (by decide +kernel), List.mem_of_getElem? (i := 1429) (by decide +kernel)⟩
def lw_privs_4 : List (MethodName × Nat) := [(⟨"CloudDepthModel", "isPoint", "(I)Z"⟩, 40), (⟨"CloudDepthModel", "turnOf", "(IIII)I"⟩, 40), (⟨"CloudDepthModel", "sideOf", "(III)I"⟩, 40), (⟨"CloudDepthModel", "full", "()I"⟩, 40), (⟨"CloudDepthModel", "onSide", "(IIII)I"⟩, 40), (⟨"CloudDepthModel", "laysCorners", "()I"⟩, 40), (⟨"CloudDepthModel", "cornersOf", "(I)I"⟩, 40), (⟨"CloudDepthModel", "hullOf", "(I)I"⟩, 40), (⟨"CloudDepthModel", "isRim", "(II)Z"⟩, 40), (⟨"CloudDepthModel", "isBetween", "(III)Z"⟩, 40), (⟨"CloudDepthModel", "laysLayers", "()I"⟩, 40), (⟨"CloudDepthModel", "halves", "(III)Z"⟩, 40), (⟨"CloudDepthModel", "laysMeetings", "()V"⟩, 40), (⟨"CloudDepthModel", "meets", "(II)V"⟩, 40), (⟨"CloudDepthModel", "isWithin", "(IIII)Z"⟩, 40), (⟨"CloudDepthModel", "areAcross", "(IIII)Z"⟩, 40)]
theorem lw_r4 : ∀ q ∈ lw_privs_4, lw_okq q := List.forall_mem_cons.mpr ⟨lw_p48, List.forall_mem_cons.mpr ⟨lw_p49, List.forall_mem_cons.mpr ⟨lw_p50, List.forall_mem_cons.mpr ⟨lw_p51, List.forall_mem_cons.mpr ⟨lw_p52, List.forall_mem_cons.mpr ⟨lw_p53, List.forall_mem_cons.mpr ⟨lw_p54, List.forall_mem_cons.mpr ⟨lw_p55, List.forall_mem_cons.mpr ⟨lw_p56, List.forall_mem_cons.mpr ⟨lw_p57, List.forall_mem_cons.mpr ⟨lw_p58, List.forall_mem_cons.mpr ⟨lw_p59, List.forall_mem_cons.mpr ⟨lw_p60, List.forall_mem_cons.mpr ⟨lw_p61, List.forall_mem_cons.mpr ⟨lw_p62, List.forall_mem_cons.mpr ⟨lw_p63, fun _ h => absurd h List.not_mem_nil⟩⟩⟩⟩⟩⟩⟩⟩⟩⟩⟩⟩⟩⟩⟩⟩
theorem lw_p64 : lw_okq (⟨"CloudDepthModel", "areParted", "(I)Z"⟩, 40) := ⟨⟨by decide +kernel, by decide +kernel⟩, List.mem_of_getElem? (i := 1059) (by decide +kernel), List.mem_of_getElem? (i := 1432) (by decide +kernel), List.mem_of_getElem? (i := 1433) (by decide +kernel)⟩
theorem lw_p65 : lw_okq (⟨"CloudDepthModel", "isInside", "(IIIII)Z"⟩, 40) := ⟨⟨by decide +kernel, by decide +kernel⟩, List.mem_of_getElem? (i := 1059) (by decide +kernel), List.mem_of_getElem? (i := 1455) (by decide +kernel), List.mem_of_getElem? (i := 1456) (by decide +kernel)⟩
theorem lw_p66 : lw_okq (⟨"CloudDepthModel", "depthOf", "(II)I"⟩, 40) := ⟨⟨by decide +kernel, by decide +kernel⟩, List.mem_of_getElem? (i := 1059) (by decide +kernel), List.mem_of_getElem? (i := 1463) (by decide +kernel), List.mem_of_getElem? (i := 1464) (by decide +kernel)⟩
theorem lw_p67 : lw_okq (⟨"CloudDepthModel", "deepestOf", "()I"⟩, 40) := ⟨⟨by decide +kernel, by decide +kernel⟩, List.mem_of_getElem? (i := 1059) (by decide +kernel), List.mem_of_getElem? (i := 1474) (by decide +kernel), List.mem_of_getElem? (i := 1475) (by decide +kernel)⟩
theorem lw_p68 : lw_okq (⟨"CloudDepthModel", "layerOf", "(I)I"⟩, 40) := ⟨⟨by decide +kernel, by decide +kernel⟩, List.mem_of_getElem? (i := 1059) (by decide +kernel), List.mem_of_getElem? (i := 1486) (by decide +kernel), List.mem_of_getElem? (i := 1487) (by decide +kernel)⟩
theorem lw_p69 : lw_okq (⟨"CloudDepthModel", "isLayersCorner", "(I)Z"⟩, 40) := ⟨⟨by decide +kernel, by decide +kernel⟩, List.mem_of_getElem? (i := 1059) (by decide +kernel), List.mem_of_getElem? (i := 1490) (by decide +kernel), List.mem_of_getElem? (i := 1491) (by decide +kernel)⟩
theorem lw_p70 : lw_okq (⟨"CloudDepthModel", "shareOf", "(I)I"⟩, 40) := ⟨⟨by decide +kernel, by decide +kernel⟩, List.mem_of_getElem? (i := 1059) (by decide +kernel), List.mem_of_getElem? (i := 1494) (by decide +kernel), List.mem_of_getElem? (i := 1495) (by decide +kernel)⟩
theorem lw_p71 : lw_okq (⟨"CloudDepthModel", "apart", "(III)I"⟩, 40) := ⟨⟨by decide +kernel, by decide +kernel⟩, List.mem_of_getElem? (i := 1059) (by decide +kernel), List.mem_of_getElem? (i := 1498) (by decide +kernel), List.mem_of_getElem? (i := 1499) (by decide +kernel)⟩
theorem lw_p72 : lw_okq (⟨"CloudDepthModel", "keeps", "(III)Z"⟩, 40) := ⟨⟨by decide +kernel, by decide +kernel⟩, List.mem_of_getElem? (i := 1059) (by decide +kernel), List.mem_of_getElem? (i := 1506) (by decide +kernel), List.mem_of_getElem? (i := 1507) (by decide +kernel)⟩
theorem lw_p73 : lw_okq (⟨"CloudDepthModel", "lineAt", "(IIIZ)I"⟩, 40) := ⟨⟨by decide +kernel, by decide +kernel⟩, List.mem_of_getElem? (i := 1059) (by decide +kernel), List.mem_of_getElem? (i := 1518) (by decide +kernel), List.mem_of_getElem? (i := 1519) (by decide +kernel)⟩
theorem lw_p74 : lw_okq (⟨"CloudDepthModel", "valueAt", "(III)I"⟩, 40) := ⟨⟨by decide +kernel, by decide +kernel⟩, List.mem_of_getElem? (i := 1059) (by decide +kernel), List.mem_of_getElem? (i := 1522) (by decide +kernel), List.mem_of_getElem? (i := 1523) (by decide +kernel)⟩
theorem lw_p75 : lw_okq (⟨"CloudDepthModel", "laysCrossings", "()I"⟩, 40) := ⟨⟨by decide +kernel, by decide +kernel⟩, List.mem_of_getElem? (i := 1059) (by decide +kernel), List.mem_of_getElem? (i := 1530) (by decide +kernel), List.mem_of_getElem? (i := 1531) (by decide +kernel)⟩
theorem lw_p76 : lw_okq (⟨"CloudDepthModel", "fitOf", "(II)I"⟩, 40) := ⟨⟨by decide +kernel, by decide +kernel⟩, List.mem_of_getElem? (i := 1059) (by decide +kernel), List.mem_of_getElem? (i := 1545) (by decide +kernel), List.mem_of_getElem? (i := 1546) (by decide +kernel)⟩
theorem lw_p77 : lw_okq (⟨"CloudDepthModel", "area", "()I"⟩, 40) := ⟨⟨by decide +kernel, by decide +kernel⟩, List.mem_of_getElem? (i := 1059) (by decide +kernel), List.mem_of_getElem? (i := 1557) (by decide +kernel), List.mem_of_getElem? (i := 1558) (by decide +kernel)⟩
theorem lw_p78 : lw_okq (⟨"CloudDepthModel", "onLine", "()I"⟩, 40) := ⟨⟨by decide +kernel, by decide +kernel⟩, List.mem_of_getElem? (i := 1059) (by decide +kernel), List.mem_of_getElem? (i := 1561) (by decide +kernel), List.mem_of_getElem? (i := 1562) (by decide +kernel)⟩
theorem lw_p79 : lw_okq (⟨"CloudDepthModel", "deepestPoint", "(Z)I"⟩, 40) := ⟨⟨by decide +kernel, by decide +kernel⟩, List.mem_of_getElem? (i := 1059) (by decide +kernel), List.mem_of_getElem? (i := 1565) (by decide +kernel), List.mem_of_getElem? (i := 1566) (by decide +kernel)⟩
def lw_privs_5 : List (MethodName × Nat) := [(⟨"CloudDepthModel", "areParted", "(I)Z"⟩, 40), (⟨"CloudDepthModel", "isInside", "(IIIII)Z"⟩, 40), (⟨"CloudDepthModel", "depthOf", "(II)I"⟩, 40), (⟨"CloudDepthModel", "deepestOf", "()I"⟩, 40), (⟨"CloudDepthModel", "layerOf", "(I)I"⟩, 40), (⟨"CloudDepthModel", "isLayersCorner", "(I)Z"⟩, 40), (⟨"CloudDepthModel", "shareOf", "(I)I"⟩, 40), (⟨"CloudDepthModel", "apart", "(III)I"⟩, 40), (⟨"CloudDepthModel", "keeps", "(III)Z"⟩, 40), (⟨"CloudDepthModel", "lineAt", "(IIIZ)I"⟩, 40), (⟨"CloudDepthModel", "valueAt", "(III)I"⟩, 40), (⟨"CloudDepthModel", "laysCrossings", "()I"⟩, 40), (⟨"CloudDepthModel", "fitOf", "(II)I"⟩, 40), (⟨"CloudDepthModel", "area", "()I"⟩, 40), (⟨"CloudDepthModel", "onLine", "()I"⟩, 40), (⟨"CloudDepthModel", "deepestPoint", "(Z)I"⟩, 40)]
theorem lw_r5 : ∀ q ∈ lw_privs_5, lw_okq q := List.forall_mem_cons.mpr ⟨lw_p64, List.forall_mem_cons.mpr ⟨lw_p65, List.forall_mem_cons.mpr ⟨lw_p66, List.forall_mem_cons.mpr ⟨lw_p67, List.forall_mem_cons.mpr ⟨lw_p68, List.forall_mem_cons.mpr ⟨lw_p69, List.forall_mem_cons.mpr ⟨lw_p70, List.forall_mem_cons.mpr ⟨lw_p71, List.forall_mem_cons.mpr ⟨lw_p72, List.forall_mem_cons.mpr ⟨lw_p73, List.forall_mem_cons.mpr ⟨lw_p74, List.forall_mem_cons.mpr ⟨lw_p75, List.forall_mem_cons.mpr ⟨lw_p76, List.forall_mem_cons.mpr ⟨lw_p77, List.forall_mem_cons.mpr ⟨lw_p78, List.forall_mem_cons.mpr ⟨lw_p79, fun _ h => absurd h List.not_mem_nil⟩⟩⟩⟩⟩⟩⟩⟩⟩⟩⟩⟩⟩⟩⟩⟩
theorem lw_p80 : lw_okq (⟨"CloudDepthModel", "third", "()I"⟩, 40) := ⟨⟨by decide +kernel, by decide +kernel⟩, List.mem_of_getElem? (i := 1059) (by decide +kernel), List.mem_of_getElem? (i := 1569) (by decide +kernel), List.mem_of_getElem? (i := 1570) (by decide +kernel)⟩
theorem lw_p81 : lw_okq (⟨"CloudDepthModel", "convexMost", "()I"⟩, 40) := ⟨⟨by decide +kernel, by decide +kernel⟩, List.mem_of_getElem? (i := 1059) (by decide +kernel), List.mem_of_getElem? (i := 1573) (by decide +kernel), List.mem_of_getElem? (i := 1574) (by decide +kernel)⟩
theorem lw_p82 : lw_okq (⟨"CloudDepthModel", "emptyOnes", "()I"⟩, 40) := ⟨⟨by decide +kernel, by decide +kernel⟩, List.mem_of_getElem? (i := 1059) (by decide +kernel), List.mem_of_getElem? (i := 1577) (by decide +kernel), List.mem_of_getElem? (i := 1578) (by decide +kernel)⟩
theorem lw_p83 : lw_okq (⟨"CloudDepthModel", "isEmpty", "(III)Z"⟩, 40) := ⟨⟨by decide +kernel, by decide +kernel⟩, List.mem_of_getElem? (i := 1059) (by decide +kernel), List.mem_of_getElem? (i := 1581) (by decide +kernel), List.mem_of_getElem? (i := 1582) (by decide +kernel)⟩
theorem lw_p84 : lw_okq (⟨"CloudDepthModel", "crossingWays", "()I"⟩, 40) := ⟨⟨by decide +kernel, by decide +kernel⟩, List.mem_of_getElem? (i := 1059) (by decide +kernel), List.mem_of_getElem? (i := 1585) (by decide +kernel), List.mem_of_getElem? (i := 1586) (by decide +kernel)⟩
def lw_privs_6 : List (MethodName × Nat) := [(⟨"CloudDepthModel", "third", "()I"⟩, 40), (⟨"CloudDepthModel", "convexMost", "()I"⟩, 40), (⟨"CloudDepthModel", "emptyOnes", "()I"⟩, 40), (⟨"CloudDepthModel", "isEmpty", "(III)Z"⟩, 40), (⟨"CloudDepthModel", "crossingWays", "()I"⟩, 40)]
theorem lw_r6 : ∀ q ∈ lw_privs_6, lw_okq q := List.forall_mem_cons.mpr ⟨lw_p80, List.forall_mem_cons.mpr ⟨lw_p81, List.forall_mem_cons.mpr ⟨lw_p82, List.forall_mem_cons.mpr ⟨lw_p83, List.forall_mem_cons.mpr ⟨lw_p84, fun _ h => absurd h List.not_mem_nil⟩⟩⟩⟩⟩
def lw_privs : List (MethodName × Nat) := lw_privs_1 ++ (lw_privs_2 ++ (lw_privs_3 ++ (lw_privs_4 ++ (lw_privs_5 ++ (lw_privs_6)))))
def lw_tbl : List Cond := k2_sels lw_privs ++ tables_1
theorem lw_privs_ok : ∀ q ∈ lw_privs, lw_okq q := by
  show ∀ q ∈ lw_privs_1 ++ (lw_privs_2 ++ (lw_privs_3 ++ (lw_privs_4 ++ (lw_privs_5 ++ (lw_privs_6))))), lw_okq q
  exact List.forall_mem_append.mpr ⟨lw_r1, List.forall_mem_append.mpr ⟨lw_r2, List.forall_mem_append.mpr ⟨lw_r3, List.forall_mem_append.mpr ⟨lw_r4, List.forall_mem_append.mpr ⟨lw_r5, lw_r6⟩⟩⟩⟩⟩
end
section
def LT : List Cond := lw_tbl.filter goodWord
theorem mG {w : Cond} (h : w ∈ lw_tbl) (g : goodWord w = true) : w ∈ LT := List.mem_filter.mpr ⟨h, g⟩
theorem LT_good : ∀ w ∈ LT, (w.onTables && w.keeps) = true ∨ ∃ ty, w = .arrayClass ty := fun w hw => good_of_word (List.mem_filter.mp hw).2
-- the objects of both systems, by number (printed by wip/whole/gen/tables.py)
def oTab : List (Nat × Nat × List Nat) := [(0, 11, [1, 3, 8, 11, 14, 17, 21, 24, 26, 28, 31, 73, 78, 0, 0]), (0, 9, [2, 0, 0, 0, 0, 0, 0]), (1, 2000, []), (0, 10, [4, 0, 1, 7, 0, 0, 0, 0, 0, 0]), (0, 0, [5, 6, 0, 0, 0]), (1, 12, []), (1, 12, []), (4, 12, []), (0, 0, [9, 10, 0, 0, 0]), (1, 12, []), (1, 12, []), (0, 0, [12, 13, 0, 0, 0]), (1, 12, []), (1, 12, []), (0, 4, [15, 16, 0, 0]), (1, 12, []), (1, 12, []), (0, 2, [18, 19, 20, 0, 0, 0, 0, 0, 0, 0, 0, 0, 0]), (1, 1681, []), (1, 12, []), (1, 12, []), (0, 1, [22, 0]), (0, 6, [23]), (1, 128, []), (0, 5, [25, 0]), (1, 66, []), (0, 3, [27, 0, 0, 0, 0, 0]), (1, 12, []), (0, 7, [29]), (0, 6, [30]), (1, 128, []), (0, 8, [32]), (5, 40, [33, 34, 35, 36, 37, 38, 39, 40, 41, 42, 43, 44, 45, 46, 47, 48, 49, 50, 51, 52, 53, 54, 55, 56, 57, 58, 59, 60, 61, 62, 63, 64, 65, 66, 67, 68, 69, 70, 71, 72]), (1, 26, []), (1, 26, []), (1, 26, []), (1, 26, []), (1, 26, []), (1, 26, []), (1, 26, []), (1, 26, []), (1, 26, []), (1, 26, []), (1, 26, []), (1, 26, []), (1, 26, []), (1, 26, []), (1, 26, []), (1, 26, []), (1, 26, []), (1, 26, []), (1, 26, []), (1, 26, []), (1, 26, []), (1, 26, []), (1, 26, []), (1, 26, []), (1, 26, []), (1, 26, []), (1, 26, []), (1, 26, []), (1, 26, []), (1, 26, []), (1, 26, []), (1, 26, []), (1, 26, []), (1, 26, []), (1, 26, []), (1, 26, []), (1, 26, []), (1, 26, []), (1, 26, []), (1, 26, []), (0, 8, [74]), (5, 3, [75, 76, 77]), (1, 26, []), (1, 26, []), (1, 26, []), (3, 3, []), (0, 12, [0, 80, 0, 81, 0, 82, 83, 84, 85, 86, 0, 0, 0, 0, 0, 0, 0, 87, 88, 89, 90, 0, 91, 0, 0, 92, 93, 94, 95, 96, 97, 0, 0, 0, 0, 98, 99, 100, 101, 102]), (2, 2000, []), (2, 2000, []), (1, 403, []), (1, 403, []), (1, 403, []), (4, 403, []), (4, 2, []), (1, 28, []), (1, 28, []), (4, 12, []), (3, 12, []), (1, 1040, []), (1, 78, []), (3, 3, []), (1, 13, []), (1, 13, []), (1, 900, []), (1, 900, []), (1, 66, []), (1, 66, []), (1, 66, []), (1, 66, []), (1, 12, [])]
def NO : Nat := 103
def ob (o : Nat) : Nat × Nat × List Nat := oTab.getD o (9, 0, [])
def ak (o : Nat) : Nat := (ob o).1
def cx (o : Nat) : Nat := (ob o).2.1
def rf (o k : Nat) : Nat := (ob o).2.2.getD k 0
def R_0 : String := "CloudDepth$Cloud"
def F_0 : u_T := fun k => match k with
  | 0 => ("CloudDepth$Cloud", "xs", "[I", true)
  | 1 => ("CloudDepth$Cloud", "ys", "[I", true)
  | 2 => ("CloudDepth$Cloud", "size", "I", false)
  | 3 => ("CloudDepth$Cloud", "grid", "I", false)
  | _ => ("CloudDepth$Cloud", "stamp", "I", false)
def t_0 : Nat → FieldType := fun k => match k with
  | 0 => (.array .int)
  | 1 => (.array .int)
  | 2 => .int
  | 3 => .int
  | _ => .int
def R_1 : String := "CloudDepth$Cuts"
def F_1 : u_T := fun k => match k with
  | 0 => ("CloudDepth$Cuts", "found", "LCloudDepth$SetMarks;", true)
  | _ => ("CloudDepth$Cuts", "stamp", "I", false)
def t_1 : Nat → FieldType := fun k => match k with
  | 0 => (.object "CloudDepth$SetMarks")
  | _ => .int
def R_2 : String := "CloudDepth$Depths"
def F_2 : u_T := fun k => match k with
  | 0 => ("CloudDepth$Depths", "values", "[I", true)
  | 1 => ("CloudDepth$Depths", "dx", "[I", true)
  | 2 => ("CloudDepth$Depths", "dy", "[I", true)
  | 3 => ("CloudDepth$Depths", "stamp", "I", false)
  | 4 => ("CloudDepth$Depths", "greatest", "I", false)
  | 5 => ("CloudDepth$Depths", "greatestCount", "I", false)
  | 6 => ("CloudDepth$Depths", "firstX", "I", false)
  | 7 => ("CloudDepth$Depths", "firstY", "I", false)
  | 8 => ("CloudDepth$Depths", "regionCount", "I", false)
  | 9 => ("CloudDepth$Depths", "leastX", "I", false)
  | 10 => ("CloudDepth$Depths", "mostX", "I", false)
  | 11 => ("CloudDepth$Depths", "leastY", "I", false)
  | _ => ("CloudDepth$Depths", "mostY", "I", false)
def t_2 : Nat → FieldType := fun k => match k with
  | 0 => (.array .int)
  | 1 => (.array .int)
  | 2 => (.array .int)
  | 3 => .int
  | 4 => .int
  | 5 => .int
  | 6 => .int
  | 7 => .int
  | 8 => .int
  | 9 => .int
  | 10 => .int
  | 11 => .int
  | _ => .int
def R_3 : String := "CloudDepth$Fits"
def F_3 : u_T := fun k => match k with
  | 0 => ("CloudDepth$Fits", "byX", "[I", true)
  | 1 => ("CloudDepth$Fits", "stamp", "I", false)
  | 2 => ("CloudDepth$Fits", "greatest", "I", false)
  | 3 => ("CloudDepth$Fits", "greatestCount", "I", false)
  | 4 => ("CloudDepth$Fits", "firstA", "I", false)
  | _ => ("CloudDepth$Fits", "firstB", "I", false)
def t_3 : Nat → FieldType := fun k => match k with
  | 0 => (.array .int)
  | 1 => .int
  | 2 => .int
  | 3 => .int
  | 4 => .int
  | _ => .int
def R_4 : String := "CloudDepth$Hulls"
def F_4 : u_T := fun k => match k with
  | 0 => ("CloudDepth$Hulls", "layers", "[I", true)
  | 1 => ("CloudDepth$Hulls", "corners", "[I", true)
  | 2 => ("CloudDepth$Hulls", "layerCount", "I", false)
  | _ => ("CloudDepth$Hulls", "cornerCount", "I", false)
def t_4 : Nat → FieldType := fun k => match k with
  | 0 => (.array .int)
  | 1 => (.array .int)
  | 2 => .int
  | _ => .int
def R_5 : String := "CloudDepth$Lines"
def F_5 : u_T := fun k => match k with
  | 0 => ("CloudDepth$Lines", "pairs", "[I", true)
  | _ => ("CloudDepth$Lines", "crossings", "I", false)
def t_5 : Nat → FieldType := fun k => match k with
  | 0 => (.array .int)
  | _ => .int
def R_6 : String := "CloudDepth$SetMarks"
def F_6 : u_T := fun k => match k with
  | _ => ("CloudDepth$SetMarks", "words", "[I", true)
def t_6 : Nat → FieldType := fun k => match k with
  | _ => (.array .int)
def R_7 : String := "CloudDepth$Shapes"
def F_7 : u_T := fun k => match k with
  | _ => ("CloudDepth$Shapes", "convex", "LCloudDepth$SetMarks;", true)
def t_7 : Nat → FieldType := fun k => match k with
  | _ => (.object "CloudDepth$SetMarks")
def R_8 : String := "CloudDepth$Shelf"
def F_8 : u_T := fun k => match k with
  | _ => ("CloudDepth$Shelf", "rows", "[[I", true)
def t_8 : Nat → FieldType := fun k => match k with
  | _ => (.array (.array .int))
def R_9 : String := "CloudDepth$Tape"
def F_9 : u_T := fun k => match k with
  | 0 => ("CloudDepth$Tape", "bytes", "[I", true)
  | 1 => ("CloudDepth$Tape", "length", "I", false)
  | 2 => ("CloudDepth$Tape", "start", "I", false)
  | 3 => ("CloudDepth$Tape", "kind", "I", false)
  | 4 => ("CloudDepth$Tape", "number", "I", false)
  | 5 => ("CloudDepth$Tape", "name", "J", false)
  | _ => ("CloudDepth$Tape", "next", "I", false)
def t_9 : Nat → FieldType := fun k => match k with
  | 0 => (.array .int)
  | 1 => .int
  | 2 => .int
  | 3 => .int
  | 4 => .int
  | 5 => .long
  | _ => .int
def R_10 : String := "CloudDepth$TextReader"
def F_10 : u_T := fun k => match k with
  | 0 => ("CloudDepth$TextReader", "told", "LCloudDepth$Cloud;", true)
  | 1 => ("CloudDepth$TextReader", "faultPlace", "I", false)
  | 2 => ("CloudDepth$TextReader", "tape", "LCloudDepth$Tape;", true)
  | 3 => ("CloudDepth$TextReader", "names", "[J", true)
  | 4 => ("CloudDepth$TextReader", "fault", "I", false)
  | 5 => ("CloudDepth$TextReader", "state", "I", false)
  | 6 => ("CloudDepth$TextReader", "tokenCount", "I", false)
  | 7 => ("CloudDepth$TextReader", "pointLines", "I", false)
  | 8 => ("CloudDepth$TextReader", "x", "I", false)
  | _ => ("CloudDepth$TextReader", "minus", "Z", false)
def t_10 : Nat → FieldType := fun k => match k with
  | 0 => (.object "CloudDepth$Cloud")
  | 1 => .int
  | 2 => (.object "CloudDepth$Tape")
  | 3 => (.array .long)
  | 4 => .int
  | 5 => .int
  | 6 => .int
  | 7 => .int
  | 8 => .int
  | _ => .boolean
def R_11 : String := "CloudDepth"
def F_11 : u_T := fun k => match k with
  | 0 => ("CloudDepth", "tape", "LCloudDepth$Tape;", true)
  | 1 => ("CloudDepth", "reader", "LCloudDepth$TextReader;", true)
  | 2 => ("CloudDepth", "cloud", "LCloudDepth$Cloud;", true)
  | 3 => ("CloudDepth", "trial", "LCloudDepth$Cloud;", true)
  | 4 => ("CloudDepth", "hulls", "LCloudDepth$Hulls;", true)
  | 5 => ("CloudDepth", "depths", "LCloudDepth$Depths;", true)
  | 6 => ("CloudDepth", "cuts", "LCloudDepth$Cuts;", true)
  | 7 => ("CloudDepth", "lines", "LCloudDepth$Lines;", true)
  | 8 => ("CloudDepth", "fits", "LCloudDepth$Fits;", true)
  | 9 => ("CloudDepth", "shapes", "LCloudDepth$Shapes;", true)
  | 10 => ("CloudDepth", "past", "LCloudDepth$Shelf;", true)
  | 11 => ("CloudDepth", "slots", "LCloudDepth$Shelf;", true)
  | 12 => ("CloudDepth", "slotHolds", "[Z", true)
  | 13 => ("CloudDepth", "undoable", "I", false)
  | _ => ("CloudDepth", "nextPast", "I", false)
def t_11 : Nat → FieldType := fun k => match k with
  | 0 => (.object "CloudDepth$Tape")
  | 1 => (.object "CloudDepth$TextReader")
  | 2 => (.object "CloudDepth$Cloud")
  | 3 => (.object "CloudDepth$Cloud")
  | 4 => (.object "CloudDepth$Hulls")
  | 5 => (.object "CloudDepth$Depths")
  | 6 => (.object "CloudDepth$Cuts")
  | 7 => (.object "CloudDepth$Lines")
  | 8 => (.object "CloudDepth$Fits")
  | 9 => (.object "CloudDepth$Shapes")
  | 10 => (.object "CloudDepth$Shelf")
  | 11 => (.object "CloudDepth$Shelf")
  | 12 => (.array .boolean)
  | 13 => .int
  | _ => .int
def R_12 : String := "CloudDepthModel"
def F_12 : u_T := fun k => match k with
  | 0 => ("CloudDepthModel", "thrown", "I", false)
  | 1 => ("CloudDepthModel", "tape", "[B", true)
  | 2 => ("CloudDepthModel", "taped", "I", false)
  | 3 => ("CloudDepthModel", "text", "[B", true)
  | 4 => ("CloudDepthModel", "size", "I", false)
  | 5 => ("CloudDepthModel", "tKind", "[I", true)
  | 6 => ("CloudDepthModel", "tPlace", "[I", true)
  | 7 => ("CloudDepthModel", "tValue", "[I", true)
  | 8 => ("CloudDepthModel", "tName", "[J", true)
  | 9 => ("CloudDepthModel", "keys", "[J", true)
  | 10 => ("CloudDepthModel", "tokens", "I", false)
  | 11 => ("CloudDepthModel", "t", "I", false)
  | 12 => ("CloudDepthModel", "fault", "I", false)
  | 13 => ("CloudDepthModel", "faultPlace", "I", false)
  | 14 => ("CloudDepthModel", "worst", "I", false)
  | 15 => ("CloudDepthModel", "worstPlace", "I", false)
  | 16 => ("CloudDepthModel", "place", "I", false)
  | 17 => ("CloudDepthModel", "now", "[I", true)
  | 18 => ("CloudDepthModel", "draft", "[I", true)
  | 19 => ("CloudDepthModel", "names", "[J", true)
  | 20 => ("CloudDepthModel", "isGood", "[Z", true)
  | 21 => ("CloudDepthModel", "newPoints", "I", false)
  | 22 => ("CloudDepthModel", "earlier", "[I", true)
  | 23 => ("CloudDepthModel", "earliest", "I", false)
  | 24 => ("CloudDepthModel", "undos", "I", false)
  | 25 => ("CloudDepthModel", "held", "[I", true)
  | 26 => ("CloudDepthModel", "isHeld", "[Z", true)
  | 27 => ("CloudDepthModel", "layers", "[I", true)
  | 28 => ("CloudDepthModel", "cornerAt", "[I", true)
  | 29 => ("CloudDepthModel", "oneOf", "[I", true)
  | 30 => ("CloudDepthModel", "otherOf", "[I", true)
  | 31 => ("CloudDepthModel", "meetings", "I", false)
  | 32 => ("CloudDepthModel", "deepX", "I", false)
  | 33 => ("CloudDepthModel", "deepY", "I", false)
  | 34 => ("CloudDepthModel", "deepMany", "I", false)
  | 35 => ("CloudDepthModel", "overs", "[I", true)
  | 36 => ("CloudDepthModel", "unders", "[I", true)
  | 37 => ("CloudDepthModel", "lowers", "[I", true)
  | 38 => ("CloudDepthModel", "uppers", "[I", true)
  | _ => ("CloudDepthModel", "restOf", "[I", true)
def t_12 : Nat → FieldType := fun k => match k with
  | 0 => .int
  | 1 => (.array .byte)
  | 2 => .int
  | 3 => (.array .byte)
  | 4 => .int
  | 5 => (.array .int)
  | 6 => (.array .int)
  | 7 => (.array .int)
  | 8 => (.array .long)
  | 9 => (.array .long)
  | 10 => .int
  | 11 => .int
  | 12 => .int
  | 13 => .int
  | 14 => .int
  | 15 => .int
  | 16 => .int
  | 17 => (.array .int)
  | 18 => (.array .int)
  | 19 => (.array .long)
  | 20 => (.array .boolean)
  | 21 => .int
  | 22 => (.array .int)
  | 23 => .int
  | 24 => .int
  | 25 => (.array .int)
  | 26 => (.array .boolean)
  | 27 => (.array .int)
  | 28 => (.array .int)
  | 29 => (.array .int)
  | 30 => (.array .int)
  | 31 => .int
  | 32 => .int
  | 33 => .int
  | 34 => .int
  | 35 => (.array .int)
  | 36 => (.array .int)
  | 37 => (.array .int)
  | 38 => (.array .int)
  | _ => (.array .int)
def classes : List vw_C := [(R_0, F_0, 5), (R_1, F_1, 2), (R_2, F_2, 13), (R_3, F_3, 6), (R_4, F_4, 4), (R_5, F_5, 2), (R_6, F_6, 1), (R_7, F_7, 1), (R_8, F_8, 1), (R_9, F_9, 7), (R_10, F_10, 10), (R_11, F_11, 15), (R_12, F_12, 40)]
def KF : List (List Nat) := [[2, 2, 0, 0, 0], [2, 0], [2, 2, 2, 0, 0, 0, 0, 0, 0, 0, 0, 0, 0], [2, 0, 0, 0, 0, 0], [2, 2, 0, 0], [2, 0], [2], [2], [2], [2, 0, 0, 0, 0, 1, 0], [2, 0, 2, 2, 0, 0, 0, 0, 0, 3], [2, 2, 2, 2, 2, 2, 2, 2, 2, 2, 2, 2, 2, 0, 0], [0, 2, 0, 2, 0, 2, 2, 2, 2, 2, 0, 0, 0, 0, 0, 0, 0, 2, 2, 2, 2, 0, 2, 0, 0, 2, 2, 2, 2, 2, 2, 0, 0, 0, 0, 2, 2, 2, 2, 2]]
def TF : List (Nat → FieldType) := [t_0, t_1, t_2, t_3, t_4, t_5, t_6, t_7, t_8, t_9, t_10, t_11, t_12]
theorem n_0 : ∀ a, a < 5 → ∀ b, b < 5 → a ≠ b → (F_0 a).2.1 ≠ (F_0 b).2.1 := by decide +kernel
theorem t_0_ok : ∀ k, k < 5 → parseFieldDescriptor (F_0 k).2.2.1 = some (t_0 k) := by decide +kernel
theorem k_0 : ∀ k, k < 5 → ((KF.getD 0 []).getD k 9 = 0 → t_0 k = .int ∧ (F_0 k).2.2.2 = false) ∧ ((KF.getD 0 []).getD k 9 = 1 → t_0 k = .long ∧ (F_0 k).2.2.2 = false) ∧ ((KF.getD 0 []).getD k 9 = 3 → t_0 k = .boolean ∧ (F_0 k).2.2.2 = false) := by decide +kernel
theorem i_0 : ∀ w ∈ u_ws R_0 F_0 5, w ∈ LT := by
  intro w hw
  obtain ⟨k, hk, rfl⟩ := List.mem_map.mp hw
  have hk := List.mem_range.mp hk
  match k, hk with
  | 0, _ => exact mG (List.mem_append_right _ (List.mem_append_left _ (List.mem_of_getElem? (l := tables_1_1) (i := 112) rfl))) rfl
  | 1, _ => exact mG (List.mem_append_right _ (List.mem_append_left _ (List.mem_of_getElem? (l := tables_1_1) (i := 114) rfl))) rfl
  | 2, _ => exact mG (List.mem_append_right _ (List.mem_append_left _ (List.mem_of_getElem? (l := tables_1_1) (i := 116) rfl))) rfl
  | 3, _ => exact mG (List.mem_append_right _ (List.mem_append_left _ (List.mem_of_getElem? (l := tables_1_1) (i := 118) rfl))) rfl
  | 4, _ => exact mG (List.mem_append_right _ (List.mem_append_left _ (List.mem_of_getElem? (l := tables_1_1) (i := 120) rfl))) rfl
  | k + 5, h => exact absurd h (by omega)
theorem n_1 : ∀ a, a < 2 → ∀ b, b < 2 → a ≠ b → (F_1 a).2.1 ≠ (F_1 b).2.1 := by decide +kernel
theorem t_1_ok : ∀ k, k < 2 → parseFieldDescriptor (F_1 k).2.2.1 = some (t_1 k) := by decide +kernel
theorem k_1 : ∀ k, k < 2 → ((KF.getD 1 []).getD k 9 = 0 → t_1 k = .int ∧ (F_1 k).2.2.2 = false) ∧ ((KF.getD 1 []).getD k 9 = 1 → t_1 k = .long ∧ (F_1 k).2.2.2 = false) ∧ ((KF.getD 1 []).getD k 9 = 3 → t_1 k = .boolean ∧ (F_1 k).2.2.2 = false) := by decide +kernel
theorem i_1 : ∀ w ∈ u_ws R_1 F_1 2, w ∈ LT := by
  intro w hw
  obtain ⟨k, hk, rfl⟩ := List.mem_map.mp hw
  have hk := List.mem_range.mp hk
  match k, hk with
  | 0, _ => exact mG (List.mem_append_right _ (List.mem_append_right _ (List.mem_append_left _ (List.mem_of_getElem? (l := tables_1_2) (i := 14) rfl)))) rfl
  | 1, _ => exact mG (List.mem_append_right _ (List.mem_append_right _ (List.mem_append_left _ (List.mem_of_getElem? (l := tables_1_2) (i := 16) rfl)))) rfl
  | k + 2, h => exact absurd h (by omega)
theorem n_2 : ∀ a, a < 13 → ∀ b, b < 13 → a ≠ b → (F_2 a).2.1 ≠ (F_2 b).2.1 := by decide +kernel
theorem t_2_ok : ∀ k, k < 13 → parseFieldDescriptor (F_2 k).2.2.1 = some (t_2 k) := by decide +kernel
theorem k_2 : ∀ k, k < 13 → ((KF.getD 2 []).getD k 9 = 0 → t_2 k = .int ∧ (F_2 k).2.2.2 = false) ∧ ((KF.getD 2 []).getD k 9 = 1 → t_2 k = .long ∧ (F_2 k).2.2.2 = false) ∧ ((KF.getD 2 []).getD k 9 = 3 → t_2 k = .boolean ∧ (F_2 k).2.2.2 = false) := by decide +kernel
theorem i_2 : ∀ w ∈ u_ws R_2 F_2 13, w ∈ LT := by
  intro w hw
  obtain ⟨k, hk, rfl⟩ := List.mem_map.mp hw
  have hk := List.mem_range.mp hk
  match k, hk with
  | 0, _ => exact mG (List.mem_append_right _ (List.mem_append_left _ (List.mem_of_getElem? (l := tables_1_1) (i := 208) rfl))) rfl
  | 1, _ => exact mG (List.mem_append_right _ (List.mem_append_left _ (List.mem_of_getElem? (l := tables_1_1) (i := 210) rfl))) rfl
  | 2, _ => exact mG (List.mem_append_right _ (List.mem_append_left _ (List.mem_of_getElem? (l := tables_1_1) (i := 212) rfl))) rfl
  | 3, _ => exact mG (List.mem_append_right _ (List.mem_append_left _ (List.mem_of_getElem? (l := tables_1_1) (i := 214) rfl))) rfl
  | 4, _ => exact mG (List.mem_append_right _ (List.mem_append_left _ (List.mem_of_getElem? (l := tables_1_1) (i := 216) rfl))) rfl
  | 5, _ => exact mG (List.mem_append_right _ (List.mem_append_left _ (List.mem_of_getElem? (l := tables_1_1) (i := 218) rfl))) rfl
  | 6, _ => exact mG (List.mem_append_right _ (List.mem_append_left _ (List.mem_of_getElem? (l := tables_1_1) (i := 220) rfl))) rfl
  | 7, _ => exact mG (List.mem_append_right _ (List.mem_append_left _ (List.mem_of_getElem? (l := tables_1_1) (i := 222) rfl))) rfl
  | 8, _ => exact mG (List.mem_append_right _ (List.mem_append_left _ (List.mem_of_getElem? (l := tables_1_1) (i := 224) rfl))) rfl
  | 9, _ => exact mG (List.mem_append_right _ (List.mem_append_left _ (List.mem_of_getElem? (l := tables_1_1) (i := 226) rfl))) rfl
  | 10, _ => exact mG (List.mem_append_right _ (List.mem_append_left _ (List.mem_of_getElem? (l := tables_1_1) (i := 228) rfl))) rfl
  | 11, _ => exact mG (List.mem_append_right _ (List.mem_append_left _ (List.mem_of_getElem? (l := tables_1_1) (i := 230) rfl))) rfl
  | 12, _ => exact mG (List.mem_append_right _ (List.mem_append_left _ (List.mem_of_getElem? (l := tables_1_1) (i := 232) rfl))) rfl
  | k + 13, h => exact absurd h (by omega)
theorem n_3 : ∀ a, a < 6 → ∀ b, b < 6 → a ≠ b → (F_3 a).2.1 ≠ (F_3 b).2.1 := by decide +kernel
theorem t_3_ok : ∀ k, k < 6 → parseFieldDescriptor (F_3 k).2.2.1 = some (t_3 k) := by decide +kernel
theorem k_3 : ∀ k, k < 6 → ((KF.getD 3 []).getD k 9 = 0 → t_3 k = .int ∧ (F_3 k).2.2.2 = false) ∧ ((KF.getD 3 []).getD k 9 = 1 → t_3 k = .long ∧ (F_3 k).2.2.2 = false) ∧ ((KF.getD 3 []).getD k 9 = 3 → t_3 k = .boolean ∧ (F_3 k).2.2.2 = false) := by decide +kernel
theorem i_3 : ∀ w ∈ u_ws R_3 F_3 6, w ∈ LT := by
  intro w hw
  obtain ⟨k, hk, rfl⟩ := List.mem_map.mp hw
  have hk := List.mem_range.mp hk
  match k, hk with
  | 0, _ => exact mG (List.mem_append_right _ (List.mem_append_right _ (List.mem_append_left _ (List.mem_of_getElem? (l := tables_1_2) (i := 49) rfl)))) rfl
  | 1, _ => exact mG (List.mem_append_right _ (List.mem_append_right _ (List.mem_append_left _ (List.mem_of_getElem? (l := tables_1_2) (i := 51) rfl)))) rfl
  | 2, _ => exact mG (List.mem_append_right _ (List.mem_append_right _ (List.mem_append_left _ (List.mem_of_getElem? (l := tables_1_2) (i := 53) rfl)))) rfl
  | 3, _ => exact mG (List.mem_append_right _ (List.mem_append_right _ (List.mem_append_left _ (List.mem_of_getElem? (l := tables_1_2) (i := 55) rfl)))) rfl
  | 4, _ => exact mG (List.mem_append_right _ (List.mem_append_right _ (List.mem_append_left _ (List.mem_of_getElem? (l := tables_1_2) (i := 57) rfl)))) rfl
  | 5, _ => exact mG (List.mem_append_right _ (List.mem_append_right _ (List.mem_append_left _ (List.mem_of_getElem? (l := tables_1_2) (i := 59) rfl)))) rfl
  | k + 6, h => exact absurd h (by omega)
theorem n_4 : ∀ a, a < 4 → ∀ b, b < 4 → a ≠ b → (F_4 a).2.1 ≠ (F_4 b).2.1 := by decide +kernel
theorem t_4_ok : ∀ k, k < 4 → parseFieldDescriptor (F_4 k).2.2.1 = some (t_4 k) := by decide +kernel
theorem k_4 : ∀ k, k < 4 → ((KF.getD 4 []).getD k 9 = 0 → t_4 k = .int ∧ (F_4 k).2.2.2 = false) ∧ ((KF.getD 4 []).getD k 9 = 1 → t_4 k = .long ∧ (F_4 k).2.2.2 = false) ∧ ((KF.getD 4 []).getD k 9 = 3 → t_4 k = .boolean ∧ (F_4 k).2.2.2 = false) := by decide +kernel
theorem i_4 : ∀ w ∈ u_ws R_4 F_4 4, w ∈ LT := by
  intro w hw
  obtain ⟨k, hk, rfl⟩ := List.mem_map.mp hw
  have hk := List.mem_range.mp hk
  match k, hk with
  | 0, _ => exact mG (List.mem_append_right _ (List.mem_append_left _ (List.mem_of_getElem? (l := tables_1_1) (i := 171) rfl))) rfl
  | 1, _ => exact mG (List.mem_append_right _ (List.mem_append_left _ (List.mem_of_getElem? (l := tables_1_1) (i := 173) rfl))) rfl
  | 2, _ => exact mG (List.mem_append_right _ (List.mem_append_left _ (List.mem_of_getElem? (l := tables_1_1) (i := 175) rfl))) rfl
  | 3, _ => exact mG (List.mem_append_right _ (List.mem_append_left _ (List.mem_of_getElem? (l := tables_1_1) (i := 177) rfl))) rfl
  | k + 4, h => exact absurd h (by omega)
theorem n_5 : ∀ a, a < 2 → ∀ b, b < 2 → a ≠ b → (F_5 a).2.1 ≠ (F_5 b).2.1 := by decide +kernel
theorem t_5_ok : ∀ k, k < 2 → parseFieldDescriptor (F_5 k).2.2.1 = some (t_5 k) := by decide +kernel
theorem k_5 : ∀ k, k < 2 → ((KF.getD 5 []).getD k 9 = 0 → t_5 k = .int ∧ (F_5 k).2.2.2 = false) ∧ ((KF.getD 5 []).getD k 9 = 1 → t_5 k = .long ∧ (F_5 k).2.2.2 = false) ∧ ((KF.getD 5 []).getD k 9 = 3 → t_5 k = .boolean ∧ (F_5 k).2.2.2 = false) := by decide +kernel
theorem i_5 : ∀ w ∈ u_ws R_5 F_5 2, w ∈ LT := by
  intro w hw
  obtain ⟨k, hk, rfl⟩ := List.mem_map.mp hw
  have hk := List.mem_range.mp hk
  match k, hk with
  | 0, _ => exact mG (List.mem_append_right _ (List.mem_append_right _ (List.mem_append_left _ (List.mem_of_getElem? (l := tables_1_2) (i := 28) rfl)))) rfl
  | 1, _ => exact mG (List.mem_append_right _ (List.mem_append_right _ (List.mem_append_left _ (List.mem_of_getElem? (l := tables_1_2) (i := 30) rfl)))) rfl
  | k + 2, h => exact absurd h (by omega)
theorem n_6 : ∀ a, a < 1 → ∀ b, b < 1 → a ≠ b → (F_6 a).2.1 ≠ (F_6 b).2.1 := by decide +kernel
theorem t_6_ok : ∀ k, k < 1 → parseFieldDescriptor (F_6 k).2.2.1 = some (t_6 k) := by decide +kernel
theorem k_6 : ∀ k, k < 1 → ((KF.getD 6 []).getD k 9 = 0 → t_6 k = .int ∧ (F_6 k).2.2.2 = false) ∧ ((KF.getD 6 []).getD k 9 = 1 → t_6 k = .long ∧ (F_6 k).2.2.2 = false) ∧ ((KF.getD 6 []).getD k 9 = 3 → t_6 k = .boolean ∧ (F_6 k).2.2.2 = false) := by decide +kernel
theorem i_6 : ∀ w ∈ u_ws R_6 F_6 1, w ∈ LT := by
  intro w hw
  obtain ⟨k, hk, rfl⟩ := List.mem_map.mp hw
  have hk := List.mem_range.mp hk
  match k, hk with
  | 0, _ => exact mG (List.mem_append_right _ (List.mem_append_right _ (List.mem_append_left _ (List.mem_of_getElem? (l := tables_1_2) (i := 8) rfl)))) rfl
  | k + 1, h => exact absurd h (by omega)
theorem n_7 : ∀ a, a < 1 → ∀ b, b < 1 → a ≠ b → (F_7 a).2.1 ≠ (F_7 b).2.1 := by decide +kernel
theorem t_7_ok : ∀ k, k < 1 → parseFieldDescriptor (F_7 k).2.2.1 = some (t_7 k) := by decide +kernel
theorem k_7 : ∀ k, k < 1 → ((KF.getD 7 []).getD k 9 = 0 → t_7 k = .int ∧ (F_7 k).2.2.2 = false) ∧ ((KF.getD 7 []).getD k 9 = 1 → t_7 k = .long ∧ (F_7 k).2.2.2 = false) ∧ ((KF.getD 7 []).getD k 9 = 3 → t_7 k = .boolean ∧ (F_7 k).2.2.2 = false) := by decide +kernel
theorem i_7 : ∀ w ∈ u_ws R_7 F_7 1, w ∈ LT := by
  intro w hw
  obtain ⟨k, hk, rfl⟩ := List.mem_map.mp hw
  have hk := List.mem_range.mp hk
  match k, hk with
  | 0, _ => exact mG (List.mem_append_right _ (List.mem_append_right _ (List.mem_append_left _ (List.mem_of_getElem? (l := tables_1_2) (i := 71) rfl)))) rfl
  | k + 1, h => exact absurd h (by omega)
theorem n_8 : ∀ a, a < 1 → ∀ b, b < 1 → a ≠ b → (F_8 a).2.1 ≠ (F_8 b).2.1 := by decide +kernel
theorem t_8_ok : ∀ k, k < 1 → parseFieldDescriptor (F_8 k).2.2.1 = some (t_8 k) := by decide +kernel
theorem k_8 : ∀ k, k < 1 → ((KF.getD 8 []).getD k 9 = 0 → t_8 k = .int ∧ (F_8 k).2.2.2 = false) ∧ ((KF.getD 8 []).getD k 9 = 1 → t_8 k = .long ∧ (F_8 k).2.2.2 = false) ∧ ((KF.getD 8 []).getD k 9 = 3 → t_8 k = .boolean ∧ (F_8 k).2.2.2 = false) := by decide +kernel
theorem i_8 : ∀ w ∈ u_ws R_8 F_8 1, w ∈ LT := by
  intro w hw
  obtain ⟨k, hk, rfl⟩ := List.mem_map.mp hw
  have hk := List.mem_range.mp hk
  match k, hk with
  | 0, _ => exact mG (List.mem_append_right _ (List.mem_append_right _ (List.mem_append_left _ (List.mem_of_getElem? (l := tables_1_2) (i := 86) rfl)))) rfl
  | k + 1, h => exact absurd h (by omega)
theorem n_9 : ∀ a, a < 7 → ∀ b, b < 7 → a ≠ b → (F_9 a).2.1 ≠ (F_9 b).2.1 := by decide +kernel
theorem t_9_ok : ∀ k, k < 7 → parseFieldDescriptor (F_9 k).2.2.1 = some (t_9 k) := by decide +kernel
theorem k_9 : ∀ k, k < 7 → ((KF.getD 9 []).getD k 9 = 0 → t_9 k = .int ∧ (F_9 k).2.2.2 = false) ∧ ((KF.getD 9 []).getD k 9 = 1 → t_9 k = .long ∧ (F_9 k).2.2.2 = false) ∧ ((KF.getD 9 []).getD k 9 = 3 → t_9 k = .boolean ∧ (F_9 k).2.2.2 = false) := by decide +kernel
theorem i_9 : ∀ w ∈ u_ws R_9 F_9 7, w ∈ LT := by
  intro w hw
  obtain ⟨k, hk, rfl⟩ := List.mem_map.mp hw
  have hk := List.mem_range.mp hk
  match k, hk with
  | 0, _ => exact mG (List.mem_append_right _ (List.mem_append_left _ (List.mem_of_getElem? (l := tables_1_1) (i := 48) rfl))) rfl
  | 1, _ => exact mG (List.mem_append_right _ (List.mem_append_left _ (List.mem_of_getElem? (l := tables_1_1) (i := 50) rfl))) rfl
  | 2, _ => exact mG (List.mem_append_right _ (List.mem_append_left _ (List.mem_of_getElem? (l := tables_1_1) (i := 52) rfl))) rfl
  | 3, _ => exact mG (List.mem_append_right _ (List.mem_append_left _ (List.mem_of_getElem? (l := tables_1_1) (i := 54) rfl))) rfl
  | 4, _ => exact mG (List.mem_append_right _ (List.mem_append_left _ (List.mem_of_getElem? (l := tables_1_1) (i := 56) rfl))) rfl
  | 5, _ => exact mG (List.mem_append_right _ (List.mem_append_left _ (List.mem_of_getElem? (l := tables_1_1) (i := 58) rfl))) rfl
  | 6, _ => exact mG (List.mem_append_right _ (List.mem_append_left _ (List.mem_of_getElem? (l := tables_1_1) (i := 60) rfl))) rfl
  | k + 7, h => exact absurd h (by omega)
theorem n_10 : ∀ a, a < 10 → ∀ b, b < 10 → a ≠ b → (F_10 a).2.1 ≠ (F_10 b).2.1 := by decide +kernel
theorem t_10_ok : ∀ k, k < 10 → parseFieldDescriptor (F_10 k).2.2.1 = some (t_10 k) := by decide +kernel
theorem k_10 : ∀ k, k < 10 → ((KF.getD 10 []).getD k 9 = 0 → t_10 k = .int ∧ (F_10 k).2.2.2 = false) ∧ ((KF.getD 10 []).getD k 9 = 1 → t_10 k = .long ∧ (F_10 k).2.2.2 = false) ∧ ((KF.getD 10 []).getD k 9 = 3 → t_10 k = .boolean ∧ (F_10 k).2.2.2 = false) := by decide +kernel
theorem i_10 : ∀ w ∈ u_ws R_10 F_10 10, w ∈ LT := by
  intro w hw
  obtain ⟨k, hk, rfl⟩ := List.mem_map.mp hw
  have hk := List.mem_range.mp hk
  match k, hk with
  | 0, _ => exact mG (List.mem_append_right _ (List.mem_append_left _ (List.mem_of_getElem? (l := tables_1_1) (i := 135) rfl))) rfl
  | 1, _ => exact mG (List.mem_append_right _ (List.mem_append_left _ (List.mem_of_getElem? (l := tables_1_1) (i := 137) rfl))) rfl
  | 2, _ => exact mG (List.mem_append_right _ (List.mem_append_left _ (List.mem_of_getElem? (l := tables_1_1) (i := 139) rfl))) rfl
  | 3, _ => exact mG (List.mem_append_right _ (List.mem_append_left _ (List.mem_of_getElem? (l := tables_1_1) (i := 141) rfl))) rfl
  | 4, _ => exact mG (List.mem_append_right _ (List.mem_append_left _ (List.mem_of_getElem? (l := tables_1_1) (i := 143) rfl))) rfl
  | 5, _ => exact mG (List.mem_append_right _ (List.mem_append_left _ (List.mem_of_getElem? (l := tables_1_1) (i := 145) rfl))) rfl
  | 6, _ => exact mG (List.mem_append_right _ (List.mem_append_left _ (List.mem_of_getElem? (l := tables_1_1) (i := 147) rfl))) rfl
  | 7, _ => exact mG (List.mem_append_right _ (List.mem_append_left _ (List.mem_of_getElem? (l := tables_1_1) (i := 149) rfl))) rfl
  | 8, _ => exact mG (List.mem_append_right _ (List.mem_append_left _ (List.mem_of_getElem? (l := tables_1_1) (i := 151) rfl))) rfl
  | 9, _ => exact mG (List.mem_append_right _ (List.mem_append_left _ (List.mem_of_getElem? (l := tables_1_1) (i := 153) rfl))) rfl
  | k + 10, h => exact absurd h (by omega)
theorem n_11 : ∀ a, a < 15 → ∀ b, b < 15 → a ≠ b → (F_11 a).2.1 ≠ (F_11 b).2.1 := by decide +kernel
theorem t_11_ok : ∀ k, k < 15 → parseFieldDescriptor (F_11 k).2.2.1 = some (t_11 k) := by decide +kernel
theorem k_11 : ∀ k, k < 15 → ((KF.getD 11 []).getD k 9 = 0 → t_11 k = .int ∧ (F_11 k).2.2.2 = false) ∧ ((KF.getD 11 []).getD k 9 = 1 → t_11 k = .long ∧ (F_11 k).2.2.2 = false) ∧ ((KF.getD 11 []).getD k 9 = 3 → t_11 k = .boolean ∧ (F_11 k).2.2.2 = false) := by decide +kernel
theorem i_11 : ∀ w ∈ u_ws R_11 F_11 15, w ∈ LT := by
  intro w hw
  obtain ⟨k, hk, rfl⟩ := List.mem_map.mp hw
  have hk := List.mem_range.mp hk
  match k, hk with
  | 0, _ => exact mG (List.mem_append_right _ (List.mem_append_right _ (List.mem_append_left _ (List.mem_of_getElem? (l := tables_1_2) (i := 104) rfl)))) rfl
  | 1, _ => exact mG (List.mem_append_right _ (List.mem_append_right _ (List.mem_append_left _ (List.mem_of_getElem? (l := tables_1_2) (i := 106) rfl)))) rfl
  | 2, _ => exact mG (List.mem_append_right _ (List.mem_append_right _ (List.mem_append_left _ (List.mem_of_getElem? (l := tables_1_2) (i := 108) rfl)))) rfl
  | 3, _ => exact mG (List.mem_append_right _ (List.mem_append_right _ (List.mem_append_left _ (List.mem_of_getElem? (l := tables_1_2) (i := 110) rfl)))) rfl
  | 4, _ => exact mG (List.mem_append_right _ (List.mem_append_right _ (List.mem_append_left _ (List.mem_of_getElem? (l := tables_1_2) (i := 112) rfl)))) rfl
  | 5, _ => exact mG (List.mem_append_right _ (List.mem_append_right _ (List.mem_append_left _ (List.mem_of_getElem? (l := tables_1_2) (i := 114) rfl)))) rfl
  | 6, _ => exact mG (List.mem_append_right _ (List.mem_append_right _ (List.mem_append_left _ (List.mem_of_getElem? (l := tables_1_2) (i := 116) rfl)))) rfl
  | 7, _ => exact mG (List.mem_append_right _ (List.mem_append_right _ (List.mem_append_left _ (List.mem_of_getElem? (l := tables_1_2) (i := 118) rfl)))) rfl
  | 8, _ => exact mG (List.mem_append_right _ (List.mem_append_right _ (List.mem_append_left _ (List.mem_of_getElem? (l := tables_1_2) (i := 120) rfl)))) rfl
  | 9, _ => exact mG (List.mem_append_right _ (List.mem_append_right _ (List.mem_append_left _ (List.mem_of_getElem? (l := tables_1_2) (i := 122) rfl)))) rfl
  | 10, _ => exact mG (List.mem_append_right _ (List.mem_append_right _ (List.mem_append_left _ (List.mem_of_getElem? (l := tables_1_2) (i := 124) rfl)))) rfl
  | 11, _ => exact mG (List.mem_append_right _ (List.mem_append_right _ (List.mem_append_left _ (List.mem_of_getElem? (l := tables_1_2) (i := 126) rfl)))) rfl
  | 12, _ => exact mG (List.mem_append_right _ (List.mem_append_right _ (List.mem_append_left _ (List.mem_of_getElem? (l := tables_1_2) (i := 128) rfl)))) rfl
  | 13, _ => exact mG (List.mem_append_right _ (List.mem_append_right _ (List.mem_append_left _ (List.mem_of_getElem? (l := tables_1_2) (i := 130) rfl)))) rfl
  | 14, _ => exact mG (List.mem_append_right _ (List.mem_append_right _ (List.mem_append_left _ (List.mem_of_getElem? (l := tables_1_2) (i := 132) rfl)))) rfl
  | k + 15, h => exact absurd h (by omega)
theorem n_12 : ∀ a, a < 40 → ∀ b, b < 40 → a ≠ b → (F_12 a).2.1 ≠ (F_12 b).2.1 := by decide +kernel
theorem t_12_ok : ∀ k, k < 40 → parseFieldDescriptor (F_12 k).2.2.1 = some (t_12 k) := by decide +kernel
theorem k_12 : ∀ k, k < 40 → ((KF.getD 12 []).getD k 9 = 0 → t_12 k = .int ∧ (F_12 k).2.2.2 = false) ∧ ((KF.getD 12 []).getD k 9 = 1 → t_12 k = .long ∧ (F_12 k).2.2.2 = false) ∧ ((KF.getD 12 []).getD k 9 = 3 → t_12 k = .boolean ∧ (F_12 k).2.2.2 = false) := by decide +kernel
theorem i_12 : ∀ w ∈ u_ws R_12 F_12 40, w ∈ LT := by
  intro w hw
  obtain ⟨k, hk, rfl⟩ := List.mem_map.mp hw
  have hk := List.mem_range.mp hk
  match k, hk with
  | 0, _ => exact mG (List.mem_append_right _ (List.mem_append_right _ (List.mem_append_right _ (List.mem_append_right _ (List.mem_append_right _ (List.mem_append_left _ (List.mem_of_getElem? (l := tables_1_5) (i := 150) rfl))))))) rfl
  | 1, _ => exact mG (List.mem_append_right _ (List.mem_append_right _ (List.mem_append_right _ (List.mem_append_right _ (List.mem_append_right _ (List.mem_append_left _ (List.mem_of_getElem? (l := tables_1_5) (i := 152) rfl))))))) rfl
  | 2, _ => exact mG (List.mem_append_right _ (List.mem_append_right _ (List.mem_append_right _ (List.mem_append_right _ (List.mem_append_right _ (List.mem_append_left _ (List.mem_of_getElem? (l := tables_1_5) (i := 154) rfl))))))) rfl
  | 3, _ => exact mG (List.mem_append_right _ (List.mem_append_right _ (List.mem_append_right _ (List.mem_append_right _ (List.mem_append_right _ (List.mem_append_left _ (List.mem_of_getElem? (l := tables_1_5) (i := 156) rfl))))))) rfl
  | 4, _ => exact mG (List.mem_append_right _ (List.mem_append_right _ (List.mem_append_right _ (List.mem_append_right _ (List.mem_append_right _ (List.mem_append_left _ (List.mem_of_getElem? (l := tables_1_5) (i := 158) rfl))))))) rfl
  | 5, _ => exact mG (List.mem_append_right _ (List.mem_append_right _ (List.mem_append_right _ (List.mem_append_right _ (List.mem_append_right _ (List.mem_append_left _ (List.mem_of_getElem? (l := tables_1_5) (i := 160) rfl))))))) rfl
  | 6, _ => exact mG (List.mem_append_right _ (List.mem_append_right _ (List.mem_append_right _ (List.mem_append_right _ (List.mem_append_right _ (List.mem_append_left _ (List.mem_of_getElem? (l := tables_1_5) (i := 162) rfl))))))) rfl
  | 7, _ => exact mG (List.mem_append_right _ (List.mem_append_right _ (List.mem_append_right _ (List.mem_append_right _ (List.mem_append_right _ (List.mem_append_left _ (List.mem_of_getElem? (l := tables_1_5) (i := 164) rfl))))))) rfl
  | 8, _ => exact mG (List.mem_append_right _ (List.mem_append_right _ (List.mem_append_right _ (List.mem_append_right _ (List.mem_append_right _ (List.mem_append_left _ (List.mem_of_getElem? (l := tables_1_5) (i := 166) rfl))))))) rfl
  | 9, _ => exact mG (List.mem_append_right _ (List.mem_append_right _ (List.mem_append_right _ (List.mem_append_right _ (List.mem_append_right _ (List.mem_append_left _ (List.mem_of_getElem? (l := tables_1_5) (i := 168) rfl))))))) rfl
  | 10, _ => exact mG (List.mem_append_right _ (List.mem_append_right _ (List.mem_append_right _ (List.mem_append_right _ (List.mem_append_right _ (List.mem_append_left _ (List.mem_of_getElem? (l := tables_1_5) (i := 170) rfl))))))) rfl
  | 11, _ => exact mG (List.mem_append_right _ (List.mem_append_right _ (List.mem_append_right _ (List.mem_append_right _ (List.mem_append_right _ (List.mem_append_left _ (List.mem_of_getElem? (l := tables_1_5) (i := 172) rfl))))))) rfl
  | 12, _ => exact mG (List.mem_append_right _ (List.mem_append_right _ (List.mem_append_right _ (List.mem_append_right _ (List.mem_append_right _ (List.mem_append_left _ (List.mem_of_getElem? (l := tables_1_5) (i := 174) rfl))))))) rfl
  | 13, _ => exact mG (List.mem_append_right _ (List.mem_append_right _ (List.mem_append_right _ (List.mem_append_right _ (List.mem_append_right _ (List.mem_append_left _ (List.mem_of_getElem? (l := tables_1_5) (i := 176) rfl))))))) rfl
  | 14, _ => exact mG (List.mem_append_right _ (List.mem_append_right _ (List.mem_append_right _ (List.mem_append_right _ (List.mem_append_right _ (List.mem_append_left _ (List.mem_of_getElem? (l := tables_1_5) (i := 178) rfl))))))) rfl
  | 15, _ => exact mG (List.mem_append_right _ (List.mem_append_right _ (List.mem_append_right _ (List.mem_append_right _ (List.mem_append_right _ (List.mem_append_left _ (List.mem_of_getElem? (l := tables_1_5) (i := 180) rfl))))))) rfl
  | 16, _ => exact mG (List.mem_append_right _ (List.mem_append_right _ (List.mem_append_right _ (List.mem_append_right _ (List.mem_append_right _ (List.mem_append_left _ (List.mem_of_getElem? (l := tables_1_5) (i := 182) rfl))))))) rfl
  | 17, _ => exact mG (List.mem_append_right _ (List.mem_append_right _ (List.mem_append_right _ (List.mem_append_right _ (List.mem_append_right _ (List.mem_append_left _ (List.mem_of_getElem? (l := tables_1_5) (i := 184) rfl))))))) rfl
  | 18, _ => exact mG (List.mem_append_right _ (List.mem_append_right _ (List.mem_append_right _ (List.mem_append_right _ (List.mem_append_right _ (List.mem_append_left _ (List.mem_of_getElem? (l := tables_1_5) (i := 186) rfl))))))) rfl
  | 19, _ => exact mG (List.mem_append_right _ (List.mem_append_right _ (List.mem_append_right _ (List.mem_append_right _ (List.mem_append_right _ (List.mem_append_left _ (List.mem_of_getElem? (l := tables_1_5) (i := 188) rfl))))))) rfl
  | 20, _ => exact mG (List.mem_append_right _ (List.mem_append_right _ (List.mem_append_right _ (List.mem_append_right _ (List.mem_append_right _ (List.mem_append_left _ (List.mem_of_getElem? (l := tables_1_5) (i := 190) rfl))))))) rfl
  | 21, _ => exact mG (List.mem_append_right _ (List.mem_append_right _ (List.mem_append_right _ (List.mem_append_right _ (List.mem_append_right _ (List.mem_append_left _ (List.mem_of_getElem? (l := tables_1_5) (i := 192) rfl))))))) rfl
  | 22, _ => exact mG (List.mem_append_right _ (List.mem_append_right _ (List.mem_append_right _ (List.mem_append_right _ (List.mem_append_right _ (List.mem_append_left _ (List.mem_of_getElem? (l := tables_1_5) (i := 194) rfl))))))) rfl
  | 23, _ => exact mG (List.mem_append_right _ (List.mem_append_right _ (List.mem_append_right _ (List.mem_append_right _ (List.mem_append_right _ (List.mem_append_left _ (List.mem_of_getElem? (l := tables_1_5) (i := 196) rfl))))))) rfl
  | 24, _ => exact mG (List.mem_append_right _ (List.mem_append_right _ (List.mem_append_right _ (List.mem_append_right _ (List.mem_append_right _ (List.mem_append_left _ (List.mem_of_getElem? (l := tables_1_5) (i := 198) rfl))))))) rfl
  | 25, _ => exact mG (List.mem_append_right _ (List.mem_append_right _ (List.mem_append_right _ (List.mem_append_right _ (List.mem_append_right _ (List.mem_append_left _ (List.mem_of_getElem? (l := tables_1_5) (i := 200) rfl))))))) rfl
  | 26, _ => exact mG (List.mem_append_right _ (List.mem_append_right _ (List.mem_append_right _ (List.mem_append_right _ (List.mem_append_right _ (List.mem_append_left _ (List.mem_of_getElem? (l := tables_1_5) (i := 202) rfl))))))) rfl
  | 27, _ => exact mG (List.mem_append_right _ (List.mem_append_right _ (List.mem_append_right _ (List.mem_append_right _ (List.mem_append_right _ (List.mem_append_left _ (List.mem_of_getElem? (l := tables_1_5) (i := 204) rfl))))))) rfl
  | 28, _ => exact mG (List.mem_append_right _ (List.mem_append_right _ (List.mem_append_right _ (List.mem_append_right _ (List.mem_append_right _ (List.mem_append_left _ (List.mem_of_getElem? (l := tables_1_5) (i := 206) rfl))))))) rfl
  | 29, _ => exact mG (List.mem_append_right _ (List.mem_append_right _ (List.mem_append_right _ (List.mem_append_right _ (List.mem_append_right _ (List.mem_append_left _ (List.mem_of_getElem? (l := tables_1_5) (i := 208) rfl))))))) rfl
  | 30, _ => exact mG (List.mem_append_right _ (List.mem_append_right _ (List.mem_append_right _ (List.mem_append_right _ (List.mem_append_right _ (List.mem_append_left _ (List.mem_of_getElem? (l := tables_1_5) (i := 210) rfl))))))) rfl
  | 31, _ => exact mG (List.mem_append_right _ (List.mem_append_right _ (List.mem_append_right _ (List.mem_append_right _ (List.mem_append_right _ (List.mem_append_left _ (List.mem_of_getElem? (l := tables_1_5) (i := 212) rfl))))))) rfl
  | 32, _ => exact mG (List.mem_append_right _ (List.mem_append_right _ (List.mem_append_right _ (List.mem_append_right _ (List.mem_append_right _ (List.mem_append_left _ (List.mem_of_getElem? (l := tables_1_5) (i := 214) rfl))))))) rfl
  | 33, _ => exact mG (List.mem_append_right _ (List.mem_append_right _ (List.mem_append_right _ (List.mem_append_right _ (List.mem_append_right _ (List.mem_append_left _ (List.mem_of_getElem? (l := tables_1_5) (i := 216) rfl))))))) rfl
  | 34, _ => exact mG (List.mem_append_right _ (List.mem_append_right _ (List.mem_append_right _ (List.mem_append_right _ (List.mem_append_right _ (List.mem_append_left _ (List.mem_of_getElem? (l := tables_1_5) (i := 218) rfl))))))) rfl
  | 35, _ => exact mG (List.mem_append_right _ (List.mem_append_right _ (List.mem_append_right _ (List.mem_append_right _ (List.mem_append_right _ (List.mem_append_left _ (List.mem_of_getElem? (l := tables_1_5) (i := 220) rfl))))))) rfl
  | 36, _ => exact mG (List.mem_append_right _ (List.mem_append_right _ (List.mem_append_right _ (List.mem_append_right _ (List.mem_append_right _ (List.mem_append_left _ (List.mem_of_getElem? (l := tables_1_5) (i := 222) rfl))))))) rfl
  | 37, _ => exact mG (List.mem_append_right _ (List.mem_append_right _ (List.mem_append_right _ (List.mem_append_right _ (List.mem_append_right _ (List.mem_append_left _ (List.mem_of_getElem? (l := tables_1_5) (i := 224) rfl))))))) rfl
  | 38, _ => exact mG (List.mem_append_right _ (List.mem_append_right _ (List.mem_append_right _ (List.mem_append_right _ (List.mem_append_right _ (List.mem_append_left _ (List.mem_of_getElem? (l := tables_1_5) (i := 226) rfl))))))) rfl
  | 39, _ => exact mG (List.mem_append_right _ (List.mem_append_right _ (List.mem_append_right _ (List.mem_append_right _ (List.mem_append_right _ (List.mem_append_left _ (List.mem_of_getElem? (l := tables_1_5) (i := 228) rfl))))))) rfl
  | k + 40, h => exact absurd h (by omega)
end
section
/-! the pure machine: heaps as functions of (object, slot), frames as lists; what it says holds of the machine -/
abbrev pH : Type := (Nat → Nat → Int32) × (Nat → Nat → Int64)
def hI (h : pH) (o k : Nat) : Int32 := h.1 o k
def hL (h : pH) (o k : Nat) : Int64 := h.2 o k
def sI (h : pH) (o k : Nat) (v : Int32) : pH := (fun a => if a = o then upd (h.1 o) k v else h.1 a, h.2)
def sL (h : pH) (o k : Nat) (v : Int64) : pH := (h.1, fun a => if a = o then vp_updL (h.2 o) k v else h.2 a)
abbrev pE : Type := Launch × (Nat → Nat) × va_G × (Nat → ClassId)
abbrev eL (E : pE) : Launch := E.1
abbrev eA (E : pE) : Nat → Nat := E.2.1
abbrev eD (E : pE) : va_G := E.2.2.1
abbrev eC (E : pE) : Nat → ClassId := E.2.2.2
def fv (ad : Nat → Nat) (h : pH) (o k kd : Nat) : Value := match kd with
  | 2 => .ref (ad (rf o k))
  | 1 => .long (hL h o k)
  | _ => .int (hI h o k)
def fvs (ad : Nat → Nat) (h : pH) (o c : Nat) : List Value := (KF.getD c []).mapIdx (fun k kd => fv ad h o k kd)
def cellE (ad : Nat → Nat) (tc : Nat → ClassId) (h : pH) (o : Nat) : va_E := match ak o with
  | 0 => .inr (cx o, fvs ad h o (cx o))
  | 4 => .inl (tc 4, cx o, .inr (.inl (h.2 o)))
  | 5 => .inl (tc 5, cx o, .inr (.inr (.inr (.inr (fun i => if i < cx o then some (ad (rf o i)) else none)))))
  | k => .inl (tc k, cx o, .inl (h.1 o))
def wl (ad : Nat → Nat) (tc : Nat → ClassId) (h : pH) : va_W := (List.range NO).map (fun o => (ad o, cellE ad tc h o))
theorem wl_at {ad : Nat → Nat} {tc : Nat → ClassId} {h : pH} {o : Nat} (ho : o < NO) : (wl ad tc h)[o]? = some (ad o, cellE ad tc h o) := by
  simp [wl, ho]
theorem wl_set {ad : Nat → Nat} {tc : Nat → ClassId} {h h' : pH} {o : Nat} {e : va_E} (he : cellE ad tc h' o = e) (hn : ∀ a, a ≠ o → cellE ad tc h' a = cellE ad tc h a) : (wl ad tc h).set o (ad o, e) = wl ad tc h' := by
  apply List.ext_getElem?
  intro i
  by_cases hi : i < NO
  · rw [wl_at hi]
    by_cases hio : i = o
    · subst hio
      rw [List.getElem?_set_self (by simp [wl, hi]), he]
    · rw [List.getElem?_set_ne (fun q => hio q.symm), wl_at hi, hn i hio]
  · rw [List.getElem?_eq_none (by simp [wl]; omega), List.getElem?_eq_none (by simp [wl]; omega)]
theorem oTab_len : oTab.length = NO := by decide +kernel
theorem ob_lt {o : Nat} (h : ak o ≠ 9) : o < NO := by
  rcases Nat.lt_or_ge o NO with q | q
  · exact q
  · exfalso
    apply h
    show (oTab.getD o (9, 0, [])).1 = 9
    rw [List.getD_eq_getElem?_getD, List.getElem?_eq_none (by rw [oTab_len]; exact q)]
    rfl
theorem cellE_0 {ad : Nat → Nat} {tc : Nat → ClassId} {h : pH} {o : Nat} (k : ak o = 0) : cellE ad tc h o = .inr (cx o, fvs ad h o (cx o)) := by simp only [cellE, k]
theorem cellE_1 {ad : Nat → Nat} {tc : Nat → ClassId} {h : pH} {o : Nat} (k : ak o = 1) : cellE ad tc h o = .inl (tc 1, cx o, .inl (h.1 o)) := by simp only [cellE, k]
theorem cellE_2 {ad : Nat → Nat} {tc : Nat → ClassId} {h : pH} {o : Nat} (k : ak o = 2) : cellE ad tc h o = .inl (tc 2, cx o, .inl (h.1 o)) := by simp only [cellE, k]
theorem cellE_3 {ad : Nat → Nat} {tc : Nat → ClassId} {h : pH} {o : Nat} (k : ak o = 3) : cellE ad tc h o = .inl (tc 3, cx o, .inl (h.1 o)) := by simp only [cellE, k]
theorem cellE_4 {ad : Nat → Nat} {tc : Nat → ClassId} {h : pH} {o : Nat} (k : ak o = 4) : cellE ad tc h o = .inl (tc 4, cx o, .inr (.inl (h.2 o))) := by simp only [cellE, k]
theorem cellE_5 {ad : Nat → Nat} {tc : Nat → ClassId} {h : pH} {o : Nat} (k : ak o = 5) : cellE ad tc h o = .inl (tc 5, cx o, .inr (.inr (.inr (.inr (fun i => if i < cx o then some (ad (rf o i)) else none))))) := by simp only [cellE, k]
theorem sI_ne {h : pH} {o k : Nat} {v : Int32} {a : Nat} (q : a ≠ o) : (sI h o k v).1 a = h.1 a := if_neg q
theorem sL_ne {h : pH} {o k : Nat} {v : Int64} {a : Nat} (q : a ≠ o) : (sL h o k v).2 a = h.2 a := if_neg q
theorem cellE_cong {ad : Nat → Nat} {tc : Nat → ClassId} {h h' : pH} {o : Nat} (h1 : h'.1 o = h.1 o) (h2 : h'.2 o = h.2 o) : cellE ad tc h' o = cellE ad tc h o := by
  have e : ∀ k kd, fv ad h' o k kd = fv ad h o k kd := fun k kd => by
    unfold fv hI hL
    rw [h1, h2]
  unfold cellE fvs
  simp only [e, h1, h2]
theorem wl_sI {ad : Nat → Nat} {tc : Nat → ClassId} {h : pH} {o k : Nat} {v : Int32} {e : va_E} (he : cellE ad tc (sI h o k v) o = e) : (wl ad tc h).set o (ad o, e) = wl ad tc (sI h o k v) :=
  wl_set he (fun _ q => cellE_cong (sI_ne q) rfl)
theorem wl_sL {ad : Nat → Nat} {tc : Nat → ClassId} {h : pH} {o k : Nat} {v : Int64} {e : va_E} (he : cellE ad tc (sL h o k v) o = e) : (wl ad tc h).set o (ad o, e) = wl ad tc (sL h o k v) :=
  wl_set he (fun _ q => cellE_cong rfl (sL_ne q))
theorem fvs_at {ad : Nat → Nat} {h : pH} {o c k : Nat} (hk : (KF.getD c []).getD k 9 ≠ 9) : (fvs ad h o c)[k]? = some (fv ad h o k ((KF.getD c []).getD k 9)) := by
  unfold fvs
  rw [List.getElem?_mapIdx]
  generalize hL0 : KF.getD c [] = L at hk ⊢
  rw [List.getD_eq_getElem?_getD] at hk ⊢
  cases hq : L[k]? with
  | none => rw [hq] at hk; exact absurd rfl hk
  | some x => rfl
theorem fvs_setI {ad : Nat → Nat} {h : pH} {o c k : Nat} {v : Int32} (h1 : (KF.getD c []).getD k 9 ≠ 9) (h2 : (KF.getD c []).getD k 9 ≠ 1) (h3 : (KF.getD c []).getD k 9 ≠ 2) : (fvs ad h o c).set k (.int v) = fvs ad (sI h o k v) o c := by
  unfold fvs
  apply List.ext_getElem?
  intro i
  rw [List.getElem?_mapIdx]
  generalize hL0 : KF.getD c [] = L at h1 h2 h3 ⊢
  by_cases hik : i = k
  · subst hik
    rw [List.getD_eq_getElem?_getD] at h1 h2 h3
    cases hq : L[i]? with
    | none => rw [hq] at h1; exact absurd rfl h1
    | some x =>
      have hlt : i < L.length := (List.getElem?_eq_some_iff.mp hq).1
      rw [hq] at h2 h3
      rw [List.getElem?_set_self (by simpa using hlt)]
      show some (Value.int v) = some (fv ad (sI h o i v) o i x)
      have e : fv ad (sI h o i v) o i x = .int (hI (sI h o i v) o i) := by
        unfold fv
        split
        · exact absurd rfl h3
        · exact absurd rfl h2
        · rfl
      rw [e]
      simp [hI, sI, upd]
  · rw [List.getElem?_set_ne (fun q => hik q.symm), List.getElem?_mapIdx]
    congr 1
    funext x
    unfold fv hI hL sI upd
    simp [hik]
theorem fvs_setL {ad : Nat → Nat} {h : pH} {o c k : Nat} {v : Int64} (h1 : (KF.getD c []).getD k 9 = 1) : (fvs ad h o c).set k (.long v) = fvs ad (sL h o k v) o c := by
  unfold fvs
  apply List.ext_getElem?
  intro i
  rw [List.getElem?_mapIdx]
  generalize hL0 : KF.getD c [] = L at h1 ⊢
  by_cases hik : i = k
  · subst hik
    rw [List.getD_eq_getElem?_getD] at h1
    cases hq : L[i]? with
    | none => rw [hq] at h1; exact absurd h1 (by decide)
    | some x =>
      have hlt : i < L.length := (List.getElem?_eq_some_iff.mp hq).1
      rw [hq] at h1
      have hx : x = 1 := h1
      subst hx
      rw [List.getElem?_set_self (by simpa using hlt)]
      show some (Value.long v) = some (fv ad (sL h o i v) o i 1)
      show some (Value.long v) = some (Value.long (hL (sL h o i v) o i))
      simp [hL, sL, vp_updL]
  · rw [List.getElem?_set_ne (fun q => hik q.symm), List.getElem?_mapIdx]
    congr 1
    funext x
    unfold fv hI hL sL vp_updL
    simp [hik]
/-- the classes as the tables have them -/
theorem cl_ok {c : Nat} {q : vw_C} (hc : classes[c]? = some q) : ∃ ty : Nat → FieldType, (∀ w ∈ u_ws q.1 q.2.1 q.2.2, w ∈ LT) ∧ (∀ k, k < q.2.2 → parseFieldDescriptor (q.2.1 k).2.2.1 = some (ty k)) ∧ (∀ a, a < q.2.2 → ∀ b, b < q.2.2 → a ≠ b → (q.2.1 a).2.1 ≠ (q.2.1 b).2.1) ∧
    (KF.getD c []).length = q.2.2 ∧ ∀ k, k < q.2.2 → ((KF.getD c []).getD k 9 = 0 → ty k = .int ∧ (q.2.1 k).2.2.2 = false) ∧ ((KF.getD c []).getD k 9 = 1 → ty k = .long ∧ (q.2.1 k).2.2.2 = false) ∧ ((KF.getD c []).getD k 9 = 3 → ty k = .boolean ∧ (q.2.1 k).2.2.2 = false) := by
  match c, hc with
  | 0, hc => cases hc; exact ⟨t_0, i_0, t_0_ok, n_0, rfl, k_0⟩
  | 1, hc => cases hc; exact ⟨t_1, i_1, t_1_ok, n_1, rfl, k_1⟩
  | 2, hc => cases hc; exact ⟨t_2, i_2, t_2_ok, n_2, rfl, k_2⟩
  | 3, hc => cases hc; exact ⟨t_3, i_3, t_3_ok, n_3, rfl, k_3⟩
  | 4, hc => cases hc; exact ⟨t_4, i_4, t_4_ok, n_4, rfl, k_4⟩
  | 5, hc => cases hc; exact ⟨t_5, i_5, t_5_ok, n_5, rfl, k_5⟩
  | 6, hc => cases hc; exact ⟨t_6, i_6, t_6_ok, n_6, rfl, k_6⟩
  | 7, hc => cases hc; exact ⟨t_7, i_7, t_7_ok, n_7, rfl, k_7⟩
  | 8, hc => cases hc; exact ⟨t_8, i_8, t_8_ok, n_8, rfl, k_8⟩
  | 9, hc => cases hc; exact ⟨t_9, i_9, t_9_ok, n_9, rfl, k_9⟩
  | 10, hc => cases hc; exact ⟨t_10, i_10, t_10_ok, n_10, rfl, k_10⟩
  | 11, hc => cases hc; exact ⟨t_11, i_11, t_11_ok, n_11, rfl, k_11⟩
  | 12, hc => cases hc; exact ⟨t_12, i_12, t_12_ok, n_12, rfl, k_12⟩
  | c + 13, hc => simp [classes] at hc
/-! locals -/
def vm (ad : Nat → Nat) : Value → Value
  | .ref o => .ref (ad o)
  | v => v
theorem vm_cat (ad : Nat → Nat) (v : Value) : (vm ad v).category = v.category := by cases v <;> rfl
def pairs (ad : Nat → Nat) : Nat → List (Option Value) → List (Nat × Value)
  | _, [] => []
  | k, some v :: t => (k, vm ad v) :: pairs ad (k + 1) t
  | k, none :: t => pairs ad (k + 1) t
theorem pairs_mem {ad : Nat → Nat} {ls : List (Option Value)} : ∀ {k i : Nat} {v : Value}, (i, v) ∈ pairs ad k ls ↔ ∃ j u, ls[j]? = some (some u) ∧ i = k + j ∧ v = vm ad u := by
  induction ls with
  | nil => intro k i v; simp [pairs]
  | cons a t ih =>
    intro k i v
    cases a with
    | none =>
      show (i, v) ∈ pairs ad (k + 1) t ↔ _
      rw [ih]
      constructor
      · rintro ⟨j, u, h1, h2, h3⟩
        exact ⟨j + 1, u, by simpa using h1, by omega, h3⟩
      · rintro ⟨j, u, h1, h2, h3⟩
        cases j with
        | zero => simp at h1
        | succ j => exact ⟨j, u, by simpa using h1, by omega, h3⟩
    | some a =>
      show (i, v) ∈ (k, vm ad a) :: pairs ad (k + 1) t ↔ _
      rw [List.mem_cons, ih]
      constructor
      · rintro (h | ⟨j, u, h1, h2, h3⟩)
        · cases h
          exact ⟨0, a, rfl, rfl, rfl⟩
        · exact ⟨j + 1, u, by simpa using h1, by omega, h3⟩
      · rintro ⟨j, u, h1, h2, h3⟩
        cases j with
        | zero =>
          simp at h1
          subst h1
          left
          rw [h2, h3]
          rfl
        | succ j => exact Or.inr ⟨j, u, by simpa using h1, by omega, h3⟩
def LR (ad : Nat → Nat) (n : Nat) (ls : List (Option Value)) (L : Array Slot) : Prop := lv_has L n (pairs ad 0 ls)
theorem LR.get {ad : Nat → Nat} {n : Nat} {ls : List (Option Value)} {L : Array Slot} (h : LR ad n ls L) {i : Nat} {v : Value} (hi : ls[i]? = some (some v)) : L[i]? = some (.val (vm ad v)) :=
  h.2.2 (i, vm ad v) (pairs_mem.mpr ⟨i, v, hi, by omega, rfl⟩)
theorem LR.sub {ad : Nat → Nat} {n : Nat} {ls ls' : List (Option Value)} {L : Array Slot} (h : LR ad n ls L) (hs : ∀ (i : Nat) (v : Value), ls'[i]? = some (some v) → ls[i]? = some (some v)) : LR ad n ls' L :=
  ⟨h.1, h.2.1, fun q hq => by
    obtain ⟨i, v⟩ := q
    obtain ⟨j, u, h1, h2, h3⟩ := pairs_mem.mp hq
    have e := h.get (hs j u h1)
    have hj : i = j := by omega
    subst hj
    rw [h3]
    exact e⟩
/-- what is on top of a local of two words -/
def wide (ls : List (Option Value)) (i : Nat) : Bool := match i with
  | 0 => false
  | j + 1 => match ls[j]? with
    | some (some v) => v.category == 2
    | _ => false
theorem LR.set1 {ad : Nat → Nat} {n : Nat} {ls : List (Option Value)} {L : Array Slot} {i : Nat} {v : Value} (hw : wide ls i = false) (q : lv_has L n ((i, vm ad v) :: (pairs ad 0 ls).filter (fun q => !(q.1 == i) && !(q.1 + 1 == i && q.2.category == 2)))) : LR ad n (ls.set i (some v)) L := by
  refine ⟨q.1, q.2.1, fun p hp => q.2.2 p ?_⟩
  obtain ⟨a, b⟩ := p
  obtain ⟨j, u, h1, h2, h3⟩ := pairs_mem.mp hp
  have haj : a = j := by omega
  subst haj
  by_cases haiq : a = i
  · subst haiq
    rw [List.getElem?_set] at h1
    simp only [if_pos] at h1
    split at h1
    · cases h1
      rw [h3]
      exact List.mem_cons_self
    · cases h1
  · rw [List.getElem?_set_ne (fun z => haiq z.symm)] at h1
    refine List.mem_cons_of_mem _ (List.mem_filter.mpr ⟨pairs_mem.mpr ⟨a, u, h1, by omega, h3⟩, ?_⟩)
    have e1 : (a == i) = false := by simpa using haiq
    by_cases e2 : a + 1 = i
    · subst e2
      have e3 : (u.category == 2) = false := by
        have := hw
        simp only [wide, h1] at this
        exact this
      simp only [e1, h3, vm_cat]
      simp [e3]
    · simp [e1, e2]
theorem LR.set2 {ad : Nat → Nat} {n : Nat} {ls : List (Option Value)} {L : Array Slot} {i : Nat} {v : Value} (hw : wide ls i = false) (q : lv_has L n ((i, vm ad v) :: (pairs ad 0 ls).filter (fun q => !(q.1 == i) && (!(q.1 == i + 1) && !(q.1 + 1 == i && q.2.category == 2))))) : LR ad n ((ls.set i (some v)).set (i + 1) none) L := by
  refine ⟨q.1, q.2.1, fun p hp => q.2.2 p ?_⟩
  obtain ⟨a, b⟩ := p
  obtain ⟨j, u, h1, h2, h3⟩ := pairs_mem.mp hp
  have haj : a = j := by omega
  subst haj
  by_cases hai1 : a = i + 1
  · subst hai1
    rw [List.getElem?_set] at h1
    simp only [if_pos] at h1
    split at h1 <;> cases h1
  rw [List.getElem?_set_ne (fun z => hai1 z.symm)] at h1
  by_cases haiq : a = i
  · subst haiq
    rw [List.getElem?_set] at h1
    simp only [if_pos] at h1
    split at h1
    · cases h1
      rw [h3]
      exact List.mem_cons_self
    · cases h1
  · rw [List.getElem?_set_ne (fun z => haiq z.symm)] at h1
    refine List.mem_cons_of_mem _ (List.mem_filter.mpr ⟨pairs_mem.mpr ⟨a, u, h1, by omega, h3⟩, ?_⟩)
    have e1 : (a == i) = false := by simpa using haiq
    have e4 : (a == i + 1) = false := by simpa using hai1
    by_cases e2 : a + 1 = i
    · subst e2
      have e3 : (u.category == 2) = false := by
        have := hw
        simp only [wide, h1] at this
        exact this
      simp only [e1, e4, h3, vm_cat]
      simp [e3]
    · simp [e1, e4, e2]
end
section
/-! a method, its context, and what it means to go on from a frame -/
abbrev MI : Type := MethodName × ByteArray × Nat × Option FieldType × String × (Nat → Option (Nat × Nat)) × (Nat → Option Int32) × Room
abbrev mY (M : MI) : MethodName := M.1
abbrev mB (M : MI) : ByteArray := M.2.1
abbrev mL (M : MI) : Nat := M.2.2.1
abbrev mR (M : MI) : Option FieldType := M.2.2.2.1
abbrev mO (M : MI) : String := M.2.2.2.2.1
abbrev mF (M : MI) : Nat → Option (Nat × Nat) := M.2.2.2.2.2.1
abbrev mK (M : MI) : Nat → Option Int32 := M.2.2.2.2.2.2.1
abbrev mRm (M : MI) : Room := M.2.2.2.2.2.2.2
abbrev wsM (M : MI) : List Cond := Cond.code (mY M) (mB M) (mL M) (mR M) :: LT
/-- what a method's tables say is so -/
def MOK (M : MI) : Prop := plainName (mY M).cls = true ∧ Cond.code (mY M) (mB M) (mL M) (mR M) ∈ LT ∧ (mY M).cls = mO M ∧ (mRm M).cells = 0 ∧ (mRm M).slots = 0 ∧
  (∀ i c k, mF M i = some (c, k) → ∃ q : vw_C, classes[c]? = some q ∧ k < q.2.2 ∧ Cond.fieldLink (mO M) i (q.2.1 k).1 (q.2.1 k).2.1 (q.2.1 k).2.2.1 ∈ LT) ∧
  (∀ i v, mK M i = some v → Cond.constant (mO M) i v ∈ LT)
def wA (ad : Nat → Nat) : Nat → Prop := fun q => ∃ o, o < NO ∧ q = ad o
def tysE (tc : Nat → ClassId) : List (ClassId × FieldType) := [(tc 1, .int), (tc 2, .byte), (tc 3, .boolean), (tc 4, .long), (tc 5, .array .int)]
def sLen : List Nat := [5, 4]
def sByt : List (List Int32) := [[112, 111, 105, 110, 116], [103, 114, 105, 100]]
/-- the texts of the class -/
def ZC (ad : Nat → Nat) (U : State) : Prop := vk_S 2 sLen sByt (fun i => ad (200 + i)) (fun i => ad (210 + i)) (wA ad) U U.heap ∧ vk_R "CloudDepth$Tape" 54 "point" (ad 200) U ∧ vk_R "CloudDepth$Tape" 60 "grid" (ad 201) U
def GE (E : pE) (U : State) : Prop := va_K (eD E) classes (tysE (eC E)) U ∧ ZC (eA E) U ∧ ∀ i j, i < NO → j < NO → eA E i = eA E j → i = j
def CX (E : pE) (M : MI) (p : Program) (s : State) (m : MethodId) (args : Array Value) (meth : Method) (c : Code) : Prop :=
  p.tables.exec = Jvm.exec ∧ c.code = mB M ∧ meth.sig.returnType = mR M ∧ c.maxLocals = mL M ∧ s.vm.findClass (mO M) = some m.cls ∧ (∀ w ∈ wsM M, w.before args s = true) ∧ meth.locks = false ∧ GE E s
def PP (E : pE) (h : pH) (H : Heap) : Prop := va_P (eD E) classes (wl (eA E) (eC E) h) H
def QQ (E : pE) (r : Option Value) (h : pH) : Array Value → State → Outcome → State → Prop := fun _ st o t => (o = .returned r ∧ PP E h t.heap) ∧ va_F (wA (eA E)) st t
/-- the method, called with these, answers r and leaves h' -/
def Ct (E : pE) (M : MI) (as : List Value) (h : pH) (r : Option Value) (h' : pH) : Prop :=
  Met (eL E) (mY M) (wsM M) (mRm M) (fun v U => v = (as.map (vm (eA E))).toArray ∧ PP E h U.heap ∧ GE E U) (QQ E r h') 0 0 (wA (eA E))
/-- from this frame on the method answers r and leaves h' -/
def Go (E : pE) (M : MI) (pc : Nat) (ls : List (Option Value)) (st : List Value) (h : pH) (r : Option Value) (h' : pH) : Prop :=
  ∀ (p : Program) (e : Env) (s : State) (m : MethodId) (args : Array Value) (below : List Frame) (meth : Method) (c : Code) (H : Heap) (locs : List Loc) (L : Array Slot),
    CX E M p s m args meth c → va_S (wA (eA E)) s.heap H locs → PP E h H → LR (eA E) (mL M) ls L → W p (eL E) e (mRm M) s m args below meth c H locs 0 0 (MQ below (QQ E r h') args s 0 0 (wA (eA E))) (F0 m pc L (st.map (vm (eA E))))
theorem wl_D {E : pE} {s : State} (g : GE E s) (h : pH) : va_D (wA (eA E)) (wl (eA E) (eC E) h) := by
  have key : ∀ (i : Nat) (p : Nat × va_E), (wl (eA E) (eC E) h)[i]? = some p → i < NO ∧ p.1 = eA E i := by
    intro i p hi
    have hl : i < NO := by
      have := (List.getElem?_eq_some_iff.mp hi).1
      simpa [wl] using this
    rw [wl_at hl] at hi
    cases hi
    exact ⟨hl, rfl⟩
  refine ⟨fun i j p q hi hj e => ?_, fun k q hk => ?_⟩
  · obtain ⟨a1, a2⟩ := key i p hi
    obtain ⟨b1, b2⟩ := key j q hj
    exact g.2.2 i j a1 b1 (by rw [← a2, ← b2, e])
  · obtain ⟨a1, a2⟩ := key k q hk
    exact ⟨k, a1, a2⟩
theorem ZC.moved {ad : Nat → Nat} {s U : State} (h : ZC ad s) (hW : s.WarmedH U.vm) (hq : ∀ a : Nat, a < s.heap.size → ¬ wA ad a → U.heap[a]? = s.heap[a]?) : ZC ad U :=
  ⟨(h.1.kept hq).moved hW.alike, h.2.1.warm hW, h.2.2.warm hW⟩
theorem GE.moved {E : pE} {s U : State} (h : GE E s) (hW : s.WarmedH U.vm) (hq : ∀ a : Nat, a < s.heap.size → ¬ wA (eA E) a → U.heap[a]? = s.heap[a]?) : GE E U :=
  ⟨va_K.moved hW.alike h.1, h.2.1.moved hW hq, h.2.2⟩
theorem Ct_of {E : pE} {M : MI} {as : List Value} {h h' : pH} {r : Option Value} (hM : MOK M) (ls : List (Option Value)) (hn : (lg_sl (as.map (vm (eA E)))).length ≤ mL M) (hls : pairs (eA E) 0 ls = lv_args 0 (as.map (vm (eA E)))) (k : Go E M 0 ls [] h r h') : Ct E M as h r h' := by
  refine Met.ofW (cc := mB M) (maxL := mL M) (ret := mR M) hM.1 rfl ?_
  intro p e s m args below meth c s₁ B hml hv
  obtain ⟨rfl, hP, hG⟩ := hv
  have hl := lv_entry (as.map (vm (eA E))) (n := mL M) hn
  rw [lg_entry_eq]
  refine k p e s m _ below meth c s.heap [] _ ⟨B.exec, B.bytes, B.returns, hml, ?_, atoms_spec (ws := wsM M) B.pre, B.notSynchronized, hG⟩ va_S.rf hP ?_
  · have e := findClass_of_methodNamed B.named
    rw [hM.2.2.1] at e
    exact e
  · unfold LR
    rw [hls]
    exact hl
section GO
variable {E : pE} {M : MI} {pc : Nat} {ls : List (Option Value)} {st : List Value} {h h' hr : pH} {r : Option Value}
theorem Go.sub (ls' : List (Option Value)) (hs : ∀ (i : Nat) (v : Value), ls'[i]? = some (some v) → ls[i]? = some (some v)) (k : Go E M pc ls' st h r hr) : Go E M pc ls st h r hr :=
  fun p e s m args below meth c H locs L C hS hP hL => k p e s m args below meth c H locs L C hS hP (hL.sub hs)
theorem q_iconst {n : Int} (hd : decode (mB M) pc = .ok (.iconst n, 1)) (k : Go E M (pc + 1) ls (.int (Int32.ofInt n) :: st) h r hr) : Go E M pc ls st h r hr :=
  fun p e s m args below meth c H locs L C hS hP hL => lv_iconst C.1 C.2.1 hd rfl (k p e s m args below meth c H locs L C hS hP hL)
theorem q_bipush {n : Int} (hd : decode (mB M) pc = .ok (.bipush n, 2)) (k : Go E M (pc + 2) ls (.int (Int8.ofInt n).toInt32 :: st) h r hr) : Go E M pc ls st h r hr :=
  fun p e s m args below meth c H locs L C hS hP hL => lv_bipush C.1 C.2.1 hd rfl (k p e s m args below meth c H locs L C hS hP hL)
theorem q_sipush {n : Int} (hd : decode (mB M) pc = .ok (.sipush n, 3)) (k : Go E M (pc + 3) ls (.int (Int16.ofInt n).toInt32 :: st) h r hr) : Go E M pc ls st h r hr :=
  fun p e s m args below meth c H locs L C hS hP hL => lv_sipush C.1 C.2.1 hd rfl (k p e s m args below meth c H locs L C hS hP hL)
theorem q_lconst {n : Fin 2} (hd : decode (mB M) pc = .ok (.lconst n, 1)) (k : Go E M (pc + 1) ls (.long (Int64.ofNat n) :: st) h r hr) : Go E M pc ls st h r hr :=
  fun p e s m args below meth c H locs L C hS hP hL => lv_lconst C.1 C.2.1 hd rfl (k p e s m args below meth c H locs L C hS hP hL)
theorem q_ldc (hM : MOK M) {i : Nat} {v : Int32} (hv : mK M i = some v) (hd : decode (mB M) pc = .ok (.ldc i, 2)) (k : Go E M (pc + 2) ls (.int v :: st) h r hr) : Go E M pc ls st h r hr :=
  fun p e s m args below meth c H locs L C hS hP hL => lv_ldc C.1 C.2.1 C.2.2.2.2.1 (C.2.2.2.2.2.1 _ (List.mem_cons_of_mem _ (hM.2.2.2.2.2.2 i v hv))) hd (k p e s m args below meth c H locs L C hS hP hL)
theorem q_ldcw (hM : MOK M) {i : Nat} {v : Int32} (hv : mK M i = some v) (hd : decode (mB M) pc = .ok (.ldc_w i, 3)) (k : Go E M (pc + 3) ls (.int v :: st) h r hr) : Go E M pc ls st h r hr :=
  fun p e s m args below meth c H locs L C hS hP hL => lv_ldcw C.1 C.2.1 C.2.2.2.2.1 (C.2.2.2.2.2.1 _ (List.mem_cons_of_mem _ (hM.2.2.2.2.2.2 i v hv))) hd (k p e s m args below meth c H locs L C hS hP hL)
theorem q_ldc2 {i : Nat} {v : Int64} (hv : Cond.constantLong (mO M) i v ∈ LT) (hd : decode (mB M) pc = .ok (.ldc2_w i, 3)) (k : Go E M (pc + 3) ls (.long v :: st) h r hr) : Go E M pc ls st h r hr :=
  fun p e s m args below meth c H locs L C hS hP hL => lv_ldc2 C.1 C.2.1 C.2.2.2.2.1 (C.2.2.2.2.2.1 _ (List.mem_cons_of_mem _ hv)) hd (k p e s m args below meth c H locs L C hS hP hL)
theorem q_iload_n {i : Fin 4} {x : Int32} (hl : ls[i.val]? = some (some (.int x))) (hd : decode (mB M) pc = .ok (.iload_n i, 1)) (k : Go E M (pc + 1) ls (.int x :: st) h r hr) : Go E M pc ls st h r hr :=
  fun p e s m args below meth c H locs L C hS hP hL => lv_iload_n C.1 C.2.1 hd rfl (hL.get hl) (k p e s m args below meth c H locs L C hS hP hL)
theorem q_iload {i : Nat} {x : Int32} (hl : ls[i]? = some (some (.int x))) (hd : decode (mB M) pc = .ok (.iload i, 2)) (k : Go E M (pc + 2) ls (.int x :: st) h r hr) : Go E M pc ls st h r hr :=
  fun p e s m args below meth c H locs L C hS hP hL => lv_iload C.1 C.2.1 hd (hL.get hl) (k p e s m args below meth c H locs L C hS hP hL)
theorem q_lload_n {i : Fin 4} {x : Int64} (hl : ls[i.val]? = some (some (.long x))) (hd : decode (mB M) pc = .ok (.lload_n i, 1)) (k : Go E M (pc + 1) ls (.long x :: st) h r hr) : Go E M pc ls st h r hr :=
  fun p e s m args below meth c H locs L C hS hP hL => lv_lload_n C.1 C.2.1 hd rfl (hL.get hl) (k p e s m args below meth c H locs L C hS hP hL)
theorem q_lload {i : Nat} {x : Int64} (hl : ls[i]? = some (some (.long x))) (hd : decode (mB M) pc = .ok (.lload i, 2)) (k : Go E M (pc + 2) ls (.long x :: st) h r hr) : Go E M pc ls st h r hr :=
  fun p e s m args below meth c H locs L C hS hP hL => lv_lload C.1 C.2.1 hd (hL.get hl) (k p e s m args below meth c H locs L C hS hP hL)
theorem q_aload_n {i : Fin 4} {x : Nat} (hl : ls[i.val]? = some (some (.ref x))) (hd : decode (mB M) pc = .ok (.aload_n i, 1)) (k : Go E M (pc + 1) ls (.ref x :: st) h r hr) : Go E M pc ls st h r hr :=
  fun p e s m args below meth c H locs L C hS hP hL => lv_aload_n C.1 C.2.1 hd rfl (hL.get hl) (k p e s m args below meth c H locs L C hS hP hL)
theorem q_aload {i : Nat} {x : Nat} (hl : ls[i]? = some (some (.ref x))) (hd : decode (mB M) pc = .ok (.aload i, 2)) (k : Go E M (pc + 2) ls (.ref x :: st) h r hr) : Go E M pc ls st h r hr :=
  fun p e s m args below meth c H locs L C hS hP hL => lv_aload C.1 C.2.1 hd (hL.get hl) (k p e s m args below meth c H locs L C hS hP hL)
theorem q_istore_n {i : Fin 4} {x : Int32} (hi : i.val < mL M) (hw : wide ls i.val = false) (hd : decode (mB M) pc = .ok (.istore_n i, 1)) (k : Go E M (pc + 1) (ls.set i.val (some (.int x))) st h r hr) : Go E M pc ls (.int x :: st) h r hr :=
  fun p e s m args below meth c H locs L C hS hP hL => lv_istore_n C.1 C.2.1 hd rfl hL hi rfl (fun L' hL' => k p e s m args below meth c H locs L' C hS hP (LR.set1 (v := .int x) hw hL'))
theorem q_istore {i : Nat} {x : Int32} (hi : i < mL M) (hw : wide ls i = false) (hd : decode (mB M) pc = .ok (.istore i, 2)) (k : Go E M (pc + 2) (ls.set i (some (.int x))) st h r hr) : Go E M pc ls (.int x :: st) h r hr :=
  fun p e s m args below meth c H locs L C hS hP hL => lv_istore C.1 C.2.1 hd hL hi rfl (fun L' hL' => k p e s m args below meth c H locs L' C hS hP (LR.set1 (v := .int x) hw hL'))
theorem q_astore_n {i : Fin 4} {x : Nat} (hi : i.val < mL M) (hw : wide ls i.val = false) (hd : decode (mB M) pc = .ok (.astore_n i, 1)) (k : Go E M (pc + 1) (ls.set i.val (some (.ref x))) st h r hr) : Go E M pc ls (.ref x :: st) h r hr :=
  fun p e s m args below meth c H locs L C hS hP hL => lv_astore_n C.1 C.2.1 hd rfl hL hi rfl (fun L' hL' => k p e s m args below meth c H locs L' C hS hP (LR.set1 (v := .ref x) hw hL'))
theorem q_astore {i : Nat} {x : Nat} (hi : i < mL M) (hw : wide ls i = false) (hd : decode (mB M) pc = .ok (.astore i, 2)) (k : Go E M (pc + 2) (ls.set i (some (.ref x))) st h r hr) : Go E M pc ls (.ref x :: st) h r hr :=
  fun p e s m args below meth c H locs L C hS hP hL => lv_astore C.1 C.2.1 hd hL hi rfl (fun L' hL' => k p e s m args below meth c H locs L' C hS hP (LR.set1 (v := .ref x) hw hL'))
theorem q_lstore_n {i : Fin 4} {x : Int64} (hi : i.val + 1 < mL M) (hw : wide ls i.val = false) (hd : decode (mB M) pc = .ok (.lstore_n i, 1)) (k : Go E M (pc + 1) ((ls.set i.val (some (.long x))).set (i.val + 1) none) st h r hr) : Go E M pc ls (.long x :: st) h r hr :=
  fun p e s m args below meth c H locs L C hS hP hL => lv_lstore_n C.1 C.2.1 hd rfl hL hi rfl (fun L' hL' => k p e s m args below meth c H locs L' C hS hP (LR.set2 (v := .long x) hw hL'))
theorem q_lstore {i : Nat} {x : Int64} (hi : i + 1 < mL M) (hw : wide ls i = false) (hd : decode (mB M) pc = .ok (.lstore i, 2)) (k : Go E M (pc + 2) ((ls.set i (some (.long x))).set (i + 1) none) st h r hr) : Go E M pc ls (.long x :: st) h r hr :=
  fun p e s m args below meth c H locs L C hS hP hL => lv_lstore C.1 C.2.1 hd hL hi rfl (fun L' hL' => k p e s m args below meth c H locs L' C hS hP (LR.set2 (v := .long x) hw hL'))
theorem q_iinc {i : Nat} {n : Int} {x : Int32} (hl : ls[i]? = some (some (.int x))) (hi : i < mL M) (hw : wide ls i = false) (hd : decode (mB M) pc = .ok (.iinc i n, 3)) (k : Go E M (pc + 3) (ls.set i (some (.int (x + Int32.ofInt n)))) st h r hr) : Go E M pc ls st h r hr := by
  intro p e s m args below meth c H locs L C hS hP hL
  obtain ⟨k0, hk0⟩ := List.getElem?_of_mem (pairs_mem (ad := eA E) (k := 0) (i := i) (v := .int x) |>.mpr ⟨i, .int x, hl, by omega, rfl⟩)
  exact lv_iinc C.1 C.2.1 hd hL hk0 rfl hi rfl (fun L' hL' => k p e s m args below meth c H locs L' C hS hP (LR.set1 (v := .int (x + Int32.ofInt n)) hw hL'))
theorem q_iadd {x y : Int32} (hd : decode (mB M) pc = .ok (.iadd, 1)) (k : Go E M (pc + 1) ls (.int (x + y) :: st) h r hr) : Go E M pc ls (.int y :: .int x :: st) h r hr :=
  fun p e s m args below meth c H locs L C hS hP hL => lv_iadd C.1 C.2.1 hd (k p e s m args below meth c H locs L C hS hP hL)
theorem q_isub {x y : Int32} (hd : decode (mB M) pc = .ok (.isub, 1)) (k : Go E M (pc + 1) ls (.int (x - y) :: st) h r hr) : Go E M pc ls (.int y :: .int x :: st) h r hr :=
  fun p e s m args below meth c H locs L C hS hP hL => lv_isub C.1 C.2.1 hd (k p e s m args below meth c H locs L C hS hP hL)
theorem q_imul {x y : Int32} (hd : decode (mB M) pc = .ok (.imul, 1)) (k : Go E M (pc + 1) ls (.int (x * y) :: st) h r hr) : Go E M pc ls (.int y :: .int x :: st) h r hr :=
  fun p e s m args below meth c H locs L C hS hP hL => lv_imul C.1 C.2.1 hd (k p e s m args below meth c H locs L C hS hP hL)
theorem q_iand {x y : Int32} (hd : decode (mB M) pc = .ok (.iand, 1)) (k : Go E M (pc + 1) ls (.int (x &&& y) :: st) h r hr) : Go E M pc ls (.int y :: .int x :: st) h r hr :=
  fun p e s m args below meth c H locs L C hS hP hL => lv_iand C.1 C.2.1 hd (k p e s m args below meth c H locs L C hS hP hL)
theorem q_ior {x y : Int32} (hd : decode (mB M) pc = .ok (.ior, 1)) (k : Go E M (pc + 1) ls (.int (x ||| y) :: st) h r hr) : Go E M pc ls (.int y :: .int x :: st) h r hr :=
  fun p e s m args below meth c H locs L C hS hP hL => lv_ior C.1 C.2.1 hd (k p e s m args below meth c H locs L C hS hP hL)
theorem q_ixor {x y : Int32} (hd : decode (mB M) pc = .ok (.ixor, 1)) (k : Go E M (pc + 1) ls (.int (x ^^^ y) :: st) h r hr) : Go E M pc ls (.int y :: .int x :: st) h r hr :=
  fun p e s m args below meth c H locs L C hS hP hL => lv_ixor C.1 C.2.1 hd (k p e s m args below meth c H locs L C hS hP hL)
theorem q_ishl {x y : Int32} (hd : decode (mB M) pc = .ok (.ishl, 1)) (k : Go E M (pc + 1) ls (.int (x <<< (y &&& 31)) :: st) h r hr) : Go E M pc ls (.int y :: .int x :: st) h r hr :=
  fun p e s m args below meth c H locs L C hS hP hL => lv_ishl C.1 C.2.1 hd (k p e s m args below meth c H locs L C hS hP hL)
theorem q_ishr {x y : Int32} (hd : decode (mB M) pc = .ok (.ishr, 1)) (k : Go E M (pc + 1) ls (.int (x >>> (y &&& 31)) :: st) h r hr) : Go E M pc ls (.int y :: .int x :: st) h r hr :=
  fun p e s m args below meth c H locs L C hS hP hL => lv_ishr C.1 C.2.1 hd (k p e s m args below meth c H locs L C hS hP hL)
theorem q_idiv {x y : Int32} (hne : ¬ y = 0) (hd : decode (mB M) pc = .ok (.idiv, 1)) (k : Go E M (pc + 1) ls (.int (x / y) :: st) h r hr) : Go E M pc ls (.int y :: .int x :: st) h r hr :=
  fun p e s m args below meth c H locs L C hS hP hL => lv_idiv C.1 C.2.1 hd hne (k p e s m args below meth c H locs L C hS hP hL)
theorem q_irem {x y : Int32} (hne : ¬ y = 0) (hd : decode (mB M) pc = .ok (.irem, 1)) (k : Go E M (pc + 1) ls (.int (x - x / y * y) :: st) h r hr) : Go E M pc ls (.int y :: .int x :: st) h r hr :=
  fun p e s m args below meth c H locs L C hS hP hL => lv_irem C.1 C.2.1 hd hne (k p e s m args below meth c H locs L C hS hP hL)
theorem q_ladd {x y : Int64} (hd : decode (mB M) pc = .ok (.ladd, 1)) (k : Go E M (pc + 1) ls (.long (x + y) :: st) h r hr) : Go E M pc ls (.long y :: .long x :: st) h r hr :=
  fun p e s m args below meth c H locs L C hS hP hL => lv_ladd C.1 C.2.1 hd (k p e s m args below meth c H locs L C hS hP hL)
theorem q_lmul {x y : Int64} (hd : decode (mB M) pc = .ok (.lmul, 1)) (k : Go E M (pc + 1) ls (.long (x * y) :: st) h r hr) : Go E M pc ls (.long y :: .long x :: st) h r hr :=
  fun p e s m args below meth c H locs L C hS hP hL => lv_lmul C.1 C.2.1 hd (k p e s m args below meth c H locs L C hS hP hL)
theorem q_ineg {x : Int32} (hd : decode (mB M) pc = .ok (.ineg, 1)) (k : Go E M (pc + 1) ls (.int (-x) :: st) h r hr) : Go E M pc ls (.int x :: st) h r hr :=
  fun p e s m args below meth c H locs L C hS hP hL => lv_ineg C.1 C.2.1 hd (k p e s m args below meth c H locs L C hS hP hL)
theorem q_iushr {x y : Int32} (hd : decode (mB M) pc = .ok (.iushr, 1)) (k : Go E M (pc + 1) ls (.int ((x.toUInt32 >>> (y.toUInt32 &&& Int32.toUInt32 31)).toInt32) :: st) h r hr) : Go E M pc ls (.int y :: .int x :: st) h r hr :=
  fun p e s m args below meth c H locs L C hS hP hL => lv_iushr C.1 C.2.1 hd rfl (k p e s m args below meth c H locs L C hS hP hL)
theorem q_i2l {x : Int32} (hd : decode (mB M) pc = .ok (.i2l, 1)) (k : Go E M (pc + 1) ls (.long x.toInt64 :: st) h r hr) : Go E M pc ls (.int x :: st) h r hr :=
  fun p e s m args below meth c H locs L C hS hP hL => lv_i2l C.1 C.2.1 hd rfl (k p e s m args below meth c H locs L C hS hP hL)
theorem q_i2b {x : Int32} (hd : decode (mB M) pc = .ok (.i2b, 1)) (k : Go E M (pc + 1) ls (.int x.toInt8.toInt32 :: st) h r hr) : Go E M pc ls (.int x :: st) h r hr :=
  fun p e s m args below meth c H locs L C hS hP hL => lv_i2b C.1 C.2.1 hd rfl (k p e s m args below meth c H locs L C hS hP hL)
theorem q_lcmp {x y : Int64} (hd : decode (mB M) pc = .ok (.lcmp, 1)) (k : Go E M (pc + 1) ls (.int (lg_cmp x y) :: st) h r hr) : Go E M pc ls (.long y :: .long x :: st) h r hr :=
  fun p e s m args below meth c H locs L C hS hP hL => W.lcmp C.1 C.2.1 hd (k p e s m args below meth c H locs L C hS hP hL)
theorem q_dup {x : Value} (hx : x.category = 1) (hd : decode (mB M) pc = .ok (.dup, 1)) (k : Go E M (pc + 1) ls (x :: x :: st) h r hr) : Go E M pc ls (x :: st) h r hr :=
  fun p e s m args below meth c H locs L C hS hP hL => lv_dup C.1 C.2.1 hd (by rw [vm_cat]; exact hx) (k p e s m args below meth c H locs L C hS hP hL)
theorem q_pop {x : Value} (hx : x.category = 1) (hd : decode (mB M) pc = .ok (.pop, 1)) (k : Go E M (pc + 1) ls st h r hr) : Go E M pc ls (x :: st) h r hr :=
  fun p e s m args below meth c H locs L C hS hP hL => lv_pop C.1 C.2.1 hd (by rw [vm_cat]; exact hx) (k p e s m args below meth c H locs L C hS hP hL)
theorem q_dup2 {x y : Value} (hx : x.category = 1) (hy : y.category = 1) (hd : decode (mB M) pc = .ok (.dup2, 1)) (k : Go E M (pc + 1) ls (x :: y :: x :: y :: st) h r hr) : Go E M pc ls (x :: y :: st) h r hr :=
  fun p e s m args below meth c H locs L C hS hP hL => lv_dup2_11 C.1 C.2.1 hd (by rw [vm_cat]; exact hx) (by rw [vm_cat]; exact hy) (k p e s m args below meth c H locs L C hS hP hL)
theorem q_goto {off : Int} {tgt : Nat} (ht : (pc : Int) + off = (tgt : Int)) (hd : decode (mB M) pc = .ok (.goto off, 3)) (k : Go E M tgt ls st h r hr) : Go E M pc ls st h r hr :=
  fun p e s m args below meth c H locs L C hS hP hL => lv_goto C.1 C.2.1 hd ht (k p e s m args below meth c H locs L C hS hP hL)
theorem q_icmp_eq {x y : Int32} {off : Int} {tgt : Nat} (hd : decode (mB M) pc = .ok (.if_icmp .eq off, 3)) (ht : (pc : Int) + off = (tgt : Int)) (kt : x = y → Go E M tgt ls st h r hr) (kf : ¬ x = y → Go E M (pc + 3) ls st h r hr) : Go E M pc ls (.int y :: .int x :: st) h r hr :=
  fun p e s m args below meth c H locs L C hS hP hL => lv_icmp_eq C.1 C.2.1 hd ht (fun q => kt q p e s m args below meth c H locs L C hS hP hL) (fun q => kf q p e s m args below meth c H locs L C hS hP hL)
theorem q_if_eq {x : Int32} {off : Int} {tgt : Nat} (hd : decode (mB M) pc = .ok (.ifCond .eq off, 3)) (ht : (pc : Int) + off = (tgt : Int)) (kt : x = 0 → Go E M tgt ls st h r hr) (kf : ¬ x = 0 → Go E M (pc + 3) ls st h r hr) : Go E M pc ls (.int x :: st) h r hr :=
  fun p e s m args below meth c H locs L C hS hP hL => lv_if_eq C.1 C.2.1 hd ht (fun q => kt q p e s m args below meth c H locs L C hS hP hL) (fun q => kf q p e s m args below meth c H locs L C hS hP hL)
theorem q_icmp_ne {x y : Int32} {off : Int} {tgt : Nat} (hd : decode (mB M) pc = .ok (.if_icmp .ne off, 3)) (ht : (pc : Int) + off = (tgt : Int)) (kt : ¬ x = y → Go E M tgt ls st h r hr) (kf : x = y → Go E M (pc + 3) ls st h r hr) : Go E M pc ls (.int y :: .int x :: st) h r hr :=
  fun p e s m args below meth c H locs L C hS hP hL => lv_icmp_ne C.1 C.2.1 hd ht (fun q => kt q p e s m args below meth c H locs L C hS hP hL) (fun q => kf q p e s m args below meth c H locs L C hS hP hL)
theorem q_if_ne {x : Int32} {off : Int} {tgt : Nat} (hd : decode (mB M) pc = .ok (.ifCond .ne off, 3)) (ht : (pc : Int) + off = (tgt : Int)) (kt : ¬ x = 0 → Go E M tgt ls st h r hr) (kf : x = 0 → Go E M (pc + 3) ls st h r hr) : Go E M pc ls (.int x :: st) h r hr :=
  fun p e s m args below meth c H locs L C hS hP hL => lv_if_ne C.1 C.2.1 hd ht (fun q => kt q p e s m args below meth c H locs L C hS hP hL) (fun q => kf q p e s m args below meth c H locs L C hS hP hL)
theorem q_icmp_lt {x y : Int32} {off : Int} {tgt : Nat} (hd : decode (mB M) pc = .ok (.if_icmp .lt off, 3)) (ht : (pc : Int) + off = (tgt : Int)) (kt : x < y → Go E M tgt ls st h r hr) (kf : ¬ x < y → Go E M (pc + 3) ls st h r hr) : Go E M pc ls (.int y :: .int x :: st) h r hr :=
  fun p e s m args below meth c H locs L C hS hP hL => lv_icmp_lt C.1 C.2.1 hd ht (fun q => kt q p e s m args below meth c H locs L C hS hP hL) (fun q => kf q p e s m args below meth c H locs L C hS hP hL)
theorem q_if_lt {x : Int32} {off : Int} {tgt : Nat} (hd : decode (mB M) pc = .ok (.ifCond .lt off, 3)) (ht : (pc : Int) + off = (tgt : Int)) (kt : x < 0 → Go E M tgt ls st h r hr) (kf : ¬ x < 0 → Go E M (pc + 3) ls st h r hr) : Go E M pc ls (.int x :: st) h r hr :=
  fun p e s m args below meth c H locs L C hS hP hL => lv_if_lt C.1 C.2.1 hd ht (fun q => kt q p e s m args below meth c H locs L C hS hP hL) (fun q => kf q p e s m args below meth c H locs L C hS hP hL)
theorem q_icmp_ge {x y : Int32} {off : Int} {tgt : Nat} (hd : decode (mB M) pc = .ok (.if_icmp .ge off, 3)) (ht : (pc : Int) + off = (tgt : Int)) (kt : y ≤ x → Go E M tgt ls st h r hr) (kf : ¬ y ≤ x → Go E M (pc + 3) ls st h r hr) : Go E M pc ls (.int y :: .int x :: st) h r hr :=
  fun p e s m args below meth c H locs L C hS hP hL => lv_icmp_ge C.1 C.2.1 hd ht (fun q => kt q p e s m args below meth c H locs L C hS hP hL) (fun q => kf q p e s m args below meth c H locs L C hS hP hL)
theorem q_if_ge {x : Int32} {off : Int} {tgt : Nat} (hd : decode (mB M) pc = .ok (.ifCond .ge off, 3)) (ht : (pc : Int) + off = (tgt : Int)) (kt : 0 ≤ x → Go E M tgt ls st h r hr) (kf : ¬ 0 ≤ x → Go E M (pc + 3) ls st h r hr) : Go E M pc ls (.int x :: st) h r hr :=
  fun p e s m args below meth c H locs L C hS hP hL => lv_if_ge C.1 C.2.1 hd ht (fun q => kt q p e s m args below meth c H locs L C hS hP hL) (fun q => kf q p e s m args below meth c H locs L C hS hP hL)
theorem q_icmp_gt {x y : Int32} {off : Int} {tgt : Nat} (hd : decode (mB M) pc = .ok (.if_icmp .gt off, 3)) (ht : (pc : Int) + off = (tgt : Int)) (kt : y < x → Go E M tgt ls st h r hr) (kf : ¬ y < x → Go E M (pc + 3) ls st h r hr) : Go E M pc ls (.int y :: .int x :: st) h r hr :=
  fun p e s m args below meth c H locs L C hS hP hL => lv_icmp_gt C.1 C.2.1 hd ht (fun q => kt q p e s m args below meth c H locs L C hS hP hL) (fun q => kf q p e s m args below meth c H locs L C hS hP hL)
theorem q_if_gt {x : Int32} {off : Int} {tgt : Nat} (hd : decode (mB M) pc = .ok (.ifCond .gt off, 3)) (ht : (pc : Int) + off = (tgt : Int)) (kt : 0 < x → Go E M tgt ls st h r hr) (kf : ¬ 0 < x → Go E M (pc + 3) ls st h r hr) : Go E M pc ls (.int x :: st) h r hr :=
  fun p e s m args below meth c H locs L C hS hP hL => lv_if_gt C.1 C.2.1 hd ht (fun q => kt q p e s m args below meth c H locs L C hS hP hL) (fun q => kf q p e s m args below meth c H locs L C hS hP hL)
theorem q_icmp_le {x y : Int32} {off : Int} {tgt : Nat} (hd : decode (mB M) pc = .ok (.if_icmp .le off, 3)) (ht : (pc : Int) + off = (tgt : Int)) (kt : x ≤ y → Go E M tgt ls st h r hr) (kf : ¬ x ≤ y → Go E M (pc + 3) ls st h r hr) : Go E M pc ls (.int y :: .int x :: st) h r hr :=
  fun p e s m args below meth c H locs L C hS hP hL => lv_icmp_le C.1 C.2.1 hd ht (fun q => kt q p e s m args below meth c H locs L C hS hP hL) (fun q => kf q p e s m args below meth c H locs L C hS hP hL)
theorem q_if_le {x : Int32} {off : Int} {tgt : Nat} (hd : decode (mB M) pc = .ok (.ifCond .le off, 3)) (ht : (pc : Int) + off = (tgt : Int)) (kt : x ≤ 0 → Go E M tgt ls st h r hr) (kf : ¬ x ≤ 0 → Go E M (pc + 3) ls st h r hr) : Go E M pc ls (.int x :: st) h r hr :=
  fun p e s m args below meth c H locs L C hS hP hL => lv_if_le C.1 C.2.1 hd ht (fun q => kt q p e s m args below meth c H locs L C hS hP hL) (fun q => kf q p e s m args below meth c H locs L C hS hP hL)
end GO
end
section
/-! fields, arrays, returns, calls -/
section GO
variable {E : pE} {M : MI} {pc : Nat} {ls : List (Option Value)} {st : List Value} {h h' hr : pH} {r : Option Value}
theorem q_getf (hM : MOK M) {i c k o : Nat} (hf : mF M i = some (c, k)) (ho : ak o = 0 ∧ cx o = c) {v : Value} (hv : fv (eA E) h o k ((KF.getD c []).getD k 9) = vm (eA E) v) (h9 : (KF.getD c []).getD k 9 ≠ 9)
    (hd : decode (mB M) pc = .ok (.getfield i, 3)) (kk : Go E M (pc + 3) ls (v :: st) h r hr) : Go E M pc ls (.ref o :: st) h r hr := by
  intro p e s m args below meth cc H locs L C hS hP hL
  obtain ⟨q, hc, hk, hl⟩ := hM.2.2.2.2.2.1 i c k hf
  obtain ⟨ty, hi, -, -, -, -⟩ := cl_ok hc
  have hlt : o < NO := ob_lt (by rw [ho.1]; decide)
  have he := wl_at (ad := eA E) (tc := eC E) (h := h) hlt
  rw [cellE_0 ho.1, ho.2] at he
  have hfv := fvs_at (ad := eA E) (h := h) (o := o) h9
  rw [hv] at hfv
  exact va_get (D := eD E) (ci := c) (v := vm (eA E) v) (C := q.1) (T := q.2.1) (N := q.2.2) C.1 C.2.1 C.2.2.2.2.2.1 (fun w hw => List.mem_cons_of_mem _ (hi w hw)) C.2.2.2.2.1 C.2.2.2.2.2.2.2.1 hP o he hc k hk (C.2.2.2.2.2.1 _ (List.mem_cons_of_mem _ hl)) (fun _ h9 => h9) hfv hd
    (kk p e s m args below meth cc H locs L C hS hP hL)
theorem q_getI (hM : MOK M) {i c k o : Nat} (hf : mF M i = some (c, k)) (hk : (KF.getD c []).getD k 9 = 0 ∨ (KF.getD c []).getD k 9 = 3) (ho : ak o = 0 ∧ cx o = c) (hd : decode (mB M) pc = .ok (.getfield i, 3)) (kk : Go E M (pc + 3) ls (.int (hI h o k) :: st) h r hr) : Go E M pc ls (.ref o :: st) h r hr :=
  q_getf hM hf ho (by rcases hk with q | q <;> rw [q] <;> rfl) (by rcases hk with q | q <;> rw [q] <;> decide) hd kk
theorem q_getL (hM : MOK M) {i c k o : Nat} (hf : mF M i = some (c, k)) (hk : (KF.getD c []).getD k 9 = 1) (ho : ak o = 0 ∧ cx o = c) (hd : decode (mB M) pc = .ok (.getfield i, 3)) (kk : Go E M (pc + 3) ls (.long (hL h o k) :: st) h r hr) : Go E M pc ls (.ref o :: st) h r hr :=
  q_getf hM hf ho (by rw [hk]; rfl) (by rw [hk]; decide) hd kk
theorem q_getR (hM : MOK M) {i c k o : Nat} (hf : mF M i = some (c, k)) (hk : (KF.getD c []).getD k 9 = 2) (ho : ak o = 0 ∧ cx o = c) (hd : decode (mB M) pc = .ok (.getfield i, 3)) (kk : Go E M (pc + 3) ls (.ref (rf o k) :: st) h r hr) : Go E M pc ls (.ref o :: st) h r hr :=
  q_getf hM hf ho (by rw [hk]; rfl) (by rw [hk]; decide) hd kk
theorem q_putf (hM : MOK M) {i c k o : Nat} (hf : mF M i = some (c, k)) (ho : ak o = 0 ∧ cx o = c) {v : Value} {h1 : pH} (hset : (fvs (eA E) h o c).set k v = fvs (eA E) h1 o c) (hwl : ∀ e, cellE (eA E) (eC E) h1 o = e → (wl (eA E) (eC E) h).set o (eA E o, e) = wl (eA E) (eC E) h1)
    (hty : ∀ (q : vw_C) (ty : Nat → FieldType), classes[c]? = some q → (∀ k, k < q.2.2 → ((KF.getD c []).getD k 9 = 0 → ty k = .int ∧ (q.2.1 k).2.2.2 = false) ∧ ((KF.getD c []).getD k 9 = 1 → ty k = .long ∧ (q.2.1 k).2.2.2 = false) ∧ ((KF.getD c []).getD k 9 = 3 → ty k = .boolean ∧ (q.2.1 k).2.2.2 = false)) → k < q.2.2 → (q.2.1 k).2.2.2 = false ∧ narrow (ty k) v = v ∧ fits (ty k) v = true) (hvm : vm (eA E) v = v)
    (hd : decode (mB M) pc = .ok (.putfield i, 3)) (kk : Go E M (pc + 3) ls st h1 r hr) : Go E M pc ls (v :: .ref o :: st) h r hr := by
  intro p e s m args below meth cc H locs L C hS hP hL
  obtain ⟨q, hc, hk, hl⟩ := hM.2.2.2.2.2.1 i c k hf
  obtain ⟨ty, hi, hty0, hnm, hlen, hkk⟩ := cl_ok hc
  obtain ⟨hfin, hn, hfit⟩ := hty q ty hc hkk hk
  have hlt : o < NO := ob_lt (by rw [ho.1]; decide)
  have he := wl_at (ad := eA E) (tc := eC E) (h := h) hlt
  rw [cellE_0 ho.1, ho.2] at he
  show W _ _ _ _ _ _ _ _ _ _ _ _ _ _ _ (F0 m pc L (vm (eA E) v :: .ref (eA E o) :: st.map (vm (eA E))))
  rw [hvm]
  refine va_put (D := eD E) (ci := c) (v := v) (ty := ty k) (C := q.1) (T := q.2.1) (N := q.2.2) C.1 C.2.1 C.2.2.2.2.2.1 (fun w hw => List.mem_cons_of_mem _ (hi w hw)) ty hty0 hnm C.2.2.2.2.1 C.2.2.2.2.2.2.2.1 hP (wl_D C.2.2.2.2.2.2.2 h) hS o he hc k hk (C.2.2.2.2.2.1 _ (List.mem_cons_of_mem _ hl)) (fun _ h9 => h9) hfin (hty0 k hk) hn hfit (by rw [fvs, List.length_mapIdx, hlen]; exact hk) hd (fun H1 locs1 hP1 hD1 hS1 => ?_)
  rw [hset] at hP1
  have e2 : cellE (eA E) (eC E) h1 o = .inr (c, fvs (eA E) h1 o c) := by rw [cellE_0 ho.1, ho.2]
  rw [hwl _ e2] at hP1
  exact kk p e s m args below meth cc H1 locs1 L C hS1 hP1 hL
theorem q_putI (hM : MOK M) {i c k o : Nat} {v : Int32} (hf : mF M i = some (c, k)) (hk : (KF.getD c []).getD k 9 = 0) (ho : ak o = 0 ∧ cx o = c) (hd : decode (mB M) pc = .ok (.putfield i, 3)) (kk : Go E M (pc + 3) ls st (sI h o k v) r hr) : Go E M pc ls (.int v :: .ref o :: st) h r hr :=
  q_putf hM hf ho (fvs_setI (by rw [hk]; decide) (by rw [hk]; decide) (by rw [hk]; decide)) (fun e he => wl_sI he) (fun q ty hc hkk hlt => by
    obtain ⟨e1, e2⟩ := (hkk k hlt).1 hk
    rw [e1]
    exact ⟨e2, rfl, rfl⟩) rfl hd kk
theorem q_putZ (hM : MOK M) {i c k o : Nat} {v : Int32} (hv : v = 0 ∨ v = 1) (hf : mF M i = some (c, k)) (hk : (KF.getD c []).getD k 9 = 3) (ho : ak o = 0 ∧ cx o = c) (hd : decode (mB M) pc = .ok (.putfield i, 3)) (kk : Go E M (pc + 3) ls st (sI h o k v) r hr) : Go E M pc ls (.int v :: .ref o :: st) h r hr :=
  q_putf hM hf ho (fvs_setI (by rw [hk]; decide) (by rw [hk]; decide) (by rw [hk]; decide)) (fun e he => wl_sI he) (fun q ty hc hkk hlt => by
    obtain ⟨e1, e2⟩ := (hkk k hlt).2.2 hk
    rw [e1]
    rcases hv with rfl | rfl <;> exact ⟨e2, by decide +kernel, by decide +kernel⟩) rfl hd kk
theorem q_putL (hM : MOK M) {i c k o : Nat} {v : Int64} (hf : mF M i = some (c, k)) (hk : (KF.getD c []).getD k 9 = 1) (ho : ak o = 0 ∧ cx o = c) (hd : decode (mB M) pc = .ok (.putfield i, 3)) (kk : Go E M (pc + 3) ls st (sL h o k v) r hr) : Go E M pc ls (.long v :: .ref o :: st) h r hr :=
  q_putf hM hf ho (fvs_setL hk) (fun e he => wl_sL he) (fun q ty hc hkk hlt => by
    obtain ⟨e1, e2⟩ := (hkk k hlt).2.1 hk
    rw [e1]
    exact ⟨e2, rfl, rfl⟩) rfl hd kk
theorem q_iald {o : Nat} {i : Int32} (ho : ak o = 1) (hin : ¬ (i < 0 ∨ cx o ≤ i.toNatClampNeg)) (hd : decode (mB M) pc = .ok (.iaload, 1)) (kk : Go E M (pc + 1) ls (.int (hI h o i.toNatClampNeg) :: st) h r hr) : Go E M pc ls (.int i :: .ref o :: st) h r hr := by
  intro p e s m args below meth cc H locs L C hS hP hL
  have he := wl_at (ad := eA E) (tc := eC E) (h := h) (ob_lt (by rw [ho]; decide))
  rw [cellE_1 ho] at he
  exact va_iald C.1 C.2.1 C.2.2.2.2.2.2.2.1 hP o 0 he rfl hin hd (kk p e s m args below meth cc H locs L C hS hP hL)
theorem q_bald {o : Nat} {i : Int32} (ho : ak o = 2) (hin : ¬ (i < 0 ∨ cx o ≤ i.toNatClampNeg)) (hd : decode (mB M) pc = .ok (.baload, 1)) (kk : Go E M (pc + 1) ls (.int (hI h o i.toNatClampNeg) :: st) h r hr) : Go E M pc ls (.int i :: .ref o :: st) h r hr := by
  intro p e s m args below meth cc H locs L C hS hP hL
  have he := wl_at (ad := eA E) (tc := eC E) (h := h) (ob_lt (by rw [ho]; decide))
  rw [cellE_2 ho] at he
  exact va_bald C.1 C.2.1 C.2.2.2.2.2.2.2.1 hP o 1 he rfl hin hd (kk p e s m args below meth cc H locs L C hS hP hL)
theorem q_zald {o : Nat} {i : Int32} (ho : ak o = 3) (hin : ¬ (i < 0 ∨ cx o ≤ i.toNatClampNeg)) (hd : decode (mB M) pc = .ok (.baload, 1)) (kk : Go E M (pc + 1) ls (.int (hI h o i.toNatClampNeg) :: st) h r hr) : Go E M pc ls (.int i :: .ref o :: st) h r hr := by
  intro p e s m args below meth cc H locs L C hS hP hL
  have he := wl_at (ad := eA E) (tc := eC E) (h := h) (ob_lt (by rw [ho]; decide))
  rw [cellE_3 ho] at he
  exact va_zald C.1 C.2.1 C.2.2.2.2.2.2.2.1 hP o 2 he rfl hin hd (kk p e s m args below meth cc H locs L C hS hP hL)
theorem q_lald {o : Nat} {i : Int32} (ho : ak o = 4) (hin : ¬ (i < 0 ∨ cx o ≤ i.toNatClampNeg)) (hd : decode (mB M) pc = .ok (.laload, 1)) (kk : Go E M (pc + 1) ls (.long (hL h o i.toNatClampNeg) :: st) h r hr) : Go E M pc ls (.int i :: .ref o :: st) h r hr := by
  intro p e s m args below meth cc H locs L C hS hP hL
  have he := wl_at (ad := eA E) (tc := eC E) (h := h) (ob_lt (by rw [ho]; decide))
  rw [cellE_4 ho] at he
  exact va_lald C.1 C.2.1 C.2.2.2.2.2.2.2.1 hP o 3 he rfl hin hd (kk p e s m args below meth cc H locs L C hS hP hL)
theorem q_aald {o : Nat} {i : Int32} (ho : ak o = 5) (hin : ¬ (i < 0 ∨ cx o ≤ i.toNatClampNeg)) (hd : decode (mB M) pc = .ok (.aaload, 1)) (kk : Go E M (pc + 1) ls (.ref (rf o i.toNatClampNeg) :: st) h r hr) : Go E M pc ls (.int i :: .ref o :: st) h r hr := by
  intro p e s m args below meth cc H locs L C hS hP hL
  have he := wl_at (ad := eA E) (tc := eC E) (h := h) (ob_lt (by rw [ho]; decide))
  rw [cellE_5 ho] at he
  have hlt : i.toNatClampNeg < cx o := Nat.not_le.mp fun q => hin (Or.inr q)
  have hK := C.2.2.2.2.2.2.2.1
  refine W.aald (v := .ref (eA E (rf o i.toNatClampNeg))) (ty := .array .int) C.1 C.2.1 (hP o _ he) ((hK.2 4 (eC E 5, .array .int) rfl).1 (cx o) (fun j => va_rf (if j < cx o then some (eA E (rf o j)) else none))) rfl (fun q => by cases q) ?_ ?_ rfl rfl hd (kk p e s m args below meth cc H locs L C hS hP hL)
  · show ¬ (i < 0 ∨ (arrV _ _ _).slots.size ≤ _)
    rw [arrV_size]
    exact hin
  · show (arrV _ _ _).slots[_]? = _
    rw [arrV_read _ _ hlt]
    simp only [if_pos hlt]
    rfl
theorem q_alen {o : Nat} {v : Int32} (ho : ak o = 1 ∨ ak o = 5) (hv : Int32.ofNat (cx o) = v) (hd : decode (mB M) pc = .ok (.arraylength, 1)) (kk : Go E M (pc + 1) ls (.int v :: st) h r hr) : Go E M pc ls (.ref o :: st) h r hr := by
  intro p e s m args below meth cc H locs L C hS hP hL
  rcases ho with ho | ho
  · have he := wl_at (ad := eA E) (tc := eC E) (h := h) (ob_lt (by rw [ho]; decide))
    rw [cellE_1 ho] at he
    exact va_alen C.1 C.2.1 C.2.2.2.2.2.2.2.1 hP o 0 he rfl hv hd (kk p e s m args below meth cc H locs L C hS hP hL)
  · have he := wl_at (ad := eA E) (tc := eC E) (h := h) (ob_lt (by rw [ho]; decide))
    rw [cellE_5 ho] at he
    exact va_alen C.1 C.2.1 C.2.2.2.2.2.2.2.1 hP o 4 he rfl hv hd (kk p e s m args below meth cc H locs L C hS hP hL)
theorem sI_self {h : pH} {o k : Nat} {v : Int32} : (sI h o k v).1 o = upd (h.1 o) k v := if_pos rfl
theorem sL_self {h : pH} {o k : Nat} {v : Int64} : (sL h o k v).2 o = vp_updL (h.2 o) k v := if_pos rfl
theorem q_iast {o : Nat} {i x : Int32} (ho : ak o = 1) (hin : ¬ (i < 0 ∨ cx o ≤ i.toNatClampNeg)) (hd : decode (mB M) pc = .ok (.iastore, 1)) (kk : Go E M (pc + 1) ls st (sI h o i.toNatClampNeg x) r hr) : Go E M pc ls (.int x :: .int i :: .ref o :: st) h r hr := by
  intro p e s m args below meth cc H locs L C hS hP hL
  have he := wl_at (ad := eA E) (tc := eC E) (h := h) (ob_lt (by rw [ho]; decide))
  rw [cellE_1 ho] at he
  refine va_iast C.1 C.2.1 C.2.2.2.2.2.2.2.1 hP (wl_D C.2.2.2.2.2.2.2 h) hS o 0 he rfl hin hd (fun H1 locs1 hP1 hD1 hS1 => ?_)
  rw [wl_sI (k := i.toNatClampNeg) (v := x) (by rw [cellE_1 ho, sI_self])] at hP1
  exact kk p e s m args below meth cc H1 locs1 L C hS1 hP1 hL
theorem q_bast {o : Nat} {i x : Int32} (ho : ak o = 2) (hin : ¬ (i < 0 ∨ cx o ≤ i.toNatClampNeg)) (hd : decode (mB M) pc = .ok (.bastore, 1)) (kk : Go E M (pc + 1) ls st (sI h o i.toNatClampNeg (vp_nar .byte x)) r hr) : Go E M pc ls (.int x :: .int i :: .ref o :: st) h r hr := by
  intro p e s m args below meth cc H locs L C hS hP hL
  have he := wl_at (ad := eA E) (tc := eC E) (h := h) (ob_lt (by rw [ho]; decide))
  rw [cellE_2 ho] at he
  refine va_bast C.1 C.2.1 C.2.2.2.2.2.2.2.1 hP (wl_D C.2.2.2.2.2.2.2 h) hS o 1 he rfl hin hd (fun H1 locs1 hP1 hD1 hS1 => ?_)
  rw [wl_sI (k := i.toNatClampNeg) (v := vp_nar .byte x) (by rw [cellE_2 ho, sI_self])] at hP1
  exact kk p e s m args below meth cc H1 locs1 L C hS1 hP1 hL
theorem q_zast {o : Nat} {i x : Int32} (ho : ak o = 3) (hin : ¬ (i < 0 ∨ cx o ≤ i.toNatClampNeg)) (hd : decode (mB M) pc = .ok (.bastore, 1)) (kk : Go E M (pc + 1) ls st (sI h o i.toNatClampNeg (vp_nar .boolean x)) r hr) : Go E M pc ls (.int x :: .int i :: .ref o :: st) h r hr := by
  intro p e s m args below meth cc H locs L C hS hP hL
  have he := wl_at (ad := eA E) (tc := eC E) (h := h) (ob_lt (by rw [ho]; decide))
  rw [cellE_3 ho] at he
  refine va_zast C.1 C.2.1 C.2.2.2.2.2.2.2.1 hP (wl_D C.2.2.2.2.2.2.2 h) hS o 2 he rfl hin hd (fun H1 locs1 hP1 hD1 hS1 => ?_)
  rw [wl_sI (k := i.toNatClampNeg) (v := vp_nar .boolean x) (by rw [cellE_3 ho, sI_self])] at hP1
  exact kk p e s m args below meth cc H1 locs1 L C hS1 hP1 hL
theorem q_last {o : Nat} {i : Int32} {x : Int64} (ho : ak o = 4) (hin : ¬ (i < 0 ∨ cx o ≤ i.toNatClampNeg)) (hd : decode (mB M) pc = .ok (.lastore, 1)) (kk : Go E M (pc + 1) ls st (sL h o i.toNatClampNeg x) r hr) : Go E M pc ls (.long x :: .int i :: .ref o :: st) h r hr := by
  intro p e s m args below meth cc H locs L C hS hP hL
  have he := wl_at (ad := eA E) (tc := eC E) (h := h) (ob_lt (by rw [ho]; decide))
  rw [cellE_4 ho] at he
  refine va_last C.1 C.2.1 C.2.2.2.2.2.2.2.1 hP (wl_D C.2.2.2.2.2.2.2 h) hS o 3 he rfl hin hd (fun H1 locs1 hP1 hD1 hS1 => ?_)
  rw [wl_sL (k := i.toNatClampNeg) (v := x) (by rw [cellE_4 ho, sL_self])] at hP1
  exact kk p e s m args below meth cc H1 locs1 L C hS1 hP1 hL
/-! returns -/
theorem q_iret {v : Int32} (hr0 : mR M = some .int) (hv : r = some (.int v)) (hh : hr = h) (hd : decode (mB M) pc = .ok (.ireturn, 1)) : Go E M pc ls [.int v] h r hr := by
  subst hv; subst hh
  intro p e s m args below meth cc H locs L C hS hP hL
  have hlocks := C.2.2.2.2.2.2.1
  exact W.iret C.1 C.2.1 (C.2.2.1.trans hr0) (fun t ht hW => ⟨⟨rfl, by rw [PP, ht]; exact hP⟩, hS.F ht⟩) hS.2.2 hd
theorem q_zret {v : Int32} (hr0 : mR M = some .boolean) (hb : v = 0 ∨ v = 1) (hv : r = some (.int v)) (hh : hr = h) (hd : decode (mB M) pc = .ok (.ireturn, 1)) : Go E M pc ls [.int v] h r hr := by
  subst hv; subst hh
  intro p e s m args below meth cc H locs L C hS hP hL
  have hlocks := C.2.2.2.2.2.2.1
  exact W.zret (ty := .boolean) C.1 C.2.1 (C.2.2.1.trans hr0) (by rcases hb with rfl | rfl <;> decide +kernel) (fun t ht hW => ⟨⟨rfl, by rw [PP, ht]; exact hP⟩, hS.F ht⟩) hS.2.2 hd
theorem q_lret {v : Int64} (hr0 : mR M = some .long) (hv : r = some (.long v)) (hh : hr = h) (hd : decode (mB M) pc = .ok (.lreturn, 1)) : Go E M pc ls [.long v] h r hr := by
  subst hv; subst hh
  intro p e s m args below meth cc H locs L C hS hP hL
  have hlocks := C.2.2.2.2.2.2.1
  exact W.lret C.1 C.2.1 (C.2.2.1.trans hr0) (fun t ht hW => ⟨⟨rfl, by rw [PP, ht]; exact hP⟩, hS.F ht⟩) hS.2.2 hd
theorem q_vret (hr0 : mR M = none) (hv : r = none) (hh : hr = h) (hd : decode (mB M) pc = .ok (.return_, 1)) : Go E M pc ls [] h r hr := by
  subst hv; subst hh
  intro p e s m args below meth cc H locs L C hS hP hL
  have hlocks := C.2.2.2.2.2.2.1
  exact W.vret C.1 C.2.1 (C.2.2.1.trans hr0) (fun t ht hW => ⟨⟨rfl, by rw [PP, ht]; exact hP⟩, hS.F ht⟩) hS.2.2 hd
end GO
end
section
/-! calls -/
/-- the words of a call -/
def LkV (M M' : MI) (i n : Nat) : Prop := Cond.methodLink (mO M) i (mY M') ∈ LT ∧ Cond.instanceMethod (mY M') ∈ LT ∧ Cond.selects (mO M') (mY M') (mY M') ∈ LT ∧ Cond.initialized (mO M') ∈ LT ∧ ((mY M').cls ≠ "java/lang/invoke/MethodHandle" ∧ (mY M').cls ≠ "java/lang/invoke/VarHandle" ∧ (parseMethodDescriptor (mY M').desc).map (fun d => d.parameters.length) = some n) ∧ (mRm M').frames + 1 ≤ (mRm M).frames ∧ 8 + (mL M' + 11) + (mRm M').locals ≤ (mRm M).locals
def LkS (M M' : MI) (i n : Nat) : Prop := Cond.methodLink (mO M) i (mY M') ∈ LT ∧ Cond.static (mY M') ∈ LT ∧ Cond.initialized (mO M') ∈ LT ∧ ((mY M').cls ≠ "java/lang/invoke/MethodHandle" ∧ (mY M').cls ≠ "java/lang/invoke/VarHandle" ∧ (parseMethodDescriptor (mY M').desc).map (fun d => d.parameters.length) = some n) ∧ (mRm M').frames + 1 ≤ (mRm M).frames ∧ 8 + (mL M' + 11) + (mRm M').locals ≤ (mRm M).locals
def LkSN (M M' : MI) (i n : Nat) (host : String) : Prop := Cond.methodLinkNest (mO M) i (mY M') host ∈ LT ∧ Cond.static (mY M') ∈ LT ∧ Cond.initialized (mO M') ∈ LT ∧ ((mY M').cls ≠ "java/lang/invoke/MethodHandle" ∧ (mY M').cls ≠ "java/lang/invoke/VarHandle" ∧ (parseMethodDescriptor (mY M').desc).map (fun d => d.parameters.length) = some n) ∧ (mRm M').frames + 1 ≤ (mRm M).frames ∧ 8 + (mL M' + 11) + (mRm M').locals ≤ (mRm M).locals
theorem goodM {M M' : MI} (hM' : MOK M') : GoodIn (wsM M) (wsM M') := fun w hw => by
  rcases List.mem_cons.mp hw with rfl | hw
  · exact ⟨List.mem_cons_of_mem _ hM'.2.1, LT_good _ hM'.2.1⟩
  · exact ⟨List.mem_cons_of_mem _ hw, LT_good _ hw⟩
section GO
variable {E : pE} {M M' : MI} {pc : Nat} {ls : List (Option Value)} {st : List Value} {h h' hr h1 : pH} {r rv : Option Value}
theorem pc_blind {as : List Value} : FrameBlind (fun v U => v = (as.map (vm (eA E))).toArray ∧ PP E h U.heap ∧ GE E U) := by
  intro a U g mk q
  obtain ⟨q1, q2, q3, q4, q5⟩ := q
  exact ⟨q1, q2, va_K.moved (u := U) (U := U.calling g mk a) (Vm.Alike.refl U.vm) q3, ⟨q4.1.moved (Vm.Alike.refl U.vm), q4.2.1.same rfl, q4.2.2.same rfl⟩, q5⟩
theorem run_W {p : Program} {e : Env} {s : State} {m : MethodId} {args a : Array Value} {below : List Frame} {meth : Method} {c : Code} {H : Heap} {locs : List Loc} {L : Array Slot} {st0 rest : List Value} {l : Launch} {R : Room} {Q : State → Prop}
    (hrun : va_Run p l e R s m args below meth c H locs 0 0 0 0 (F0 m pc L st0) rest (QQ E rv h1 a) (wA (eA E))) (hS : va_S (wA (eA E)) s.heap H locs)
    (kk : ∀ (H1 : Heap) (locs1 : List Loc), va_S (wA (eA E)) s.heap H1 locs1 → PP E h1 H1 → W p l e R s m args below meth c H1 locs1 0 0 Q (F0 m (pc + 3) L (rv.toList ++ rest))) : W p l e R s m args below meth c H locs 0 0 Q (F0 m pc L st0) := by
  intro T hT X
  obtain ⟨v, st₀, t, T', L1, h0, X', hL, e1, e2, ⟨⟨hv, hp⟩, hz, hk⟩, stp⟩ := hrun T hT X
  cases hv
  rw [h0] at hz hk
  obtain ⟨t2, a1, b1⟩ := kk T'.heap (locs ++ L1)
    ⟨Nat.le_trans hS.1 (by rw [e1]; exact hz), fun q h1 h2 => by rw [e1, hk q (Nat.lt_of_lt_of_le h1 hS.1) h2]; exact hS.2.1 q h1 h2, fun q hq => by
      rcases List.mem_append.mp hq with h | h
      · exact hS.2.2 q h
      · exact hL q h⟩ (by rw [PP, e1]; exact hp) T' rfl X'
  exact ⟨t2, stp t2 a1, b1⟩
theorem pre_at {p : Program} {s : State} {m : MethodId} {args : Array Value} {meth : Method} {c : Code} {H : Heap} {locs : List Loc} (C : CX E M p s m args meth c) (hS : va_S (wA (eA E)) s.heap H locs) (hP : PP E h H) (as : List Value) (U : State) (hU : U.heap = H) (hW : s.WarmedH U.vm) :
    (fun v U => v = (as.map (vm (eA E))).toArray ∧ PP E h U.heap ∧ GE E U) (as.map (vm (eA E))).toArray U :=
  ⟨rfl, by rw [PP, hU]; exact hP, C.2.2.2.2.2.2.2.moved hW (fun a ha hn => by rw [hU]; exact hS.2.1 a ha hn)⟩
theorem cat_map (ad : Nat → Nat) (st : List Value) : ((st.map (vm ad)).map fun v => v.category) = st.map fun v => v.category := by
  rw [List.map_map]
  apply List.map_congr_left
  intro v _
  exact vm_cat ad v
theorem cat_app (ad : Nat → Nat) (rv : Option Value) (hv : ∀ v, rv = some v → vm ad v = v) (st : List Value) : rv.toList ++ st.map (vm ad) = (rv.toList ++ st).map (vm ad) := by
  cases rv with
  | none => rfl
  | some v => simp [hv v rfl]
theorem q_callV (hM' : MOK M') {i n o ci : Nat} {as : List Value} (hlk : LkV M M' i n) (ct : Ct E M' (.ref o :: as) h rv h1) (hn : as.length = n) (ho : ak o = 0 ∧ cx o = ci) (hci : (classes[ci]?).map (·.1) = some (mO M')) (hv : ∀ v, rv = some v → vm (eA E) v = v) (hcat : (st.map fun v => v.category).sum ≤ 8) (hd : decode (mB M) pc = .ok (.invokevirtual i, 3)) {st0 : List Value} (hst : as.reverse ++ .ref o :: st = st0)
    (kk : Go E M (pc + 3) ls (rv.toList ++ st) h1 r hr) : Go E M pc ls st0 h r hr := by
  subst hst
  intro p e s m args below meth cc H locs L C hS hP hL
  have hts := C.2.2.2.2.2.1
  have hlt : o < NO := ob_lt (by rw [ho.1]; decide)
  have he := wl_at (ad := eA E) (tc := eC E) (h := h) hlt
  rw [cellE_0 ho.1, ho.2] at he
  obtain ⟨q, hq, hqn⟩ := Option.map_eq_some_iff.mp hci
  refine run_W (rv := rv) (h1 := h1) (a := (Value.ref (eA E o) :: as.map (vm (eA E))).toArray) (rest := st.map (vm (eA E))) (va_runV (As := as.map (vm (eA E))) (b := eA E o) (C := mO M') (n := n) (bytes := mB M') (maxL := mL M') (ret := mR M') (index := i) ⟨C.1, C.2.1, C.2.2.2.1, C.2.2.2.2.1, hts⟩ ct (cwV n hts ?_ rfl hM'.2.2.2.1 hM'.2.2.2.2.1 ⟨hM'.2.2.1, hlk.2.2.2.2.1⟩ hlk.2.2.2.2.2) ⟨pc_blind, ?_, fun U hU hW => ?_⟩ rfl (by rw [List.length_map]; exact hn) hL.1 ?_ (lv_room (by rw [cat_map]; exact hcat)) hd ⟨Nat.zero_le _, Nat.zero_le _⟩) hS (fun H1 locs1 hS1 hP1 => ?_)
  · intro w hw
    rcases List.mem_append.mp hw with hw | hw
    · have : w ∈ LT := by
        rcases List.mem_cons.mp hw with rfl | hw
        · exact hlk.1
        rcases List.mem_cons.mp hw with rfl | hw
        · exact hlk.2.1
        rcases List.mem_cons.mp hw with rfl | hw
        · exact hlk.2.2.1
        rcases List.mem_cons.mp hw with rfl | hw
        · exact hlk.2.2.2.1
        cases hw
      exact ⟨List.mem_cons_of_mem _ this, LT_good w this⟩
    · exact goodM hM' w hw
  · have := va_recv (C.2.2.2.2.2.2.2.1) hP (ci := ci) (q0 := o) hq he
    rw [hqn] at this
    exact this
  · exact pre_at C hS hP (.ref o :: as) U hU hW
  · show (as.reverse ++ .ref o :: st).map (vm (eA E)) = _
    rw [List.map_append, List.map_reverse]
    rfl
  · rw [cat_app _ _ hv]
    exact kk p e s m args below meth cc H1 locs1 L C hS1 hP1 hL
theorem q_callS (hM' : MOK M') {i n : Nat} {as : List Value} (hlk : LkS M M' i n) (ct : Ct E M' as h rv h1) (hn : as.length = n) (hv : ∀ v, rv = some v → vm (eA E) v = v) (hcat : (st.map fun v => v.category).sum ≤ 8) (hd : decode (mB M) pc = .ok (.invokestatic i, 3)) {st0 : List Value} (hst : as.reverse ++ st = st0)
    (kk : Go E M (pc + 3) ls (rv.toList ++ st) h1 r hr) : Go E M pc ls st0 h r hr := by
  subst hst
  intro p e s m args below meth cc H locs L C hS hP hL
  have hts := C.2.2.2.2.2.1
  refine run_W (rv := rv) (h1 := h1) (a := (as.map (vm (eA E))).toArray) (rest := st.map (vm (eA E))) (va_runS (As := as.map (vm (eA E))) (n := n) (bytes := mB M') (maxL := mL M') (ret := mR M') (index := i) ⟨C.1, C.2.1, C.2.2.2.1, C.2.2.2.2.1, hts⟩ ct ⟨callB_of n hts (goodM hM') rfl hM'.2.2.2.1 hM'.2.2.2.2.1 (by rw [hM'.2.2.1]; exact hts _ (List.mem_cons_of_mem _ hlk.2.2.1)) (hts _ (List.mem_cons_of_mem _ hlk.1)) hlk.2.2.2.1 hlk.2.2.2.2, hts _ (List.mem_cons_of_mem _ hlk.2.1)⟩ ⟨pc_blind, fun U hU hW => pre_at C hS hP as U hU hW⟩ rfl (by rw [List.length_map]; exact hn) hL.1 ?_ (lv_room (by rw [cat_map]; exact hcat)) hd ⟨Nat.zero_le _, Nat.zero_le _⟩) hS (fun H1 locs1 hS1 hP1 => ?_)
  · show (as.reverse ++ st).map (vm (eA E)) = _
    rw [List.map_append, List.map_reverse]
  · rw [cat_app _ _ hv]
    exact kk p e s m args below meth cc H1 locs1 L C hS1 hP1 hL
theorem q_callSN (hM' : MOK M') {i n : Nat} {host : String} {as : List Value} (hlk : LkSN M M' i n host) (ct : Ct E M' as h rv h1) (hn : as.length = n) (hv : ∀ v, rv = some v → vm (eA E) v = v) (hcat : (st.map fun v => v.category).sum ≤ 8) (hd : decode (mB M) pc = .ok (.invokestatic i, 3)) {st0 : List Value} (hst : as.reverse ++ st = st0)
    (kk : Go E M (pc + 3) ls (rv.toList ++ st) h1 r hr) : Go E M pc ls st0 h r hr := by
  subst hst
  intro p e s m args below meth cc H locs L C hS hP hL
  have hts := C.2.2.2.2.2.1
  refine run_W (rv := rv) (h1 := h1) (a := (as.map (vm (eA E))).toArray) (rest := st.map (vm (eA E))) (va_runSN (As := as.map (vm (eA E))) (n := n) (bytes := mB M') (maxL := mL M') (ret := mR M') (index := i) (host := host) ⟨C.1, C.2.1, C.2.2.2.1, C.2.2.2.2.1, hts⟩ ct ⟨va_cnB n hts (goodM hM') rfl hM'.2.2.2.1 hM'.2.2.2.2.1 ?_ (by rw [hM'.2.2.1]; exact hts _ (List.mem_cons_of_mem _ hlk.2.2.1)) hlk.2.2.2.1 hlk.2.2.2.2, hts _ (List.mem_cons_of_mem _ hlk.2.1), trivial⟩ ⟨pc_blind, fun U hU hW => pre_at C hS hP as U hU hW⟩ rfl (by rw [List.length_map]; exact hn) hL.1 ?_ (lv_room (by rw [cat_map]; exact hcat)) hd ⟨Nat.zero_le _, Nat.zero_le _⟩) hS (fun H1 locs1 hS1 hP1 => ?_)
  · exact va_tabs rfl rfl (hts _ (List.mem_cons_of_mem _ hlk.1))
  · show (as.reverse ++ st).map (vm (eA E)) = _
    rw [List.map_append, List.map_reverse]
  · rw [cat_app _ _ hv]
    exact kk p e s m args below meth cc H1 locs1 L C hS1 hP1 hL
/-! switches -/
theorem q_tableIn {d lo hi off : Int} {offs : Array Int} {len tgt : Nat} {x : Int32} (hd : decode (mB M) pc = .ok (.tableswitch d lo hi offs, len)) (h1 : ¬ x.toInt < lo) (h2 : ¬ hi < x.toInt) (ho : offs[(x.toInt - lo).toNat]? = some off) (ht : (pc : Int) + off = (tgt : Int)) (k : Go E M tgt ls st h r hr) : Go E M pc ls (.int x :: st) h r hr :=
  fun p e s m args below meth c H locs L C hS hP hL => lv_tableIn C.1 C.2.1 hd h1 h2 ho ht (k p e s m args below meth c H locs L C hS hP hL)
theorem q_tableOut {d lo hi : Int} {offs : Array Int} {len tgt : Nat} {x : Int32} (hd : decode (mB M) pc = .ok (.tableswitch d lo hi offs, len)) (h0 : x.toInt < lo ∨ hi < x.toInt) (ht : (pc : Int) + d = (tgt : Int)) (k : Go E M tgt ls st h r hr) : Go E M pc ls (.int x :: st) h r hr :=
  fun p e s m args below meth c H locs L C hS hP hL => lv_tableOut C.1 C.2.1 hd h0 ht (k p e s m args below meth c H locs L C hS hP hL)
theorem q_lookup {d off : Int} {ps : Array (Int × Int)} {len tgt : Nat} {x : Int32} (hd : decode (mB M) pc = .ok (.lookupswitch d ps, len)) (hp : (ps.toList.zip (ps.toList.drop 1)).all (fun (a, next) => a.1 < next.1) = true) (ho : Op.lookupswitch.offset ps.toList d x.toInt = off) (ht : (pc : Int) + off = (tgt : Int)) (k : Go E M tgt ls st h r hr) : Go E M pc ls (.int x :: st) h r hr :=
  fun p e s m args below meth c H locs L C hS hP hL => lv_lookup C.1 C.2.1 hd hp ho ht (k p e s m args below meth c H locs L C hS hP hL)
end GO
end
section
/-! many instructions at once -/
def ilen : Instr → Nat
  | .bipush _ => 2
  | .sipush _ => 3
  | .ldc _ => 2
  | .ldc_w _ => 3
  | .ldc2_w _ => 3
  | .iload _ => 2
  | .aload _ => 2
  | .lload _ => 2
  | .istore _ => 2
  | .astore _ => 2
  | .lstore _ => 2
  | .iinc _ _ => 3
  | .getfield _ => 3
  | .putfield _ => 3
  | .goto _ => 3
  | _ => 1
def codeB (b : ByteArray) : Nat → List Instr → Bool
  | _, [] => true
  | pc, i :: t => decide (decode b pc = .ok (i, ilen i)) && codeB b (pc + ilen i) t
def jshl (x y : Int32) : Int32 := x <<< (y &&& 31)
def jshr (x y : Int32) : Int32 := x >>> (y &&& 31)
def jushr (x y : Int32) : Int32 := (x.toUInt32 >>> (y.toUInt32 &&& Int32.toUInt32 31)).toInt32
def jrem (x y : Int32) : Int32 := x - x / y * y
def s1st (M : MI) (ls : List (Option Value)) (i : Nat) (v : Value) (r : List Value) (h : pH) : Option ((List (Option Value) × List Value × pH) × Option Prop) :=
  bif decide (i < mL M) && !wide ls i then some ((ls.set i (some v), r, h), none) else none
def s1st2 (M : MI) (ls : List (Option Value)) (i : Nat) (v : Value) (r : List Value) (h : pH) : Option ((List (Option Value) × List Value × pH) × Option Prop) :=
  bif decide (i + 1 < mL M) && !wide ls i then some (((ls.set i (some v)).set (i + 1) none, r, h), none) else none
def s1 (M : MI) (i : Instr) (ls : List (Option Value)) (st : List Value) (h : pH) : Option ((List (Option Value) × List Value × pH) × Option Prop) :=
  match i with
  | .iconst n => some ((ls, .int (Int32.ofInt n) :: st, h), none)
  | .bipush n => some ((ls, .int (Int8.ofInt n).toInt32 :: st, h), none)
  | .sipush n => some ((ls, .int (Int16.ofInt n).toInt32 :: st, h), none)
  | .lconst n => some ((ls, .long (Int64.ofNat n) :: st, h), none)
  | .ldc n => match mK M n with
    | some v => some ((ls, .int v :: st, h), none)
    | none => none
  | .ldc_w n => match mK M n with
    | some v => some ((ls, .int v :: st, h), none)
    | none => none
  | .iload_n n => match ls[n.val]? with
    | some (some (.int x)) => some ((ls, .int x :: st, h), none)
    | _ => none
  | .iload n => match ls[n]? with
    | some (some (.int x)) => some ((ls, .int x :: st, h), none)
    | _ => none
  | .aload_n n => match ls[n.val]? with
    | some (some (.ref x)) => some ((ls, .ref x :: st, h), none)
    | _ => none
  | .aload n => match ls[n]? with
    | some (some (.ref x)) => some ((ls, .ref x :: st, h), none)
    | _ => none
  | .lload_n n => match ls[n.val]? with
    | some (some (.long x)) => some ((ls, .long x :: st, h), none)
    | _ => none
  | .lload n => match ls[n]? with
    | some (some (.long x)) => some ((ls, .long x :: st, h), none)
    | _ => none
  | .istore_n n => match st with
    | .int x :: r => s1st M ls n.val (.int x) r h
    | _ => none
  | .istore n => match st with
    | .int x :: r => s1st M ls n (.int x) r h
    | _ => none
  | .astore_n n => match st with
    | .ref x :: r => s1st M ls n.val (.ref x) r h
    | _ => none
  | .astore n => match st with
    | .ref x :: r => s1st M ls n (.ref x) r h
    | _ => none
  | .lstore_n n => match st with
    | .long x :: r => s1st2 M ls n.val (.long x) r h
    | _ => none
  | .lstore n => match st with
    | .long x :: r => s1st2 M ls n (.long x) r h
    | _ => none
  | .iinc n c => match ls[n]? with
    | some (some (.int x)) => s1st M ls n (.int (x + Int32.ofInt c)) st h
    | _ => none
  | .iadd => match st with
    | .int y :: .int x :: r => some ((ls, .int (x + y) :: r, h), none)
    | _ => none
  | .isub => match st with
    | .int y :: .int x :: r => some ((ls, .int (x - y) :: r, h), none)
    | _ => none
  | .imul => match st with
    | .int y :: .int x :: r => some ((ls, .int (x * y) :: r, h), none)
    | _ => none
  | .iand => match st with
    | .int y :: .int x :: r => some ((ls, .int (x &&& y) :: r, h), none)
    | _ => none
  | .ior => match st with
    | .int y :: .int x :: r => some ((ls, .int (x ||| y) :: r, h), none)
    | _ => none
  | .ixor => match st with
    | .int y :: .int x :: r => some ((ls, .int (x ^^^ y) :: r, h), none)
    | _ => none
  | .ishl => match st with
    | .int y :: .int x :: r => some ((ls, .int (jshl x y) :: r, h), none)
    | _ => none
  | .ishr => match st with
    | .int y :: .int x :: r => some ((ls, .int (jshr x y) :: r, h), none)
    | _ => none
  | .iushr => match st with
    | .int y :: .int x :: r => some ((ls, .int (jushr x y) :: r, h), none)
    | _ => none
  | .idiv => match st with
    | .int y :: .int x :: r => some ((ls, .int (x / y) :: r, h), some (¬ y = 0))
    | _ => none
  | .irem => match st with
    | .int y :: .int x :: r => some ((ls, .int (jrem x y) :: r, h), some (¬ y = 0))
    | _ => none
  | .ineg => match st with
    | .int x :: r => some ((ls, .int (-x) :: r, h), none)
    | _ => none
  | .ladd => match st with
    | .long y :: .long x :: r => some ((ls, .long (x + y) :: r, h), none)
    | _ => none
  | .lmul => match st with
    | .long y :: .long x :: r => some ((ls, .long (x * y) :: r, h), none)
    | _ => none
  | .lcmp => match st with
    | .long y :: .long x :: r => some ((ls, .int (lg_cmp x y) :: r, h), none)
    | _ => none
  | .i2l => match st with
    | .int x :: r => some ((ls, .long x.toInt64 :: r, h), none)
    | _ => none
  | .i2b => match st with
    | .int x :: r => some ((ls, .int x.toInt8.toInt32 :: r, h), none)
    | _ => none
  | .dup => match st with
    | .int x :: r => some ((ls, .int x :: .int x :: r, h), none)
    | .ref x :: r => some ((ls, .ref x :: .ref x :: r, h), none)
    | _ => none
  | .dup2 => match st with
    | .int x :: .ref y :: r => some ((ls, .int x :: .ref y :: .int x :: .ref y :: r, h), none)
    | _ => none
  | .pop => match st with
    | .int _ :: r => some ((ls, r, h), none)
    | .ref _ :: r => some ((ls, r, h), none)
    | _ => none
  | .getfield n => match st with
    | .ref o :: r => match mF M n with
      | some (c, k) => match (KF.getD c []).getD k 9 with
        | 0 => some ((ls, .int (hI h o k) :: r, h), some (ak o = 0 ∧ cx o = c))
        | 3 => some ((ls, .int (hI h o k) :: r, h), some (ak o = 0 ∧ cx o = c))
        | 1 => some ((ls, .long (hL h o k) :: r, h), some (ak o = 0 ∧ cx o = c))
        | 2 => some ((ls, .ref (rf o k) :: r, h), some (ak o = 0 ∧ cx o = c))
        | _ => none
      | none => none
    | _ => none
  | .putfield n => match st with
    | .int v :: .ref o :: r => match mF M n with
      | some (c, k) => match (KF.getD c []).getD k 9 with
        | 0 => some ((ls, r, sI h o k v), some (ak o = 0 ∧ cx o = c))
        | 3 => some ((ls, r, sI h o k v), some ((ak o = 0 ∧ cx o = c) ∧ (v = 0 ∨ v = 1)))
        | _ => none
      | none => none
    | .long v :: .ref o :: r => match mF M n with
      | some (c, k) => match (KF.getD c []).getD k 9 with
        | 1 => some ((ls, r, sL h o k v), some (ak o = 0 ∧ cx o = c))
        | _ => none
      | none => none
    | _ => none
  | .iaload => match st with
    | .int i :: .ref o :: r => some ((ls, .int (hI h o i.toNatClampNeg) :: r, h), some (ak o = 1 ∧ ¬ (i < 0 ∨ cx o ≤ i.toNatClampNeg)))
    | _ => none
  | .baload => match st with
    | .int i :: .ref o :: r => some ((ls, .int (hI h o i.toNatClampNeg) :: r, h), some ((ak o = 2 ∨ ak o = 3) ∧ ¬ (i < 0 ∨ cx o ≤ i.toNatClampNeg)))
    | _ => none
  | .laload => match st with
    | .int i :: .ref o :: r => some ((ls, .long (hL h o i.toNatClampNeg) :: r, h), some (ak o = 4 ∧ ¬ (i < 0 ∨ cx o ≤ i.toNatClampNeg)))
    | _ => none
  | .aaload => match st with
    | .int i :: .ref o :: r => some ((ls, .ref (rf o i.toNatClampNeg) :: r, h), some (ak o = 5 ∧ ¬ (i < 0 ∨ cx o ≤ i.toNatClampNeg)))
    | _ => none
  | .arraylength => match st with
    | .ref o :: r => some ((ls, .int (Int32.ofNat (cx o)) :: r, h), some (ak o = 1 ∨ ak o = 5))
    | _ => none
  | .iastore => match st with
    | .int x :: .int i :: .ref o :: r => some ((ls, r, sI h o i.toNatClampNeg x), some (ak o = 1 ∧ ¬ (i < 0 ∨ cx o ≤ i.toNatClampNeg)))
    | _ => none
  | .bastore => match st with
    | .int x :: .int i :: .ref o :: r => match ak o with
      | 2 => some ((ls, r, sI h o i.toNatClampNeg (vp_nar .byte x)), some (¬ (i < 0 ∨ cx o ≤ i.toNatClampNeg)))
      | 3 => some ((ls, r, sI h o i.toNatClampNeg (vp_nar .boolean x)), some (¬ (i < 0 ∨ cx o ≤ i.toNatClampNeg)))
      | _ => none
    | _ => none
  | .lastore => match st with
    | .long x :: .int i :: .ref o :: r => some ((ls, r, sL h o i.toNatClampNeg x), some (ak o = 4 ∧ ¬ (i < 0 ∨ cx o ≤ i.toNatClampNeg)))
    | _ => none
  | _ => none
def gA (g : Option Prop) (P : Prop) : Prop := match g with
  | none => P
  | some q => q ∧ P
def slr (M : MI) : List Instr → Nat → List (Option Value) → List Value → pH → Option ((Nat × List (Option Value) × List Value × pH) × Prop)
  | [], pc, ls, st, h => some ((pc, ls, st, h), True)
  | i :: t, pc, ls, st, h => match s1 M i ls st h with
    | none => none
    | some ((ls1, st1, h1), g) => match slr M t (pc + ilen i) ls1 st1 h1 with
      | none => none
      | some (S, P) => some (S, gA g P)
section GO
variable {E : pE} {M : MI} {pc : Nat} {ls : List (Option Value)} {st : List Value} {h h' hr : pH} {r : Option Value}
theorem s1st_ok {i : Nat} {v : Value} {rr : List Value} {ls1 : List (Option Value)} {st1 : List Value} {h1 : pH} {g : Option Prop} (e : s1st M ls i v rr h = some ((ls1, st1, h1), g)) : i < mL M ∧ wide ls i = false ∧ ls1 = ls.set i (some v) ∧ st1 = rr ∧ h1 = h := by
  unfold s1st at e
  cases hc : (decide (i < mL M) && !wide ls i) with
  | false => rw [hc] at e; cases e
  | true =>
    rw [hc] at e
    cases e
    simp at hc
    exact ⟨hc.1, hc.2, rfl, rfl, rfl⟩
theorem s1st2_ok {i : Nat} {v : Value} {rr : List Value} {ls1 : List (Option Value)} {st1 : List Value} {h1 : pH} {g : Option Prop} (e : s1st2 M ls i v rr h = some ((ls1, st1, h1), g)) : i + 1 < mL M ∧ wide ls i = false ∧ ls1 = (ls.set i (some v)).set (i + 1) none ∧ st1 = rr ∧ h1 = h := by
  unfold s1st2 at e
  cases hc : (decide (i + 1 < mL M) && !wide ls i) with
  | false => rw [hc] at e; cases e
  | true =>
    rw [hc] at e
    cases e
    simp at hc
    exact ⟨hc.1, hc.2, rfl, rfl, rfl⟩
set_option maxHeartbeats 4000000 in
theorem s1_ok (hM : MOK M) {i : Instr} {ls1 : List (Option Value)} {st1 : List Value} {h1 : pH} {g : Option Prop} (e : s1 M i ls st h = some ((ls1, st1, h1), g)) (hd : decode (mB M) pc = .ok (i, ilen i)) {P : Prop} (hg : gA g P) (k : Go E M (pc + ilen i) ls1 st1 h1 r hr) : Go E M pc ls st h r hr := by
  unfold s1 at e
  split at e
  all_goals (try (cases e; done))
  · cases e; exact q_iconst hd k
  · cases e; exact q_bipush hd k
  · cases e; exact q_sipush hd k
  · cases e; exact q_lconst hd k
  · split at e
    · cases e; exact q_ldc hM (by assumption) hd k
    · cases e
  · split at e
    · cases e; exact q_ldcw hM (by assumption) hd k
    · cases e
  · split at e
    · cases e; exact q_iload_n (by assumption) hd k
    · cases e
  · split at e
    · cases e; exact q_iload (by assumption) hd k
    · cases e
  · split at e
    · cases e; exact q_aload_n (by assumption) hd k
    · cases e
  · split at e
    · cases e; exact q_aload (by assumption) hd k
    · cases e
  · split at e
    · cases e; exact q_lload_n (by assumption) hd k
    · cases e
  · split at e
    · cases e; exact q_lload (by assumption) hd k
    · cases e
  · split at e
    · obtain ⟨a1, a2, rfl, rfl, rfl⟩ := s1st_ok e; exact q_istore_n a1 a2 hd k
    · cases e
  · split at e
    · obtain ⟨a1, a2, rfl, rfl, rfl⟩ := s1st_ok e; exact q_istore a1 a2 hd k
    · cases e
  · split at e
    · obtain ⟨a1, a2, rfl, rfl, rfl⟩ := s1st_ok e; exact q_astore_n a1 a2 hd k
    · cases e
  · split at e
    · obtain ⟨a1, a2, rfl, rfl, rfl⟩ := s1st_ok e; exact q_astore a1 a2 hd k
    · cases e
  · split at e
    · obtain ⟨a1, a2, rfl, rfl, rfl⟩ := s1st2_ok e; exact q_lstore_n a1 a2 hd k
    · cases e
  · split at e
    · obtain ⟨a1, a2, rfl, rfl, rfl⟩ := s1st2_ok e; exact q_lstore a1 a2 hd k
    · cases e
  · split at e
    · obtain ⟨a1, a2, rfl, rfl, rfl⟩ := s1st_ok e; exact q_iinc (by assumption) a1 a2 hd k
    · cases e
  · split at e <;> cases e; exact q_iadd hd k
  · split at e <;> cases e; exact q_isub hd k
  · split at e <;> cases e; exact q_imul hd k
  · split at e <;> cases e; exact q_iand hd k
  · split at e <;> cases e; exact q_ior hd k
  · split at e <;> cases e; exact q_ixor hd k
  · split at e <;> cases e; exact q_ishl hd k
  · split at e <;> cases e; exact q_ishr hd k
  · split at e <;> cases e; exact q_iushr hd k
  · split at e <;> cases e; exact q_idiv hg.1 hd k
  · split at e <;> cases e; exact q_irem hg.1 hd k
  · split at e <;> cases e; exact q_ineg hd k
  · split at e <;> cases e; exact q_ladd hd k
  · split at e <;> cases e; exact q_lmul hd k
  · split at e <;> cases e; exact q_lcmp hd k
  · split at e <;> cases e; exact q_i2l hd k
  · split at e <;> cases e; exact q_i2b hd k
  · split at e <;> cases e <;> exact q_dup rfl hd k
  · split at e <;> cases e; exact q_dup2 rfl rfl hd k
  · split at e <;> cases e <;> exact q_pop rfl hd k
  · split at e
    · split at e
      · split at e
        · cases e; exact q_getI hM (by assumption) (Or.inl (by assumption)) hg.1 hd k
        · cases e; exact q_getI hM (by assumption) (Or.inr (by assumption)) hg.1 hd k
        · cases e; exact q_getL hM (by assumption) (by assumption) hg.1 hd k
        · cases e; exact q_getR hM (by assumption) (by assumption) hg.1 hd k
        · cases e
      · cases e
    · cases e
  · split at e
    · split at e
      · split at e
        · cases e; exact q_putI hM (by assumption) (by assumption) hg.1 hd k
        · cases e; exact q_putZ hM hg.1.2 (by assumption) (by assumption) hg.1.1 hd k
        · cases e
      · cases e
    · split at e
      · split at e
        · cases e; exact q_putL hM (by assumption) (by assumption) hg.1 hd k
        · cases e
      · cases e
    · cases e
  · split at e <;> cases e; exact q_iald hg.1.1 hg.1.2 hd k
  · split at e <;> cases e
    rcases hg.1.1 with q | q
    · exact q_bald q hg.1.2 hd k
    · exact q_zald q hg.1.2 hd k
  · split at e <;> cases e; exact q_lald hg.1.1 hg.1.2 hd k
  · split at e <;> cases e; exact q_aald hg.1.1 hg.1.2 hd k
  · split at e <;> cases e; exact q_alen hg.1 rfl hd k
  · split at e <;> cases e; exact q_iast hg.1.1 hg.1.2 hd k
  · split at e
    · split at e <;> cases e
      · exact q_bast (by assumption) hg.1 hd k
      · exact q_zast (by assumption) hg.1 hd k
    · cases e
  · split at e <;> cases e; exact q_last hg.1.1 hg.1.2 hd k
theorem gA_2 {g : Option Prop} {P : Prop} (h : gA g P) : P := by
  cases g with
  | none => exact h
  | some q => exact h.2
theorem sl_ok (hM : MOK M) : ∀ (is : List Instr) {pc : Nat} {ls : List (Option Value)} {st : List Value} {h : pH} {pc1 : Nat} {ls1 : List (Option Value)} {st1 : List Value} {h1 : pH} {P : Prop}, codeB (mB M) pc is = true → slr M is pc ls st h = some ((pc1, ls1, st1, h1), P) → P → Go E M pc1 ls1 st1 h1 r hr → Go E M pc ls st h r hr := by
  intro is
  induction is with
  | nil =>
    intro pc ls st h pc1 ls1 st1 h1 P hc e hP k
    cases e
    exact k
  | cons i t ih =>
    intro pc ls st h pc1 ls1 st1 h1 P hc e hP k
    unfold codeB at hc
    rw [Bool.and_eq_true] at hc
    unfold slr at e
    split at e
    · cases e
    · next ls2 st2 h2 g he =>
      split at e
      · cases e
      · next S P' hs =>
        cases e
        exact s1_ok hM he (of_decide_eq_true hc.1) hP (ih hc.2 hs (gA_2 hP) k)
end GO
end
