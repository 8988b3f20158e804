-- ===== PART A: goes FIRST, ahead of the names: the tables' words, and 'selects' of the private methods out of them =====
/-- a private method of a class that the tables say can be made, by its rows of tables_1 -/
def lw_okq (q : MethodName × Nat) : Prop := (q.1.cls ≠ "java/lang/invoke/MethodHandle" ∧ q.1.cls ≠ "java/lang/invoke/VarHandle") ∧ Cond.instantiable q.1.cls q.2 ∈ tables_1 ∧ Cond.privateMethod q.1 ∈ tables_1 ∧ Cond.instanceMethod q.1 ∈ tables_1
theorem lw_p0 : lw_okq (⟨"GhostCoast", "found", "(I)I"⟩, 6) := ⟨⟨by decide +kernel, by decide +kernel⟩, List.mem_of_getElem? (i := 21) (by decide +kernel), List.mem_of_getElem? (i := 464) (by decide +kernel), List.mem_of_getElem? (i := 465) (by decide +kernel)⟩
theorem lw_p1 : lw_okq (⟨"GhostCoast$Texts", "holds", "(I[I)Z"⟩, 13) := ⟨⟨by decide +kernel, by decide +kernel⟩, List.mem_of_getElem? (i := 281) (by decide +kernel), List.mem_of_getElem? (i := 523) (by decide +kernel), List.mem_of_getElem? (i := 524) (by decide +kernel)⟩
theorem lw_p2 : lw_okq (⟨"GhostCoast$Scales", "insert", "(ILGhostCoast$Desk;)V"⟩, 4) := ⟨⟨by decide +kernel, by decide +kernel⟩, List.mem_of_getElem? (i := 339) (by decide +kernel), List.mem_of_getElem? (i := 706) (by decide +kernel), List.mem_of_getElem? (i := 707) (by decide +kernel)⟩
theorem lw_p3 : lw_okq (⟨"GhostCoast$Desk", "greatestRest", "()I"⟩, 13) := ⟨⟨by decide +kernel, by decide +kernel⟩, List.mem_of_getElem? (i := 218) (by decide +kernel), List.mem_of_getElem? (i := 762) (by decide +kernel), List.mem_of_getElem? (i := 763) (by decide +kernel)⟩
theorem lw_p4 : lw_okq (⟨"GhostCoast$Tape", "take", "(C)Z"⟩, 3) := ⟨⟨by decide +kernel, by decide +kernel⟩, List.mem_of_getElem? (i := 399) (by decide +kernel), List.mem_of_getElem? (i := 788) (by decide +kernel), List.mem_of_getElem? (i := 789) (by decide +kernel)⟩
theorem lw_p5 : lw_okq (⟨"GhostCoast$Tape", "readClause", "(LGhostCoast$Texts;I)Z"⟩, 3) := ⟨⟨by decide +kernel, by decide +kernel⟩, List.mem_of_getElem? (i := 399) (by decide +kernel), List.mem_of_getElem? (i := 792) (by decide +kernel), List.mem_of_getElem? (i := 793) (by decide +kernel)⟩
theorem lw_p6 : lw_okq (⟨"GhostCoast$Tape", "choose", "(Ljava/lang/String;)I"⟩, 3) := ⟨⟨by decide +kernel, by decide +kernel⟩, List.mem_of_getElem? (i := 399) (by decide +kernel), List.mem_of_getElem? (i := 797) (by decide +kernel), List.mem_of_getElem? (i := 798) (by decide +kernel)⟩
theorem lw_p7 : lw_okq (⟨"GhostCoast$Tape", "fitOf", "(Ljava/lang/String;II)I"⟩, 3) := ⟨⟨by decide +kernel, by decide +kernel⟩, List.mem_of_getElem? (i := 399) (by decide +kernel), List.mem_of_getElem? (i := 849) (by decide +kernel), List.mem_of_getElem? (i := 850) (by decide +kernel)⟩
theorem lw_p8 : lw_okq (⟨"GhostCoast$Tape", "readTests", "(LGhostCoast$Texts;I)Z"⟩, 3) := ⟨⟨by decide +kernel, by decide +kernel⟩, List.mem_of_getElem? (i := 399) (by decide +kernel), List.mem_of_getElem? (i := 858) (by decide +kernel), List.mem_of_getElem? (i := 859) (by decide +kernel)⟩
theorem lw_p9 : lw_okq (⟨"GhostCoast$Tape", "readTest", "(LGhostCoast$Texts;I)Z"⟩, 3) := ⟨⟨by decide +kernel, by decide +kernel⟩, List.mem_of_getElem? (i := 399) (by decide +kernel), List.mem_of_getElem? (i := 862) (by decide +kernel), List.mem_of_getElem? (i := 863) (by decide +kernel)⟩
theorem lw_p10 : lw_okq (⟨"GhostCoast$World", "eyeOn", "(II)I"⟩, 9) := ⟨⟨by decide +kernel, by decide +kernel⟩, List.mem_of_getElem? (i := 29) (by decide +kernel), List.mem_of_getElem? (i := 908) (by decide +kernel), List.mem_of_getElem? (i := 909) (by decide +kernel)⟩
theorem lw_p11 : lw_okq (⟨"GhostCoast$World", "seeShows", "(I)V"⟩, 9) := ⟨⟨by decide +kernel, by decide +kernel⟩, List.mem_of_getElem? (i := 29) (by decide +kernel), List.mem_of_getElem? (i := 1020) (by decide +kernel), List.mem_of_getElem? (i := 1021) (by decide +kernel)⟩
theorem lw_p12 : lw_okq (⟨"GhostCoast$World", "seeUnits", "(I)V"⟩, 9) := ⟨⟨by decide +kernel, by decide +kernel⟩, List.mem_of_getElem? (i := 29) (by decide +kernel), List.mem_of_getElem? (i := 1026) (by decide +kernel), List.mem_of_getElem? (i := 1027) (by decide +kernel)⟩
theorem lw_p13 : lw_okq (⟨"GhostCoast$World", "hearNets", "()V"⟩, 9) := ⟨⟨by decide +kernel, by decide +kernel⟩, List.mem_of_getElem? (i := 29) (by decide +kernel), List.mem_of_getElem? (i := 1032) (by decide +kernel), List.mem_of_getElem? (i := 1033) (by decide +kernel)⟩
theorem lw_p14 : lw_okq (⟨"GhostCoast$World", "findPapers", "()V"⟩, 9) := ⟨⟨by decide +kernel, by decide +kernel⟩, List.mem_of_getElem? (i := 29) (by decide +kernel), List.mem_of_getElem? (i := 1037) (by decide +kernel), List.mem_of_getElem? (i := 1038) (by decide +kernel)⟩
theorem lw_p15 : lw_okq (⟨"GhostCoast$World", "closeDay", "()V"⟩, 9) := ⟨⟨by decide +kernel, by decide +kernel⟩, List.mem_of_getElem? (i := 29) (by decide +kernel), List.mem_of_getElem? (i := 1045) (by decide +kernel), List.mem_of_getElem? (i := 1046) (by decide +kernel)⟩
def lw_privs_1 : List (MethodName × Nat) := [(⟨"GhostCoast", "found", "(I)I"⟩, 6), (⟨"GhostCoast$Texts", "holds", "(I[I)Z"⟩, 13), (⟨"GhostCoast$Scales", "insert", "(ILGhostCoast$Desk;)V"⟩, 4), (⟨"GhostCoast$Desk", "greatestRest", "()I"⟩, 13), (⟨"GhostCoast$Tape", "take", "(C)Z"⟩, 3), (⟨"GhostCoast$Tape", "readClause", "(LGhostCoast$Texts;I)Z"⟩, 3), (⟨"GhostCoast$Tape", "choose", "(Ljava/lang/String;)I"⟩, 3), (⟨"GhostCoast$Tape", "fitOf", "(Ljava/lang/String;II)I"⟩, 3), (⟨"GhostCoast$Tape", "readTests", "(LGhostCoast$Texts;I)Z"⟩, 3), (⟨"GhostCoast$Tape", "readTest", "(LGhostCoast$Texts;I)Z"⟩, 3), (⟨"GhostCoast$World", "eyeOn", "(II)I"⟩, 9), (⟨"GhostCoast$World", "seeShows", "(I)V"⟩, 9), (⟨"GhostCoast$World", "seeUnits", "(I)V"⟩, 9), (⟨"GhostCoast$World", "hearNets", "()V"⟩, 9), (⟨"GhostCoast$World", "findPapers", "()V"⟩, 9), (⟨"GhostCoast$World", "closeDay", "()V"⟩, 9)]
theorem lw_r1 : ∀ q ∈ lw_privs_1, lw_okq q := List.forall_mem_cons.mpr ⟨lw_p0, List.forall_mem_cons.mpr ⟨lw_p1, List.forall_mem_cons.mpr ⟨lw_p2, List.forall_mem_cons.mpr ⟨lw_p3, List.forall_mem_cons.mpr ⟨lw_p4, List.forall_mem_cons.mpr ⟨lw_p5, List.forall_mem_cons.mpr ⟨lw_p6, List.forall_mem_cons.mpr ⟨lw_p7, List.forall_mem_cons.mpr ⟨lw_p8, List.forall_mem_cons.mpr ⟨lw_p9, List.forall_mem_cons.mpr ⟨lw_p10, List.forall_mem_cons.mpr ⟨lw_p11, List.forall_mem_cons.mpr ⟨lw_p12, List.forall_mem_cons.mpr ⟨lw_p13, List.forall_mem_cons.mpr ⟨lw_p14, List.forall_mem_cons.mpr ⟨lw_p15, fun _ h => absurd h List.not_mem_nil⟩⟩⟩⟩⟩⟩⟩⟩⟩⟩⟩⟩⟩⟩⟩⟩
theorem lw_p16 : lw_okq (⟨"GhostCoastModel", "finding", "(I)I"⟩, 22) := ⟨⟨by decide +kernel, by decide +kernel⟩, List.mem_of_getElem? (i := 1157) (by decide +kernel), List.mem_of_getElem? (i := 1240) (by decide +kernel), List.mem_of_getElem? (i := 1241) (by decide +kernel)⟩
theorem lw_p17 : lw_okq (⟨"GhostCoastModel", "isUnit", "(I)Z"⟩, 22) := ⟨⟨by decide +kernel, by decide +kernel⟩, List.mem_of_getElem? (i := 1157) (by decide +kernel), List.mem_of_getElem? (i := 1263) (by decide +kernel), List.mem_of_getElem? (i := 1264) (by decide +kernel)⟩
theorem lw_p18 : lw_okq (⟨"GhostCoastModel", "isRoad", "(I)Z"⟩, 22) := ⟨⟨by decide +kernel, by decide +kernel⟩, List.mem_of_getElem? (i := 1157) (by decide +kernel), List.mem_of_getElem? (i := 1267) (by decide +kernel), List.mem_of_getElem? (i := 1268) (by decide +kernel)⟩
theorem lw_p19 : lw_okq (⟨"GhostCoastModel", "isQuiet", "(I)Z"⟩, 22) := ⟨⟨by decide +kernel, by decide +kernel⟩, List.mem_of_getElem? (i := 1157) (by decide +kernel), List.mem_of_getElem? (i := 1271) (by decide +kernel), List.mem_of_getElem? (i := 1272) (by decide +kernel)⟩
theorem lw_p20 : lw_okq (⟨"GhostCoastModel", "show", "(II)I"⟩, 22) := ⟨⟨by decide +kernel, by decide +kernel⟩, List.mem_of_getElem? (i := 1157) (by decide +kernel), List.mem_of_getElem? (i := 1275) (by decide +kernel), List.mem_of_getElem? (i := 1276) (by decide +kernel)⟩
theorem lw_p21 : lw_okq (⟨"GhostCoastModel", "isShown", "(I)Z"⟩, 22) := ⟨⟨by decide +kernel, by decide +kernel⟩, List.mem_of_getElem? (i := 1157) (by decide +kernel), List.mem_of_getElem? (i := 1279) (by decide +kernel), List.mem_of_getElem? (i := 1280) (by decide +kernel)⟩
theorem lw_p22 : lw_okq (⟨"GhostCoastModel", "needOf", "(I)I"⟩, 22) := ⟨⟨by decide +kernel, by decide +kernel⟩, List.mem_of_getElem? (i := 1157) (by decide +kernel), List.mem_of_getElem? (i := 1283) (by decide +kernel), List.mem_of_getElem? (i := 1284) (by decide +kernel)⟩
theorem lw_p23 : lw_okq (⟨"GhostCoastModel", "wordOf", "(I)I"⟩, 22) := ⟨⟨by decide +kernel, by decide +kernel⟩, List.mem_of_getElem? (i := 1157) (by decide +kernel), List.mem_of_getElem? (i := 1287) (by decide +kernel), List.mem_of_getElem? (i := 1288) (by decide +kernel)⟩
theorem lw_p24 : lw_okq (⟨"GhostCoastModel", "clauseOf", "(I)I"⟩, 22) := ⟨⟨by decide +kernel, by decide +kernel⟩, List.mem_of_getElem? (i := 1157) (by decide +kernel), List.mem_of_getElem? (i := 1291) (by decide +kernel), List.mem_of_getElem? (i := 1292) (by decide +kernel)⟩
theorem lw_p25 : lw_okq (⟨"GhostCoastModel", "isAbout", "(II)Z"⟩, 22) := ⟨⟨by decide +kernel, by decide +kernel⟩, List.mem_of_getElem? (i := 1157) (by decide +kernel), List.mem_of_getElem? (i := 1295) (by decide +kernel), List.mem_of_getElem? (i := 1296) (by decide +kernel)⟩
theorem lw_p26 : lw_okq (⟨"GhostCoastModel", "isSo", "(II)Z"⟩, 22) := ⟨⟨by decide +kernel, by decide +kernel⟩, List.mem_of_getElem? (i := 1157) (by decide +kernel), List.mem_of_getElem? (i := 1302) (by decide +kernel), List.mem_of_getElem? (i := 1303) (by decide +kernel)⟩
theorem lw_p27 : lw_okq (⟨"GhostCoastModel", "valueOf", "(II)I"⟩, 22) := ⟨⟨by decide +kernel, by decide +kernel⟩, List.mem_of_getElem? (i := 1157) (by decide +kernel), List.mem_of_getElem? (i := 1306) (by decide +kernel), List.mem_of_getElem? (i := 1307) (by decide +kernel)⟩
theorem lw_p28 : lw_okq (⟨"GhostCoastModel", "leads", "(II)Z"⟩, 22) := ⟨⟨by decide +kernel, by decide +kernel⟩, List.mem_of_getElem? (i := 1157) (by decide +kernel), List.mem_of_getElem? (i := 1310) (by decide +kernel), List.mem_of_getElem? (i := 1311) (by decide +kernel)⟩
theorem lw_p29 : lw_okq (⟨"GhostCoastModel", "isSeen", "(III)Z"⟩, 22) := ⟨⟨by decide +kernel, by decide +kernel⟩, List.mem_of_getElem? (i := 1157) (by decide +kernel), List.mem_of_getElem? (i := 1322) (by decide +kernel), List.mem_of_getElem? (i := 1323) (by decide +kernel)⟩
theorem lw_p30 : lw_okq (⟨"GhostCoastModel", "areNumbers", "(III)Z"⟩, 22) := ⟨⟨by decide +kernel, by decide +kernel⟩, List.mem_of_getElem? (i := 1157) (by decide +kernel), List.mem_of_getElem? (i := 1345) (by decide +kernel), List.mem_of_getElem? (i := 1346) (by decide +kernel)⟩
theorem lw_p31 : lw_okq (⟨"GhostCoastModel", "setShow", "(III)V"⟩, 22) := ⟨⟨by decide +kernel, by decide +kernel⟩, List.mem_of_getElem? (i := 1157) (by decide +kernel), List.mem_of_getElem? (i := 1349) (by decide +kernel), List.mem_of_getElem? (i := 1350) (by decide +kernel)⟩
def lw_privs_2 : List (MethodName × Nat) := [(⟨"GhostCoastModel", "finding", "(I)I"⟩, 22), (⟨"GhostCoastModel", "isUnit", "(I)Z"⟩, 22), (⟨"GhostCoastModel", "isRoad", "(I)Z"⟩, 22), (⟨"GhostCoastModel", "isQuiet", "(I)Z"⟩, 22), (⟨"GhostCoastModel", "show", "(II)I"⟩, 22), (⟨"GhostCoastModel", "isShown", "(I)Z"⟩, 22), (⟨"GhostCoastModel", "needOf", "(I)I"⟩, 22), (⟨"GhostCoastModel", "wordOf", "(I)I"⟩, 22), (⟨"GhostCoastModel", "clauseOf", "(I)I"⟩, 22), (⟨"GhostCoastModel", "isAbout", "(II)Z"⟩, 22), (⟨"GhostCoastModel", "isSo", "(II)Z"⟩, 22), (⟨"GhostCoastModel", "valueOf", "(II)I"⟩, 22), (⟨"GhostCoastModel", "leads", "(II)Z"⟩, 22), (⟨"GhostCoastModel", "isSeen", "(III)Z"⟩, 22), (⟨"GhostCoastModel", "areNumbers", "(III)Z"⟩, 22), (⟨"GhostCoastModel", "setShow", "(III)V"⟩, 22)]
theorem lw_r2 : ∀ q ∈ lw_privs_2, lw_okq q := List.forall_mem_cons.mpr ⟨lw_p16, List.forall_mem_cons.mpr ⟨lw_p17, List.forall_mem_cons.mpr ⟨lw_p18, List.forall_mem_cons.mpr ⟨lw_p19, List.forall_mem_cons.mpr ⟨lw_p20, List.forall_mem_cons.mpr ⟨lw_p21, List.forall_mem_cons.mpr ⟨lw_p22, List.forall_mem_cons.mpr ⟨lw_p23, List.forall_mem_cons.mpr ⟨lw_p24, List.forall_mem_cons.mpr ⟨lw_p25, List.forall_mem_cons.mpr ⟨lw_p26, List.forall_mem_cons.mpr ⟨lw_p27, List.forall_mem_cons.mpr ⟨lw_p28, List.forall_mem_cons.mpr ⟨lw_p29, List.forall_mem_cons.mpr ⟨lw_p30, List.forall_mem_cons.mpr ⟨lw_p31, fun _ h => absurd h List.not_mem_nil⟩⟩⟩⟩⟩⟩⟩⟩⟩⟩⟩⟩⟩⟩⟩⟩
theorem lw_p32 : lw_okq (⟨"GhostCoastModel", "isShow", "(I)Z"⟩, 22) := ⟨⟨by decide +kernel, by decide +kernel⟩, List.mem_of_getElem? (i := 1157) (by decide +kernel), List.mem_of_getElem? (i := 1357) (by decide +kernel), List.mem_of_getElem? (i := 1358) (by decide +kernel)⟩
theorem lw_p33 : lw_okq (⟨"GhostCoastModel", "priceOf", "(I)I"⟩, 22) := ⟨⟨by decide +kernel, by decide +kernel⟩, List.mem_of_getElem? (i := 1157) (by decide +kernel), List.mem_of_getElem? (i := 1365) (by decide +kernel), List.mem_of_getElem? (i := 1366) (by decide +kernel)⟩
theorem lw_p34 : lw_okq (⟨"GhostCoastModel", "topOf", "(I)I"⟩, 22) := ⟨⟨by decide +kernel, by decide +kernel⟩, List.mem_of_getElem? (i := 1157) (by decide +kernel), List.mem_of_getElem? (i := 1369) (by decide +kernel), List.mem_of_getElem? (i := 1370) (by decide +kernel)⟩
theorem lw_p35 : lw_okq (⟨"GhostCoastModel", "comes", "(IIZIII)I"⟩, 22) := ⟨⟨by decide +kernel, by decide +kernel⟩, List.mem_of_getElem? (i := 1157) (by decide +kernel), List.mem_of_getElem? (i := 1400) (by decide +kernel), List.mem_of_getElem? (i := 1401) (by decide +kernel)⟩
theorem lw_p36 : lw_okq (⟨"GhostCoastModel", "isReport", "(I)Z"⟩, 22) := ⟨⟨by decide +kernel, by decide +kernel⟩, List.mem_of_getElem? (i := 1157) (by decide +kernel), List.mem_of_getElem? (i := 1419) (by decide +kernel), List.mem_of_getElem? (i := 1420) (by decide +kernel)⟩
theorem lw_p37 : lw_okq (⟨"GhostCoastModel", "creditOf", "(I)I"⟩, 22) := ⟨⟨by decide +kernel, by decide +kernel⟩, List.mem_of_getElem? (i := 1157) (by decide +kernel), List.mem_of_getElem? (i := 1423) (by decide +kernel), List.mem_of_getElem? (i := 1424) (by decide +kernel)⟩
theorem lw_p38 : lw_okq (⟨"GhostCoastModel", "report1", "(II)I"⟩, 22) := ⟨⟨by decide +kernel, by decide +kernel⟩, List.mem_of_getElem? (i := 1157) (by decide +kernel), List.mem_of_getElem? (i := 1427) (by decide +kernel), List.mem_of_getElem? (i := 1428) (by decide +kernel)⟩
theorem lw_p39 : lw_okq (⟨"GhostCoastModel", "gather", "(I)V"⟩, 22) := ⟨⟨by decide +kernel, by decide +kernel⟩, List.mem_of_getElem? (i := 1157) (by decide +kernel), List.mem_of_getElem? (i := 1443) (by decide +kernel), List.mem_of_getElem? (i := 1444) (by decide +kernel)⟩
theorem lw_p40 : lw_okq (⟨"GhostCoastModel", "more", "(IIII)V"⟩, 22) := ⟨⟨by decide +kernel, by decide +kernel⟩, List.mem_of_getElem? (i := 1157) (by decide +kernel), List.mem_of_getElem? (i := 1447) (by decide +kernel), List.mem_of_getElem? (i := 1448) (by decide +kernel)⟩
theorem lw_p41 : lw_okq (⟨"GhostCoastModel", "weigh", "()V"⟩, 22) := ⟨⟨by decide +kernel, by decide +kernel⟩, List.mem_of_getElem? (i := 1157) (by decide +kernel), List.mem_of_getElem? (i := 1451) (by decide +kernel), List.mem_of_getElem? (i := 1452) (by decide +kernel)⟩
theorem lw_p42 : lw_okq (⟨"GhostCoastModel", "likelyOf", "(IZ)J"⟩, 22) := ⟨⟨by decide +kernel, by decide +kernel⟩, List.mem_of_getElem? (i := 1157) (by decide +kernel), List.mem_of_getElem? (i := 1459) (by decide +kernel), List.mem_of_getElem? (i := 1460) (by decide +kernel)⟩
theorem lw_p43 : lw_okq (⟨"GhostCoastModel", "all", "()J"⟩, 22) := ⟨⟨by decide +kernel, by decide +kernel⟩, List.mem_of_getElem? (i := 1157) (by decide +kernel), List.mem_of_getElem? (i := 1463) (by decide +kernel), List.mem_of_getElem? (i := 1464) (by decide +kernel)⟩
theorem lw_p44 : lw_okq (⟨"GhostCoastModel", "greatest", "()I"⟩, 22) := ⟨⟨by decide +kernel, by decide +kernel⟩, List.mem_of_getElem? (i := 1157) (by decide +kernel), List.mem_of_getElem? (i := 1474) (by decide +kernel), List.mem_of_getElem? (i := 1475) (by decide +kernel)⟩
theorem lw_p45 : lw_okq (⟨"GhostCoastModel", "clause", "(I)V"⟩, 22) := ⟨⟨by decide +kernel, by decide +kernel⟩, List.mem_of_getElem? (i := 1157) (by decide +kernel), List.mem_of_getElem? (i := 1507) (by decide +kernel), List.mem_of_getElem? (i := 1508) (by decide +kernel)⟩
theorem lw_p46 : lw_okq (⟨"GhostCoastModel", "word", "(II)I"⟩, 22) := ⟨⟨by decide +kernel, by decide +kernel⟩, List.mem_of_getElem? (i := 1157) (by decide +kernel), List.mem_of_getElem? (i := 1511) (by decide +kernel), List.mem_of_getElem? (i := 1512) (by decide +kernel)⟩
theorem lw_p47 : lw_okq (⟨"GhostCoastModel", "byteAt", "(I)I"⟩, 22) := ⟨⟨by decide +kernel, by decide +kernel⟩, List.mem_of_getElem? (i := 1157) (by decide +kernel), List.mem_of_getElem? (i := 1520) (by decide +kernel), List.mem_of_getElem? (i := 1521) (by decide +kernel)⟩
def lw_privs_3 : List (MethodName × Nat) := [(⟨"GhostCoastModel", "isShow", "(I)Z"⟩, 22), (⟨"GhostCoastModel", "priceOf", "(I)I"⟩, 22), (⟨"GhostCoastModel", "topOf", "(I)I"⟩, 22), (⟨"GhostCoastModel", "comes", "(IIZIII)I"⟩, 22), (⟨"GhostCoastModel", "isReport", "(I)Z"⟩, 22), (⟨"GhostCoastModel", "creditOf", "(I)I"⟩, 22), (⟨"GhostCoastModel", "report1", "(II)I"⟩, 22), (⟨"GhostCoastModel", "gather", "(I)V"⟩, 22), (⟨"GhostCoastModel", "more", "(IIII)V"⟩, 22), (⟨"GhostCoastModel", "weigh", "()V"⟩, 22), (⟨"GhostCoastModel", "likelyOf", "(IZ)J"⟩, 22), (⟨"GhostCoastModel", "all", "()J"⟩, 22), (⟨"GhostCoastModel", "greatest", "()I"⟩, 22), (⟨"GhostCoastModel", "clause", "(I)V"⟩, 22), (⟨"GhostCoastModel", "word", "(II)I"⟩, 22), (⟨"GhostCoastModel", "byteAt", "(I)I"⟩, 22)]
theorem lw_r3 : ∀ q ∈ lw_privs_3, lw_okq q := List.forall_mem_cons.mpr ⟨lw_p32, List.forall_mem_cons.mpr ⟨lw_p33, List.forall_mem_cons.mpr ⟨lw_p34, List.forall_mem_cons.mpr ⟨lw_p35, List.forall_mem_cons.mpr ⟨lw_p36, List.forall_mem_cons.mpr ⟨lw_p37, List.forall_mem_cons.mpr ⟨lw_p38, List.forall_mem_cons.mpr ⟨lw_p39, List.forall_mem_cons.mpr ⟨lw_p40, List.forall_mem_cons.mpr ⟨lw_p41, List.forall_mem_cons.mpr ⟨lw_p42, List.forall_mem_cons.mpr ⟨lw_p43, List.forall_mem_cons.mpr ⟨lw_p44, List.forall_mem_cons.mpr ⟨lw_p45, List.forall_mem_cons.mpr ⟨lw_p46, List.forall_mem_cons.mpr ⟨lw_p47, fun _ h => absurd h List.not_mem_nil⟩⟩⟩⟩⟩⟩⟩⟩⟩⟩⟩⟩⟩⟩⟩⟩
theorem lw_p48 : lw_okq (⟨"GhostCoastModel", "wrong", "(I)V"⟩, 22) := ⟨⟨by decide +kernel, by decide +kernel⟩, List.mem_of_getElem? (i := 1157) (by decide +kernel), List.mem_of_getElem? (i := 1524) (by decide +kernel), List.mem_of_getElem? (i := 1525) (by decide +kernel)⟩
theorem lw_p49 : lw_okq (⟨"GhostCoastModel", "needs", "(I)V"⟩, 22) := ⟨⟨by decide +kernel, by decide +kernel⟩, List.mem_of_getElem? (i := 1157) (by decide +kernel), List.mem_of_getElem? (i := 1528) (by decide +kernel), List.mem_of_getElem? (i := 1529) (by decide +kernel)⟩
theorem lw_p50 : lw_okq (⟨"GhostCoastModel", "takes", "(I)Z"⟩, 22) := ⟨⟨by decide +kernel, by decide +kernel⟩, List.mem_of_getElem? (i := 1157) (by decide +kernel), List.mem_of_getElem? (i := 1532) (by decide +kernel), List.mem_of_getElem? (i := 1533) (by decide +kernel)⟩
theorem lw_p51 : lw_okq (⟨"GhostCoastModel", "test", "(IZ)V"⟩, 22) := ⟨⟨by decide +kernel, by decide +kernel⟩, List.mem_of_getElem? (i := 1157) (by decide +kernel), List.mem_of_getElem? (i := 1536) (by decide +kernel), List.mem_of_getElem? (i := 1537) (by decide +kernel)⟩
theorem lw_p52 : lw_okq (⟨"GhostCoastModel", "digits", "()I"⟩, 22) := ⟨⟨by decide +kernel, by decide +kernel⟩, List.mem_of_getElem? (i := 1157) (by decide +kernel), List.mem_of_getElem? (i := 1540) (by decide +kernel), List.mem_of_getElem? (i := 1541) (by decide +kernel)⟩
theorem lw_p53 : lw_okq (⟨"GhostCoastModel", "pairs", "(I)I"⟩, 22) := ⟨⟨by decide +kernel, by decide +kernel⟩, List.mem_of_getElem? (i := 1157) (by decide +kernel), List.mem_of_getElem? (i := 1564) (by decide +kernel), List.mem_of_getElem? (i := 1565) (by decide +kernel)⟩
theorem lw_p54 : lw_okq (⟨"GhostCoastModel", "eyeOf", "(II)I"⟩, 22) := ⟨⟨by decide +kernel, by decide +kernel⟩, List.mem_of_getElem? (i := 1157) (by decide +kernel), List.mem_of_getElem? (i := 1568) (by decide +kernel), List.mem_of_getElem? (i := 1569) (by decide +kernel)⟩
theorem lw_p55 : lw_okq (⟨"GhostCoastModel", "isSet", "(I)Z"⟩, 22) := ⟨⟨by decide +kernel, by decide +kernel⟩, List.mem_of_getElem? (i := 1157) (by decide +kernel), List.mem_of_getElem? (i := 1584) (by decide +kernel), List.mem_of_getElem? (i := 1585) (by decide +kernel)⟩
theorem lw_p56 : lw_okq (⟨"GhostCoastModel", "lasts", "(III)Z"⟩, 22) := ⟨⟨by decide +kernel, by decide +kernel⟩, List.mem_of_getElem? (i := 1157) (by decide +kernel), List.mem_of_getElem? (i := 1591) (by decide +kernel), List.mem_of_getElem? (i := 1592) (by decide +kernel)⟩
theorem lw_p57 : lw_okq (⟨"GhostCoastModel", "give", "(II)V"⟩, 22) := ⟨⟨by decide +kernel, by decide +kernel⟩, List.mem_of_getElem? (i := 1157) (by decide +kernel), List.mem_of_getElem? (i := 1595) (by decide +kernel), List.mem_of_getElem? (i := 1596) (by decide +kernel)⟩
theorem lw_p58 : lw_okq (⟨"GhostCoastModel", "giveOf", "(I)I"⟩, 22) := ⟨⟨by decide +kernel, by decide +kernel⟩, List.mem_of_getElem? (i := 1157) (by decide +kernel), List.mem_of_getElem? (i := 1599) (by decide +kernel), List.mem_of_getElem? (i := 1600) (by decide +kernel)⟩
theorem lw_p59 : lw_okq (⟨"GhostCoastModel", "oneHour", "()V"⟩, 22) := ⟨⟨by decide +kernel, by decide +kernel⟩, List.mem_of_getElem? (i := 1157) (by decide +kernel), List.mem_of_getElem? (i := 1615) (by decide +kernel), List.mem_of_getElem? (i := 1616) (by decide +kernel)⟩
theorem lw_p60 : lw_okq (⟨"GhostCoastModel", "storm", "()V"⟩, 22) := ⟨⟨by decide +kernel, by decide +kernel⟩, List.mem_of_getElem? (i := 1157) (by decide +kernel), List.mem_of_getElem? (i := 1619) (by decide +kernel), List.mem_of_getElem? (i := 1620) (by decide +kernel)⟩
theorem lw_p61 : lw_okq (⟨"GhostCoastModel", "flies", "(I)V"⟩, 22) := ⟨⟨by decide +kernel, by decide +kernel⟩, List.mem_of_getElem? (i := 1157) (by decide +kernel), List.mem_of_getElem? (i := 1623) (by decide +kernel), List.mem_of_getElem? (i := 1624) (by decide +kernel)⟩
theorem lw_p62 : lw_okq (⟨"GhostCoastModel", "listens", "()V"⟩, 22) := ⟨⟨by decide +kernel, by decide +kernel⟩, List.mem_of_getElem? (i := 1157) (by decide +kernel), List.mem_of_getElem? (i := 1627) (by decide +kernel), List.mem_of_getElem? (i := 1628) (by decide +kernel)⟩
theorem lw_p63 : lw_okq (⟨"GhostCoastModel", "papers", "()V"⟩, 22) := ⟨⟨by decide +kernel, by decide +kernel⟩, List.mem_of_getElem? (i := 1157) (by decide +kernel), List.mem_of_getElem? (i := 1631) (by decide +kernel), List.mem_of_getElem? (i := 1632) (by decide +kernel)⟩
def lw_privs_4 : List (MethodName × Nat) := [(⟨"GhostCoastModel", "wrong", "(I)V"⟩, 22), (⟨"GhostCoastModel", "needs", "(I)V"⟩, 22), (⟨"GhostCoastModel", "takes", "(I)Z"⟩, 22), (⟨"GhostCoastModel", "test", "(IZ)V"⟩, 22), (⟨"GhostCoastModel", "digits", "()I"⟩, 22), (⟨"GhostCoastModel", "pairs", "(I)I"⟩, 22), (⟨"GhostCoastModel", "eyeOf", "(II)I"⟩, 22), (⟨"GhostCoastModel", "isSet", "(I)Z"⟩, 22), (⟨"GhostCoastModel", "lasts", "(III)Z"⟩, 22), (⟨"GhostCoastModel", "give", "(II)V"⟩, 22), (⟨"GhostCoastModel", "giveOf", "(I)I"⟩, 22), (⟨"GhostCoastModel", "oneHour", "()V"⟩, 22), (⟨"GhostCoastModel", "storm", "()V"⟩, 22), (⟨"GhostCoastModel", "flies", "(I)V"⟩, 22), (⟨"GhostCoastModel", "listens", "()V"⟩, 22), (⟨"GhostCoastModel", "papers", "()V"⟩, 22)]
theorem lw_r4 : ∀ q ∈ lw_privs_4, lw_okq q := List.forall_mem_cons.mpr ⟨lw_p48, List.forall_mem_cons.mpr ⟨lw_p49, List.forall_mem_cons.mpr ⟨lw_p50, List.forall_mem_cons.mpr ⟨lw_p51, List.forall_mem_cons.mpr ⟨lw_p52, List.forall_mem_cons.mpr ⟨lw_p53, List.forall_mem_cons.mpr ⟨lw_p54, List.forall_mem_cons.mpr ⟨lw_p55, List.forall_mem_cons.mpr ⟨lw_p56, List.forall_mem_cons.mpr ⟨lw_p57, List.forall_mem_cons.mpr ⟨lw_p58, List.forall_mem_cons.mpr ⟨lw_p59, List.forall_mem_cons.mpr ⟨lw_p60, List.forall_mem_cons.mpr ⟨lw_p61, List.forall_mem_cons.mpr ⟨lw_p62, List.forall_mem_cons.mpr ⟨lw_p63, fun _ h => absurd h List.not_mem_nil⟩⟩⟩⟩⟩⟩⟩⟩⟩⟩⟩⟩⟩⟩⟩⟩
theorem lw_p64 : lw_okq (⟨"GhostCoastModel", "marches", "()V"⟩, 22) := ⟨⟨by decide +kernel, by decide +kernel⟩, List.mem_of_getElem? (i := 1157) (by decide +kernel), List.mem_of_getElem? (i := 1635) (by decide +kernel), List.mem_of_getElem? (i := 1636) (by decide +kernel)⟩
theorem lw_p65 : lw_okq (⟨"GhostCoastModel", "closes", "()V"⟩, 22) := ⟨⟨by decide +kernel, by decide +kernel⟩, List.mem_of_getElem? (i := 1157) (by decide +kernel), List.mem_of_getElem? (i := 1639) (by decide +kernel), List.mem_of_getElem? (i := 1640) (by decide +kernel)⟩
theorem lw_p66 : lw_okq (⟨"GhostCoastModel", "standing", "()I"⟩, 22) := ⟨⟨by decide +kernel, by decide +kernel⟩, List.mem_of_getElem? (i := 1157) (by decide +kernel), List.mem_of_getElem? (i := 1643) (by decide +kernel), List.mem_of_getElem? (i := 1644) (by decide +kernel)⟩
theorem lw_p67 : lw_okq (⟨"GhostCoastModel", "knownBy", "(I)I"⟩, 22) := ⟨⟨by decide +kernel, by decide +kernel⟩, List.mem_of_getElem? (i := 1157) (by decide +kernel), List.mem_of_getElem? (i := 1647) (by decide +kernel), List.mem_of_getElem? (i := 1648) (by decide +kernel)⟩
theorem lw_p68 : lw_okq (⟨"GhostCoastModel", "isClosed", "(I)Z"⟩, 22) := ⟨⟨by decide +kernel, by decide +kernel⟩, List.mem_of_getElem? (i := 1157) (by decide +kernel), List.mem_of_getElem? (i := 1655) (by decide +kernel), List.mem_of_getElem? (i := 1656) (by decide +kernel)⟩
theorem lw_p69 : lw_okq (⟨"GhostCoastModel", "isCloud", "(II)Z"⟩, 22) := ⟨⟨by decide +kernel, by decide +kernel⟩, List.mem_of_getElem? (i := 1157) (by decide +kernel), List.mem_of_getElem? (i := 1663) (by decide +kernel), List.mem_of_getElem? (i := 1664) (by decide +kernel)⟩
def lw_privs_5 : List (MethodName × Nat) := [(⟨"GhostCoastModel", "marches", "()V"⟩, 22), (⟨"GhostCoastModel", "closes", "()V"⟩, 22), (⟨"GhostCoastModel", "standing", "()I"⟩, 22), (⟨"GhostCoastModel", "knownBy", "(I)I"⟩, 22), (⟨"GhostCoastModel", "isClosed", "(I)Z"⟩, 22), (⟨"GhostCoastModel", "isCloud", "(II)Z"⟩, 22)]
theorem lw_r5 : ∀ q ∈ lw_privs_5, lw_okq q := List.forall_mem_cons.mpr ⟨lw_p64, List.forall_mem_cons.mpr ⟨lw_p65, List.forall_mem_cons.mpr ⟨lw_p66, List.forall_mem_cons.mpr ⟨lw_p67, List.forall_mem_cons.mpr ⟨lw_p68, List.forall_mem_cons.mpr ⟨lw_p69, fun _ h => absurd h List.not_mem_nil⟩⟩⟩⟩⟩⟩
def lw_privs : List (MethodName × Nat) := lw_privs_1 ++ (lw_privs_2 ++ (lw_privs_3 ++ (lw_privs_4 ++ (lw_privs_5))))
def lw_tbl : List Cond := k2_sels lw_privs ++ tables_1
theorem lw_privs_ok : ∀ q ∈ lw_privs, lw_okq q := by
  show ∀ q ∈ lw_privs_1 ++ (lw_privs_2 ++ (lw_privs_3 ++ (lw_privs_4 ++ (lw_privs_5)))), lw_okq q
  exact List.forall_mem_append.mpr ⟨lw_r1, List.forall_mem_append.mpr ⟨lw_r2, List.forall_mem_append.mpr ⟨lw_r3, List.forall_mem_append.mpr ⟨lw_r4, lw_r5⟩⟩⟩⟩

-- names of classes, fields, methods (out of the printed names)
def RX0 : String := "GhostCoast$Coast"
def TX0 : u_T := fun k => match k with
  | 0 => ("GhostCoast$Coast", "ground", "[I", true)
  | 1 => ("GhostCoast$Coast", "roadA", "[I", true)
  | 2 => ("GhostCoast$Coast", "roadB", "[I", true)
  | 3 => ("GhostCoast$Coast", "roadHours", "[I", true)
  | 4 => ("GhostCoast$Coast", "roads", "I", false)
  | 5 => ("GhostCoast$Coast", "unitCell", "[I", true)
  | 6 => ("GhostCoast$Coast", "unitStrength", "[I", true)
  | 7 => ("GhostCoast$Coast", "unitRoad", "[I", true)
  | 8 => ("GhostCoast$Coast", "unitToGo", "[I", true)
  | 9 => ("GhostCoast$Coast", "units", "I", false)
  | 10 => ("GhostCoast$Coast", "place", "[I", true)
  | 11 => ("GhostCoast$Coast", "hour", "I", false)
  | 12 => ("GhostCoast$Coast", "wind", "I", false)
  | 13 => ("GhostCoast$Coast", "cloud", "I", false)
  | 14 => ("GhostCoast$Coast", "pool", "I", false)
  | _ => ("GhostCoast$Coast", "coin", "I", false)
def tyX0 : Nat → FieldType := fun k => match k with
  | 0 => .array .int
  | 1 => .array .int
  | 2 => .array .int
  | 3 => .array .int
  | 4 => .int
  | 5 => .array .int
  | 6 => .array .int
  | 7 => .array .int
  | 8 => .array .int
  | 9 => .int
  | 10 => .array .int
  | 11 => .int
  | 12 => .int
  | 13 => .int
  | 14 => .int
  | _ => .int
theorem nmX0 : ∀ a, a < 16 → ∀ b, b < 16 → a ≠ b → (TX0 a).2.1 ≠ (TX0 b).2.1 := by decide +kernel
theorem tyX0_ok : ∀ k, k < 16 → parseFieldDescriptor (TX0 k).2.2.1 = some (tyX0 k) := by decide +kernel
abbrev cX0_init : ByteArray := prog_2_method_1_code
def yX0_init : MethodName := ⟨RX0, "<init>", "()V"⟩
abbrev cX0_addRoad : ByteArray := prog_2_method_2_code
def yX0_addRoad : MethodName := ⟨RX0, "addRoad", "(III)I"⟩
abbrev cX0_addUnit : ByteArray := prog_2_method_3_code
def yX0_addUnit : MethodName := ⟨RX0, "addUnit", "(II)I"⟩
abbrev cX0_isOnRoad : ByteArray := prog_2_method_4_code
def yX0_isOnRoad : MethodName := ⟨RX0, "isOnRoad", "(I)Z"⟩
abbrev cX0_leadsFrom : ByteArray := prog_2_method_5_code
def yX0_leadsFrom : MethodName := ⟨RX0, "leadsFrom", "(II)Z"⟩
abbrev cX0_march : ByteArray := prog_2_method_6_code
def yX0_march : MethodName := ⟨RX0, "march", "()V"⟩
abbrev cX0_become : ByteArray := prog_2_method_7_code
def yX0_become : MethodName := ⟨RX0, "become", "(LGhostCoast$Coast;)V"⟩
def RX1 : String := "GhostCoast$Desk"
def TX1 : u_T := fun k => match k with
  | 0 => ("GhostCoast$Desk", "source", "[I", true)
  | 1 => ("GhostCoast$Desk", "story", "[I", true)
  | 2 => ("GhostCoast$Desk", "isFor", "[Z", true)
  | 3 => ("GhostCoast$Desk", "got", "[I", true)
  | 4 => ("GhostCoast$Desk", "known", "[I", true)
  | 5 => ("GhostCoast$Desk", "show", "[I", true)
  | 6 => ("GhostCoast$Desk", "isStruck", "[Z", true)
  | 7 => ("GhostCoast$Desk", "size", "I", false)
  | 8 => ("GhostCoast$Desk", "fade", "I", false)
  | 9 => ("GhostCoast$Desk", "troops", "I", false)
  | 10 => ("GhostCoast$Desk", "parts", "[I", true)
  | 11 => ("GhostCoast$Desk", "rests", "[J", true)
  | _ => ("GhostCoast$Desk", "newParts", "[I", true)
def tyX1 : Nat → FieldType := fun k => match k with
  | 0 => .array .int
  | 1 => .array .int
  | 2 => .array .boolean
  | 3 => .array .int
  | 4 => .array .int
  | 5 => .array .int
  | 6 => .array .boolean
  | 7 => .int
  | 8 => .int
  | 9 => .int
  | 10 => .array .int
  | 11 => .array .long
  | _ => .array .int
theorem nmX1 : ∀ a, a < 13 → ∀ b, b < 13 → a ≠ b → (TX1 a).2.1 ≠ (TX1 b).2.1 := by decide +kernel
theorem tyX1_ok : ∀ k, k < 13 → parseFieldDescriptor (TX1 k).2.2.1 = some (tyX1 k) := by decide +kernel
abbrev cX1_init : ByteArray := prog_3_method_1_code
def yX1_init : MethodName := ⟨RX1, "<init>", "()V"⟩
abbrev cX1_room : ByteArray := prog_3_method_2_code
def yX1_room : MethodName := ⟨RX1, "room", "()I"⟩
abbrev cX1_add : ByteArray := prog_3_method_3_code
def yX1_add : MethodName := ⟨RX1, "add", "(IIZIII)V"⟩
abbrev cX1_credit : ByteArray := prog_3_method_4_code
def yX1_credit : MethodName := ⟨RX1, "credit", "(ILGhostCoast$Shows;)I"⟩
abbrev cX1_isCounted : ByteArray := prog_3_method_5_code
def yX1_isCounted : MethodName := ⟨RX1, "isCounted", "(II)Z"⟩
abbrev cX1_knownBy : ByteArray := prog_3_method_6_code
def yX1_knownBy : MethodName := ⟨RX1, "knownBy", "(I)I"⟩
abbrev cX1_part : ByteArray := prog_3_method_7_code
def yX1_part : MethodName := ⟨RX1, "part", "(LGhostCoast$Scales;)I"⟩
abbrev cX1_greatestRest : ByteArray := prog_3_method_8_code
def yX1_greatestRest : MethodName := ⟨RX1, "greatestRest", "()I"⟩
abbrev cX1_become : ByteArray := prog_3_method_9_code
def yX1_become : MethodName := ⟨RX1, "become", "(LGhostCoast$Desk;)V"⟩
def RX2 : String := "GhostCoast$Eyes"
def TX2 : u_T := fun k => match k with
  | 0 => ("GhostCoast$Eyes", "flightHour", "[I", true)
  | 1 => ("GhostCoast$Eyes", "flightCell", "[I", true)
  | 2 => ("GhostCoast$Eyes", "flightHeight", "[I", true)
  | 3 => ("GhostCoast$Eyes", "flightLate", "[I", true)
  | 4 => ("GhostCoast$Eyes", "flights", "I", false)
  | 5 => ("GhostCoast$Eyes", "listenHour", "[I", true)
  | _ => ("GhostCoast$Eyes", "listeners", "I", false)
def tyX2 : Nat → FieldType := fun k => match k with
  | 0 => .array .int
  | 1 => .array .int
  | 2 => .array .int
  | 3 => .array .int
  | 4 => .int
  | 5 => .array .int
  | _ => .int
theorem nmX2 : ∀ a, a < 7 → ∀ b, b < 7 → a ≠ b → (TX2 a).2.1 ≠ (TX2 b).2.1 := by decide +kernel
theorem tyX2_ok : ∀ k, k < 7 → parseFieldDescriptor (TX2 k).2.2.1 = some (tyX2 k) := by decide +kernel
abbrev cX2_init : ByteArray := prog_4_method_1_code
def yX2_init : MethodName := ⟨RX2, "<init>", "()V"⟩
abbrev cX2_addFlight : ByteArray := prog_4_method_2_code
def yX2_addFlight : MethodName := ⟨RX2, "addFlight", "(IIII)I"⟩
abbrev cX2_addListener : ByteArray := prog_4_method_3_code
def yX2_addListener : MethodName := ⟨RX2, "addListener", "(I)I"⟩
abbrev cX2_isSeeing : ByteArray := prog_4_method_4_code
def yX2_isSeeing : MethodName := ⟨RX2, "isSeeing", "(III)Z"⟩
abbrev cX2_hasLow : ByteArray := prog_4_method_5_code
def yX2_hasLow : MethodName := ⟨RX2, "hasLow", "(IIII)Z"⟩
abbrev cX2_become : ByteArray := prog_4_method_6_code
def yX2_become : MethodName := ⟨RX2, "become", "(LGhostCoast$Eyes;)V"⟩
def RX3 : String := "GhostCoast$Scales"
def TX3 : u_T := fun k => match k with
  | 0 => ("GhostCoast$Scales", "weights", "[J", true)
  | 1 => ("GhostCoast$Scales", "latest", "[I", true)
  | 2 => ("GhostCoast$Scales", "size", "I", false)
  | _ => ("GhostCoast$Scales", "byLatest", "[[J", true)
def tyX3 : Nat → FieldType := fun k => match k with
  | 0 => .array .long
  | 1 => .array .int
  | 2 => .int
  | _ => .array (.array .long)
theorem nmX3 : ∀ a, a < 4 → ∀ b, b < 4 → a ≠ b → (TX3 a).2.1 ≠ (TX3 b).2.1 := by decide +kernel
theorem tyX3_ok : ∀ k, k < 4 → parseFieldDescriptor (TX3 k).2.2.1 = some (tyX3 k) := by decide +kernel
abbrev cX3_init : ByteArray := prog_5_method_1_code
def yX3_init : MethodName := ⟨RX3, "<init>", "()V"⟩
abbrev cX3_load : ByteArray := prog_5_method_2_code
def yX3_load : MethodName := ⟨RX3, "load", "(LGhostCoast$Desk;LGhostCoast$Shows;I)V"⟩
abbrev cX3_insert : ByteArray := prog_5_method_3_code
def yX3_insert : MethodName := ⟨RX3, "insert", "(ILGhostCoast$Desk;)V"⟩
abbrev cX3_leaveRoomFor : ByteArray := prog_5_method_4_code
def yX3_leaveRoomFor : MethodName := ⟨RX3, "leaveRoomFor", "(I)V"⟩
abbrev cX3_put : ByteArray := prog_5_method_5_code
def yX3_put : MethodName := ⟨RX3, "put", "(IZI)V"⟩
abbrev cX3_putGiven : ByteArray := prog_5_method_6_code
def yX3_putGiven : MethodName := ⟨RX3, "putGiven", "(ILGhostCoast$Shows;)V"⟩
abbrev cX3_putDaily : ByteArray := prog_5_method_7_code
def yX3_putDaily : MethodName := ⟨RX3, "putDaily", "(IILGhostCoast$Shows;)V"⟩
abbrev cX3_sum : ByteArray := prog_5_method_8_code
def yX3_sum : MethodName := ⟨RX3, "sum", "()J"⟩
abbrev cX3_heaviest : ByteArray := prog_5_method_9_code
def yX3_heaviest : MethodName := ⟨RX3, "heaviest", "()I"⟩
abbrev cX3_cleared : ByteArray := prog_5_method_10_code
def yX3_cleared : MethodName := ⟨RX3, "cleared", "(IZ)J"⟩
def RX4 : String := "GhostCoast$Sheets"
def TX4 : u_T := fun k => match k with
  | 0 => ("GhostCoast$Sheets", "bits", "[I", true)
  | 1 => ("GhostCoast$Sheets", "length", "[I", true)
  | _ => ("GhostCoast$Sheets", "numbers", "[[I", true)
def tyX4 : Nat → FieldType := fun k => match k with
  | 0 => .array .int
  | 1 => .array .int
  | _ => .array (.array .int)
theorem nmX4 : ∀ a, a < 3 → ∀ b, b < 3 → a ≠ b → (TX4 a).2.1 ≠ (TX4 b).2.1 := by decide +kernel
theorem tyX4_ok : ∀ k, k < 3 → parseFieldDescriptor (TX4 k).2.2.1 = some (tyX4 k) := by decide +kernel
abbrev cX4_init : ByteArray := prog_6_method_1_code
def yX4_init : MethodName := ⟨RX4, "<init>", "()V"⟩
abbrev cX4_isMissing : ByteArray := prog_6_method_2_code
def yX4_isMissing : MethodName := ⟨RX4, "isMissing", "(I)Z"⟩
abbrev cX4_hasRange : ByteArray := prog_6_method_3_code
def yX4_hasRange : MethodName := ⟨RX4, "hasRange", "(III)Z"⟩
def RX5 : String := "GhostCoast$Shows"
def TX5 : u_T := fun k => match k with
  | 0 => ("GhostCoast$Shows", "kind", "[I", true)
  | 1 => ("GhostCoast$Shows", "story", "[I", true)
  | 2 => ("GhostCoast$Shows", "cell", "[I", true)
  | 3 => ("GhostCoast$Shows", "a", "[I", true)
  | 4 => ("GhostCoast$Shows", "b", "[I", true)
  | 5 => ("GhostCoast$Shows", "stands", "[Z", true)
  | 6 => ("GhostCoast$Shows", "since", "[I", true)
  | 7 => ("GhostCoast$Shows", "isBroken", "[Z", true)
  | 8 => ("GhostCoast$Shows", "hands", "[I", true)
  | 9 => ("GhostCoast$Shows", "cost", "[I", true)
  | _ => ("GhostCoast$Shows", "size", "I", false)
def tyX5 : Nat → FieldType := fun k => match k with
  | 0 => .array .int
  | 1 => .array .int
  | 2 => .array .int
  | 3 => .array .int
  | 4 => .array .int
  | 5 => .array .boolean
  | 6 => .array .int
  | 7 => .array .boolean
  | 8 => .array .int
  | 9 => .array .int
  | _ => .int
theorem nmX5 : ∀ a, a < 11 → ∀ b, b < 11 → a ≠ b → (TX5 a).2.1 ≠ (TX5 b).2.1 := by decide +kernel
theorem tyX5_ok : ∀ k, k < 11 → parseFieldDescriptor (TX5 k).2.2.1 = some (tyX5 k) := by decide +kernel
abbrev cX5_init : ByteArray := prog_7_method_1_code
def yX5_init : MethodName := ⟨RX5, "<init>", "()V"⟩
abbrev cX5_add : ByteArray := prog_7_method_2_code
def yX5_add : MethodName := ⟨RX5, "add", "(IIIII)I"⟩
abbrev cX5_has : ByteArray := prog_7_method_3_code
def yX5_has : MethodName := ⟨RX5, "has", "(I)Z"⟩
abbrev cX5_hasAll : ByteArray := prog_7_method_4_code
def yX5_hasAll : MethodName := ⟨RX5, "hasAll", "(I)Z"⟩
abbrev cX5_need : ByteArray := prog_7_method_5_code
def yX5_need : MethodName := ⟨RX5, "need", "(I)I"⟩
abbrev cX5_price : ByteArray := prog_7_method_6_code
def yX5_price : MethodName := ⟨RX5, "price", "(I)I"⟩
abbrev cX5_top : ByteArray := prog_7_method_7_code
def yX5_top : MethodName := ⟨RX5, "top", "(I)I"⟩
abbrev cX5_credit : ByteArray := prog_7_method_8_code
def yX5_credit : MethodName := ⟨RX5, "credit", "(I)I"⟩
abbrev cX5_standing : ByteArray := prog_7_method_9_code
def yX5_standing : MethodName := ⟨RX5, "standing", "()I"⟩
abbrev cX5_handsOfAll : ByteArray := prog_7_method_10_code
def yX5_handsOfAll : MethodName := ⟨RX5, "handsOfAll", "()I"⟩
abbrev cX5_needsOf : ByteArray := prog_7_method_11_code
def yX5_needsOf : MethodName := ⟨RX5, "needsOf", "(I)I"⟩
abbrev cX5_pricesOf : ByteArray := prog_7_method_12_code
def yX5_pricesOf : MethodName := ⟨RX5, "pricesOf", "(I)I"⟩
abbrev cX5_breakBy : ByteArray := prog_7_method_13_code
def yX5_breakBy : MethodName := ⟨RX5, "breakBy", "(I)V"⟩
abbrev cX5_pay : ByteArray := prog_7_method_14_code
def yX5_pay : MethodName := ⟨RX5, "pay", "(I)I"⟩
abbrev cX5_become : ByteArray := prog_7_method_15_code
def yX5_become : MethodName := ⟨RX5, "become", "(LGhostCoast$Shows;)V"⟩
def RX6 : String := "GhostCoast$Tape"
def TX6 : u_T := fun k => match k with
  | 0 => ("GhostCoast$Tape", "bytes", "[I", true)
  | 1 => ("GhostCoast$Tape", "length", "I", false)
  | _ => ("GhostCoast$Tape", "place", "I", false)
def tyX6 : Nat → FieldType := fun k => match k with
  | 0 => .array .int
  | 1 => .int
  | _ => .int
theorem nmX6 : ∀ a, a < 3 → ∀ b, b < 3 → a ≠ b → (TX6 a).2.1 ≠ (TX6 b).2.1 := by decide +kernel
theorem tyX6_ok : ∀ k, k < 3 → parseFieldDescriptor (TX6 k).2.2.1 = some (tyX6 k) := by decide +kernel
abbrev cX6_init : ByteArray := prog_8_method_1_code
def yX6_init : MethodName := ⟨RX6, "<init>", "()V"⟩
abbrev cX6_add : ByteArray := prog_8_method_2_code
def yX6_add : MethodName := ⟨RX6, "add", "(I)V"⟩
abbrev cX6_faultOf : ByteArray := prog_8_method_3_code
def yX6_faultOf : MethodName := ⟨RX6, "faultOf", "(LGhostCoast$Texts;)I"⟩
abbrev cX6_readClause : ByteArray := prog_8_method_4_code
def yX6_readClause : MethodName := ⟨RX6, "readClause", "(LGhostCoast$Texts;I)Z"⟩
abbrev cX6_readTests : ByteArray := prog_8_method_5_code
def yX6_readTests : MethodName := ⟨RX6, "readTests", "(LGhostCoast$Texts;I)Z"⟩
abbrev cX6_readTest : ByteArray := prog_8_method_6_code
def yX6_readTest : MethodName := ⟨RX6, "readTest", "(LGhostCoast$Texts;I)Z"⟩
abbrev cX6_take : ByteArray := prog_8_method_7_code
def yX6_take : MethodName := ⟨RX6, "take", "(C)Z"⟩
abbrev cX6_choose : ByteArray := prog_8_method_8_code
def yX6_choose : MethodName := ⟨RX6, "choose", "(Ljava/lang/String;)I"⟩
abbrev cX6_fitOf : ByteArray := prog_8_method_9_code
def yX6_fitOf : MethodName := ⟨RX6, "fitOf", "(Ljava/lang/String;II)I"⟩
def RX7 : String := "GhostCoast$Texts"
def TX7 : u_T := fun k => match k with
  | 0 => ("GhostCoast$Texts", "from", "[I", true)
  | 1 => ("GhostCoast$Texts", "to", "[I", true)
  | 2 => ("GhostCoast$Texts", "isVoid", "[Z", true)
  | 3 => ("GhostCoast$Texts", "clauses", "[I", true)
  | 4 => ("GhostCoast$Texts", "size", "I", false)
  | 5 => ("GhostCoast$Texts", "verb", "[I", true)
  | 6 => ("GhostCoast$Texts", "kind", "[I", true)
  | 7 => ("GhostCoast$Texts", "tests", "[I", true)
  | 8 => ("GhostCoast$Texts", "isNot", "[Z", true)
  | 9 => ("GhostCoast$Texts", "opensAnd", "[Z", true)
  | 10 => ("GhostCoast$Texts", "fact", "[I", true)
  | 11 => ("GhostCoast$Texts", "sign", "[I", true)
  | _ => ("GhostCoast$Texts", "number", "[I", true)
def tyX7 : Nat → FieldType := fun k => match k with
  | 0 => .array .int
  | 1 => .array .int
  | 2 => .array .boolean
  | 3 => .array .int
  | 4 => .int
  | 5 => .array .int
  | 6 => .array .int
  | 7 => .array .int
  | 8 => .array .boolean
  | 9 => .array .boolean
  | 10 => .array .int
  | 11 => .array .int
  | _ => .array .int
theorem nmX7 : ∀ a, a < 13 → ∀ b, b < 13 → a ≠ b → (TX7 a).2.1 ≠ (TX7 b).2.1 := by decide +kernel
theorem tyX7_ok : ∀ k, k < 13 → parseFieldDescriptor (TX7 k).2.2.1 = some (tyX7 k) := by decide +kernel
abbrev cX7_init : ByteArray := prog_9_method_1_code
def yX7_init : MethodName := ⟨RX7, "<init>", "()V"⟩
abbrev cX7_add : ByteArray := prog_9_method_2_code
def yX7_add : MethodName := ⟨RX7, "add", "(II)I"⟩
abbrev cX7_says : ByteArray := prog_9_method_3_code
def yX7_says : MethodName := ⟨RX7, "says", "(II)Z"⟩
abbrev cX7_clauseAbout : ByteArray := prog_9_method_4_code
def yX7_clauseAbout : MethodName := ⟨RX7, "clauseAbout", "(II[I)I"⟩
abbrev cX7_holds : ByteArray := prog_9_method_5_code
def yX7_holds : MethodName := ⟨RX7, "holds", "(I[I)Z"⟩
abbrev cX7_become : ByteArray := prog_9_method_6_code
def yX7_become : MethodName := ⟨RX7, "become", "(LGhostCoast$Texts;)V"⟩
def RX8 : String := "GhostCoast$World"
def TX8 : u_T := fun k => match k with
  | 0 => ("GhostCoast$World", "coast", "LGhostCoast$Coast;", true)
  | 1 => ("GhostCoast$World", "shows", "LGhostCoast$Shows;", true)
  | 2 => ("GhostCoast$World", "eyes", "LGhostCoast$Eyes;", true)
  | 3 => ("GhostCoast$World", "desk", "LGhostCoast$Desk;", true)
  | 4 => ("GhostCoast$World", "texts", "LGhostCoast$Texts;", true)
  | 5 => ("GhostCoast$World", "book", "[I", true)
  | 6 => ("GhostCoast$World", "pairs", "[I", true)
  | 7 => ("GhostCoast$World", "scales", "LGhostCoast$Scales;", true)
  | _ => ("GhostCoast$World", "facts", "[I", true)
def tyX8 : Nat → FieldType := fun k => match k with
  | 0 => .object "GhostCoast$Coast"
  | 1 => .object "GhostCoast$Shows"
  | 2 => .object "GhostCoast$Eyes"
  | 3 => .object "GhostCoast$Desk"
  | 4 => .object "GhostCoast$Texts"
  | 5 => .array .int
  | 6 => .array .int
  | 7 => .object "GhostCoast$Scales"
  | _ => .array .int
theorem nmX8 : ∀ a, a < 9 → ∀ b, b < 9 → a ≠ b → (TX8 a).2.1 ≠ (TX8 b).2.1 := by decide +kernel
theorem tyX8_ok : ∀ k, k < 9 → parseFieldDescriptor (TX8 k).2.2.1 = some (tyX8 k) := by decide +kernel
abbrev cX8_init : ByteArray := prog_10_method_1_code
def yX8_init : MethodName := ⟨RX8, "<init>", "()V"⟩
abbrev cX8_become : ByteArray := prog_10_method_2_code
def yX8_become : MethodName := ⟨RX8, "become", "(LGhostCoast$World;)V"⟩
abbrev cX8_clauseOf : ByteArray := prog_10_method_3_code
def yX8_clauseOf : MethodName := ⟨RX8, "clauseOf", "(I)I"⟩
abbrev cX8_isShown : ByteArray := prog_10_method_4_code
def yX8_isShown : MethodName := ⟨RX8, "isShown", "(I)Z"⟩
abbrev cX8_shownSet : ByteArray := prog_10_method_5_code
def yX8_shownSet : MethodName := ⟨RX8, "shownSet", "()I"⟩
abbrev cX8_isQuiet : ByteArray := prog_10_method_6_code
def yX8_isQuiet : MethodName := ⟨RX8, "isQuiet", "(I)Z"⟩
abbrev cX8_firstStill : ByteArray := prog_10_method_7_code
def yX8_firstStill : MethodName := ⟨RX8, "firstStill", "(I)I"⟩
abbrev cX8_reportShow : ByteArray := prog_10_method_8_code
def yX8_reportShow : MethodName := ⟨RX8, "reportShow", "(IIZI)V"⟩
abbrev cX8_reportStory : ByteArray := prog_10_method_9_code
def yX8_reportStory : MethodName := ⟨RX8, "reportStory", "(IIZI)V"⟩
abbrev cX8_develop : ByteArray := prog_10_method_10_code
def yX8_develop : MethodName := ⟨RX8, "develop", "(IZI)V"⟩
abbrev cX8_scalesAt : ByteArray := prog_10_method_11_code
def yX8_scalesAt : MethodName := ⟨RX8, "scalesAt", "(I)LGhostCoast$Scales;"⟩
abbrev cX8_carriersOf : ByteArray := prog_10_method_12_code
def yX8_carriersOf : MethodName := ⟨RX8, "carriersOf", "(I)I"⟩
abbrev cX8_collectPairs : ByteArray := prog_10_method_13_code
def yX8_collectPairs : MethodName := ⟨RX8, "collectPairs", "()I"⟩
abbrev cX8_eyeOf : ByteArray := prog_10_method_14_code
def yX8_eyeOf : MethodName := ⟨RX8, "eyeOf", "(I)I"⟩
abbrev cX8_lesserOf : ByteArray := prog_10_method_15_code
def yX8_lesserOf : MethodName := ⟨RX8, "lesserOf", "(I)I"⟩
abbrev cX8_greaterOf : ByteArray := prog_10_method_16_code
def yX8_greaterOf : MethodName := ⟨RX8, "greaterOf", "(I)I"⟩
abbrev cX8_eyeOn : ByteArray := prog_10_method_17_code
def yX8_eyeOn : MethodName := ⟨RX8, "eyeOn", "(II)I"⟩
abbrev cX8_planFor : ByteArray := prog_10_method_18_code
def yX8_planFor : MethodName := ⟨RX8, "planFor", "(IIII)I"⟩
abbrev cX8_firstDayWithout : ByteArray := prog_10_method_19_code
def yX8_firstDayWithout : MethodName := ⟨RX8, "firstDayWithout", "(II)I"⟩
abbrev cX8_isClosed : ByteArray := prog_10_method_20_code
def yX8_isClosed : MethodName := ⟨RX8, "isClosed", "(I)Z"⟩
abbrev cX8_closeHour : ByteArray := prog_10_method_21_code
def yX8_closeHour : MethodName := ⟨RX8, "closeHour", "()V"⟩
abbrev cX8_seeShows : ByteArray := prog_10_method_22_code
def yX8_seeShows : MethodName := ⟨RX8, "seeShows", "(I)V"⟩
abbrev cX8_seeUnits : ByteArray := prog_10_method_23_code
def yX8_seeUnits : MethodName := ⟨RX8, "seeUnits", "(I)V"⟩
abbrev cX8_hearNets : ByteArray := prog_10_method_24_code
def yX8_hearNets : MethodName := ⟨RX8, "hearNets", "()V"⟩
abbrev cX8_findPapers : ByteArray := prog_10_method_25_code
def yX8_findPapers : MethodName := ⟨RX8, "findPapers", "()V"⟩
abbrev cX8_closeDay : ByteArray := prog_10_method_26_code
def yX8_closeDay : MethodName := ⟨RX8, "closeDay", "()V"⟩
def RX9 : String := "GhostCoast"
def TX9 : u_T := fun k => match k with
  | 0 => ("GhostCoast", "now", "LGhostCoast$World;", true)
  | 1 => ("GhostCoast", "kept", "LGhostCoast$World;", true)
  | 2 => ("GhostCoast", "isKept", "Z", false)
  | 3 => ("GhostCoast", "tape", "LGhostCoast$Tape;", true)
  | 4 => ("GhostCoast", "sheets", "LGhostCoast$Sheets;", true)
  | _ => ("GhostCoast", "findings", "[I", true)
def tyX9 : Nat → FieldType := fun k => match k with
  | 0 => .object "GhostCoast$World"
  | 1 => .object "GhostCoast$World"
  | 2 => .boolean
  | 3 => .object "GhostCoast$Tape"
  | 4 => .object "GhostCoast$Sheets"
  | _ => .array .int
theorem nmX9 : ∀ a, a < 6 → ∀ b, b < 6 → a ≠ b → (TX9 a).2.1 ≠ (TX9 b).2.1 := by decide +kernel
theorem tyX9_ok : ∀ k, k < 6 → parseFieldDescriptor (TX9 k).2.2.1 = some (tyX9 k) := by decide +kernel
abbrev cX9_init : ByteArray := prog_1_method_1_code
def yX9_init : MethodName := ⟨RX9, "<init>", "()V"⟩
abbrev cX9_cell : ByteArray := prog_1_method_2_code
def yX9_cell : MethodName := ⟨RX9, "cell", "(II)I"⟩
abbrev cX9_road : ByteArray := prog_1_method_3_code
def yX9_road : MethodName := ⟨RX9, "road", "(III)I"⟩
abbrev cX9_unit : ByteArray := prog_1_method_4_code
def yX9_unit : MethodName := ⟨RX9, "unit", "(II)I"⟩
abbrev cX9_move : ByteArray := prog_1_method_5_code
def yX9_move : MethodName := ⟨RX9, "move", "(II)I"⟩
abbrev cX9_where : ByteArray := prog_1_method_6_code
def yX9_where : MethodName := ⟨RX9, "where", "(II)I"⟩
abbrev cX9_still : ByteArray := prog_1_method_7_code
def yX9_still : MethodName := ⟨RX9, "still", "(II)I"⟩
abbrev cX9_weather : ByteArray := prog_1_method_8_code
def yX9_weather : MethodName := ⟨RX9, "weather", "(II)I"⟩
abbrev cX9_purse : ByteArray := prog_1_method_9_code
def yX9_purse : MethodName := ⟨RX9, "purse", "(II)I"⟩
abbrev cX9_story : ByteArray := prog_1_method_10_code
def yX9_story : MethodName := ⟨RX9, "story", "(II)I"⟩
abbrev cX9_show : ByteArray := prog_1_method_11_code
def yX9_show : MethodName := ⟨RX9, "show", "(III)I"⟩
abbrev cX9_as : ByteArray := prog_1_method_12_code
def yX9_as : MethodName := ⟨RX9, "as", "(II)I"⟩
abbrev cX9_of : ByteArray := prog_1_method_13_code
def yX9_of : MethodName := ⟨RX9, "of", "(II)I"⟩
abbrev cX9_stand : ByteArray := prog_1_method_14_code
def yX9_stand : MethodName := ⟨RX9, "stand", "(IZ)I"⟩
abbrev cX9_hands : ByteArray := prog_1_method_15_code
def yX9_hands : MethodName := ⟨RX9, "hands", "(II)I"⟩
abbrev cX9_mend : ByteArray := prog_1_method_16_code
def yX9_mend : MethodName := ⟨RX9, "mend", "(I)I"⟩
abbrev cX9_flight : ByteArray := prog_1_method_17_code
def yX9_flight : MethodName := ⟨RX9, "flight", "(III)I"⟩
abbrev cX9_listen : ByteArray := prog_1_method_18_code
def yX9_listen : MethodName := ⟨RX9, "listen", "(I)I"⟩
abbrev cX9_tell : ByteArray := prog_1_method_19_code
def yX9_tell : MethodName := ⟨RX9, "tell", "(I)I"⟩
abbrev cX9_prisoner : ByteArray := prog_1_method_20_code
def yX9_prisoner : MethodName := ⟨RX9, "prisoner", "(IZ)I"⟩
abbrev cX9_film : ByteArray := prog_1_method_21_code
def yX9_film : MethodName := ⟨RX9, "film", "(II)I"⟩
abbrev cX9_report : ByteArray := prog_1_method_22_code
def yX9_report : MethodName := ⟨RX9, "report", "(II)I"⟩
abbrev cX9_strike : ByteArray := prog_1_method_23_code
def yX9_strike : MethodName := ⟨RX9, "strike", "(I)I"⟩
abbrev cX9_fade : ByteArray := prog_1_method_24_code
def yX9_fade : MethodName := ⟨RX9, "fade", "(I)I"⟩
abbrev cX9_weight : ByteArray := prog_1_method_25_code
def yX9_weight : MethodName := ⟨RX9, "weight", "(I)J"⟩
abbrev cX9_likely : ByteArray := prog_1_method_26_code
def yX9_likely : MethodName := ⟨RX9, "likely", "(IZ)J"⟩
abbrev cX9_likeliest : ByteArray := prog_1_method_27_code
def yX9_likeliest : MethodName := ⟨RX9, "likeliest", "(I)I"⟩
abbrev cX9_counted : ByteArray := prog_1_method_28_code
def yX9_counted : MethodName := ⟨RX9, "counted", "(I)I"⟩
abbrev cX9_troops : ByteArray := prog_1_method_29_code
def yX9_troops : MethodName := ⟨RX9, "troops", "(I)I"⟩
abbrev cX9_shift : ByteArray := prog_1_method_30_code
def yX9_shift : MethodName := ⟨RX9, "shift", "()I"⟩
abbrev cX9_held : ByteArray := prog_1_method_31_code
def yX9_held : MethodName := ⟨RX9, "held", "(I)I"⟩
abbrev cX9_feed : ByteArray := prog_1_method_32_code
def yX9_feed : MethodName := ⟨RX9, "feed", "(II)I"⟩
abbrev cX9_text : ByteArray := prog_1_method_33_code
def yX9_text : MethodName := ⟨RX9, "text", "(II)I"⟩
abbrev cX9_wipe : ByteArray := prog_1_method_34_code
def yX9_wipe : MethodName := ⟨RX9, "wipe", "()I"⟩
abbrev cX9_drop : ByteArray := prog_1_method_35_code
def yX9_drop : MethodName := ⟨RX9, "drop", "(I)I"⟩
abbrev cX9_must : ByteArray := prog_1_method_36_code
def yX9_must : MethodName := ⟨RX9, "must", "(I)I"⟩
abbrev cX9_may : ByteArray := prog_1_method_37_code
def yX9_may : MethodName := ⟨RX9, "may", "(I)I"⟩
abbrev cX9_why : ByteArray := prog_1_method_38_code
def yX9_why : MethodName := ⟨RX9, "why", "(I)I"⟩
abbrev cX9_agree : ByteArray := prog_1_method_39_code
def yX9_agree : MethodName := ⟨RX9, "agree", "(II)I"⟩
abbrev cX9_slip : ByteArray := prog_1_method_40_code
def yX9_slip : MethodName := ⟨RX9, "slip", "(I)I"⟩
abbrev cX9_carry : ByteArray := prog_1_method_41_code
def yX9_carry : MethodName := ⟨RX9, "carry", "(I)I"⟩
abbrev cX9_plan : ByteArray := prog_1_method_42_code
def yX9_plan : MethodName := ⟨RX9, "plan", "(IIII)I"⟩
abbrev cX9_judge : ByteArray := prog_1_method_43_code
def yX9_judge : MethodName := ⟨RX9, "judge", "(IIZ)J"⟩
abbrev cX9_last : ByteArray := prog_1_method_44_code
def yX9_last : MethodName := ⟨RX9, "last", "(II)I"⟩
abbrev cX9_tick : ByteArray := prog_1_method_45_code
def yX9_tick : MethodName := ⟨RX9, "tick", "(I)I"⟩
abbrev cX9_book : ByteArray := prog_1_method_46_code
def yX9_book : MethodName := ⟨RX9, "book", "(II)I"⟩
abbrev cX9_check : ByteArray := prog_1_method_47_code
def yX9_check : MethodName := ⟨RX9, "check", "(II)I"⟩
abbrev cX9_known : ByteArray := prog_1_method_48_code
def yX9_known : MethodName := ⟨RX9, "known", "(I)I"⟩
abbrev cX9_sheet : ByteArray := prog_1_method_49_code
def yX9_sheet : MethodName := ⟨RX9, "sheet", "(III)I"⟩
abbrev cX9_write : ByteArray := prog_1_method_50_code
def yX9_write : MethodName := ⟨RX9, "write", "(III)I"⟩
abbrev cX9_read : ByteArray := prog_1_method_51_code
def yX9_read : MethodName := ⟨RX9, "read", "(II)I"⟩
abbrev cX9_copy : ByteArray := prog_1_method_52_code
def yX9_copy : MethodName := ⟨RX9, "copy", "(IIIII)I"⟩
abbrev cX9_image : ByteArray := prog_1_method_53_code
def yX9_image : MethodName := ⟨RX9, "image", "()I"⟩
abbrev cX9_undo : ByteArray := prog_1_method_54_code
def yX9_undo : MethodName := ⟨RX9, "undo", "()I"⟩
abbrev cX9_tear : ByteArray := prog_1_method_55_code
def yX9_tear : MethodName := ⟨RX9, "tear", "()I"⟩
abbrev cX9_count : ByteArray := prog_1_method_56_code
def yX9_count : MethodName := ⟨RX9, "count", "(I)I"⟩
abbrev cX9_status : ByteArray := prog_1_method_57_code
def yX9_status : MethodName := ⟨RX9, "status", "(I)I"⟩
abbrev cX9_found : ByteArray := prog_1_method_58_code
def yX9_found : MethodName := ⟨RX9, "found", "(I)I"⟩
abbrev cX9_isIn : ByteArray := prog_1_method_59_code
def yX9_isIn : MethodName := ⟨RX9, "isIn", "(II)Z"⟩
abbrev cX9_isBetween : ByteArray := prog_1_method_60_code
def yX9_isBetween : MethodName := ⟨RX9, "isBetween", "(III)Z"⟩
abbrev cX9_isUnder : ByteArray := prog_1_method_61_code
def yX9_isUnder : MethodName := ⟨RX9, "isUnder", "(II)Z"⟩
def RX10 : String := "GhostCoastModel"
def TX10 : u_T := fun k => match k with
  | 0 => ("GhostCoastModel", "s", "[I", true)
  | 1 => ("GhostCoastModel", "kept", "[I", true)
  | 2 => ("GhostCoastModel", "isKept", "Z", false)
  | 3 => ("GhostCoastModel", "taped", "I", false)
  | 4 => ("GhostCoastModel", "tape", "[B", true)
  | 5 => ("GhostCoastModel", "bits", "[I", true)
  | 6 => ("GhostCoastModel", "size", "[I", true)
  | 7 => ("GhostCoastModel", "number", "[I", true)
  | 8 => ("GhostCoastModel", "told", "[I", true)
  | 9 => ("GhostCoastModel", "cGot", "[I", true)
  | 10 => ("GhostCoastModel", "cStory", "[I", true)
  | 11 => ("GhostCoastModel", "cFor", "[I", true)
  | 12 => ("GhostCoastModel", "cCredit", "[I", true)
  | 13 => ("GhostCoastModel", "counts", "I", false)
  | 14 => ("GhostCoastModel", "weights", "[J", true)
  | 15 => ("GhostCoastModel", "parts", "[I", true)
  | 16 => ("GhostCoastModel", "rests", "[J", true)
  | 17 => ("GhostCoastModel", "at", "I", false)
  | 18 => ("GhostCoastModel", "isWrong", "Z", false)
  | 19 => ("GhostCoastModel", "pairA", "I", false)
  | 20 => ("GhostCoastModel", "pairB", "I", false)
  | _ => ("GhostCoastModel", "carried", "[I", true)
def tyX10 : Nat → FieldType := fun k => match k with
  | 0 => .array .int
  | 1 => .array .int
  | 2 => .boolean
  | 3 => .int
  | 4 => .array .byte
  | 5 => .array .int
  | 6 => .array .int
  | 7 => .array .int
  | 8 => .array .int
  | 9 => .array .int
  | 10 => .array .int
  | 11 => .array .int
  | 12 => .array .int
  | 13 => .int
  | 14 => .array .long
  | 15 => .array .int
  | 16 => .array .long
  | 17 => .int
  | 18 => .boolean
  | 19 => .int
  | 20 => .int
  | _ => .array .int
theorem nmX10 : ∀ a, a < 22 → ∀ b, b < 22 → a ≠ b → (TX10 a).2.1 ≠ (TX10 b).2.1 := by decide +kernel
theorem tyX10_ok : ∀ k, k < 22 → parseFieldDescriptor (TX10 k).2.2.1 = some (tyX10 k) := by decide +kernel
abbrev cX10_init : ByteArray := prog_12_method_1_code
def yX10_init : MethodName := ⟨RX10, "<init>", "()V"⟩
abbrev cX10_finding : ByteArray := prog_12_method_2_code
def yX10_finding : MethodName := ⟨RX10, "finding", "(I)I"⟩
abbrev cX10_in : ByteArray := prog_12_method_3_code
def yX10_in : MethodName := ⟨RX10, "in", "(III)Z"⟩
abbrev cX10_isCell : ByteArray := prog_12_method_4_code
def yX10_isCell : MethodName := ⟨RX10, "isCell", "(I)Z"⟩
abbrev cX10_isHour : ByteArray := prog_12_method_5_code
def yX10_isHour : MethodName := ⟨RX10, "isHour", "(I)Z"⟩
abbrev cX10_isStory : ByteArray := prog_12_method_6_code
def yX10_isStory : MethodName := ⟨RX10, "isStory", "(I)Z"⟩
abbrev cX10_isUnit : ByteArray := prog_12_method_7_code
def yX10_isUnit : MethodName := ⟨RX10, "isUnit", "(I)Z"⟩
abbrev cX10_isRoad : ByteArray := prog_12_method_8_code
def yX10_isRoad : MethodName := ⟨RX10, "isRoad", "(I)Z"⟩
abbrev cX10_isShow : ByteArray := prog_12_method_9_code
def yX10_isShow : MethodName := ⟨RX10, "isShow", "(I)Z"⟩
abbrev cX10_road : ByteArray := prog_12_method_10_code
def yX10_road : MethodName := ⟨RX10, "road", "(II)I"⟩
abbrev cX10_unitAt : ByteArray := prog_12_method_11_code
def yX10_unitAt : MethodName := ⟨RX10, "unitAt", "(II)I"⟩
abbrev cX10_show : ByteArray := prog_12_method_12_code
def yX10_show : MethodName := ⟨RX10, "show", "(II)I"⟩
abbrev cX10_setShow : ByteArray := prog_12_method_13_code
def yX10_setShow : MethodName := ⟨RX10, "setShow", "(III)V"⟩
abbrev cX10_report1 : ByteArray := prog_12_method_14_code
def yX10_report1 : MethodName := ⟨RX10, "report1", "(II)I"⟩
abbrev cX10_cell : ByteArray := prog_12_method_15_code
def yX10_cell : MethodName := ⟨RX10, "cell", "(II)I"⟩
abbrev cX10_road_ : ByteArray := prog_12_method_16_code
def yX10_road_ : MethodName := ⟨RX10, "road", "(III)I"⟩
abbrev cX10_unit : ByteArray := prog_12_method_17_code
def yX10_unit : MethodName := ⟨RX10, "unit", "(II)I"⟩
abbrev cX10_leads : ByteArray := prog_12_method_18_code
def yX10_leads : MethodName := ⟨RX10, "leads", "(II)Z"⟩
abbrev cX10_isQuiet : ByteArray := prog_12_method_19_code
def yX10_isQuiet : MethodName := ⟨RX10, "isQuiet", "(I)Z"⟩
abbrev cX10_move : ByteArray := prog_12_method_20_code
def yX10_move : MethodName := ⟨RX10, "move", "(II)I"⟩
abbrev cX10_where : ByteArray := prog_12_method_21_code
def yX10_where : MethodName := ⟨RX10, "where", "(II)I"⟩
abbrev cX10_isSeen : ByteArray := prog_12_method_22_code
def yX10_isSeen : MethodName := ⟨RX10, "isSeen", "(III)Z"⟩
abbrev cX10_still : ByteArray := prog_12_method_23_code
def yX10_still : MethodName := ⟨RX10, "still", "(II)I"⟩
abbrev cX10_weather : ByteArray := prog_12_method_24_code
def yX10_weather : MethodName := ⟨RX10, "weather", "(II)I"⟩
abbrev cX10_purse : ByteArray := prog_12_method_25_code
def yX10_purse : MethodName := ⟨RX10, "purse", "(II)I"⟩
abbrev cX10_story : ByteArray := prog_12_method_26_code
def yX10_story : MethodName := ⟨RX10, "story", "(II)I"⟩
abbrev cX10_areNumbers : ByteArray := prog_12_method_27_code
def yX10_areNumbers : MethodName := ⟨RX10, "areNumbers", "(III)Z"⟩
abbrev cX10_show_ : ByteArray := prog_12_method_28_code
def yX10_show_ : MethodName := ⟨RX10, "show", "(III)I"⟩
abbrev cX10_isUnder : ByteArray := prog_12_method_29_code
def yX10_isUnder : MethodName := ⟨RX10, "isUnder", "(II)Z"⟩
abbrev cX10_as : ByteArray := prog_12_method_30_code
def yX10_as : MethodName := ⟨RX10, "as", "(II)I"⟩
abbrev cX10_needOf : ByteArray := prog_12_method_31_code
def yX10_needOf : MethodName := ⟨RX10, "needOf", "(I)I"⟩
abbrev cX10_priceOf : ByteArray := prog_12_method_32_code
def yX10_priceOf : MethodName := ⟨RX10, "priceOf", "(I)I"⟩
abbrev cX10_topOf : ByteArray := prog_12_method_33_code
def yX10_topOf : MethodName := ⟨RX10, "topOf", "(I)I"⟩
abbrev cX10_isShown : ByteArray := prog_12_method_34_code
def yX10_isShown : MethodName := ⟨RX10, "isShown", "(I)Z"⟩
abbrev cX10_of : ByteArray := prog_12_method_35_code
def yX10_of : MethodName := ⟨RX10, "of", "(II)I"⟩
abbrev cX10_stand : ByteArray := prog_12_method_36_code
def yX10_stand : MethodName := ⟨RX10, "stand", "(IZ)I"⟩
abbrev cX10_hands : ByteArray := prog_12_method_37_code
def yX10_hands : MethodName := ⟨RX10, "hands", "(II)I"⟩
abbrev cX10_mend : ByteArray := prog_12_method_38_code
def yX10_mend : MethodName := ⟨RX10, "mend", "(I)I"⟩
abbrev cX10_flight : ByteArray := prog_12_method_39_code
def yX10_flight : MethodName := ⟨RX10, "flight", "(III)I"⟩
abbrev cX10_listen : ByteArray := prog_12_method_40_code
def yX10_listen : MethodName := ⟨RX10, "listen", "(I)I"⟩
abbrev cX10_comes : ByteArray := prog_12_method_41_code
def yX10_comes : MethodName := ⟨RX10, "comes", "(IIZIII)I"⟩
abbrev cX10_tell : ByteArray := prog_12_method_42_code
def yX10_tell : MethodName := ⟨RX10, "tell", "(I)I"⟩
abbrev cX10_prisoner : ByteArray := prog_12_method_43_code
def yX10_prisoner : MethodName := ⟨RX10, "prisoner", "(IZ)I"⟩
abbrev cX10_isSheet : ByteArray := prog_12_method_44_code
def yX10_isSheet : MethodName := ⟨RX10, "isSheet", "(I)Z"⟩
abbrev cX10_film : ByteArray := prog_12_method_45_code
def yX10_film : MethodName := ⟨RX10, "film", "(II)I"⟩
abbrev cX10_isReport : ByteArray := prog_12_method_46_code
def yX10_isReport : MethodName := ⟨RX10, "isReport", "(I)Z"⟩
abbrev cX10_creditOf : ByteArray := prog_12_method_47_code
def yX10_creditOf : MethodName := ⟨RX10, "creditOf", "(I)I"⟩
abbrev cX10_report : ByteArray := prog_12_method_48_code
def yX10_report : MethodName := ⟨RX10, "report", "(II)I"⟩
abbrev cX10_strike : ByteArray := prog_12_method_49_code
def yX10_strike : MethodName := ⟨RX10, "strike", "(I)I"⟩
abbrev cX10_fade : ByteArray := prog_12_method_50_code
def yX10_fade : MethodName := ⟨RX10, "fade", "(I)I"⟩
abbrev cX10_more : ByteArray := prog_12_method_51_code
def yX10_more : MethodName := ⟨RX10, "more", "(IIII)V"⟩
abbrev cX10_gather : ByteArray := prog_12_method_52_code
def yX10_gather : MethodName := ⟨RX10, "gather", "(I)V"⟩
abbrev cX10_weigh : ByteArray := prog_12_method_53_code
def yX10_weigh : MethodName := ⟨RX10, "weigh", "()V"⟩
abbrev cX10_all : ByteArray := prog_12_method_54_code
def yX10_all : MethodName := ⟨RX10, "all", "()J"⟩
abbrev cX10_greatest : ByteArray := prog_12_method_55_code
def yX10_greatest : MethodName := ⟨RX10, "greatest", "()I"⟩
abbrev cX10_weight : ByteArray := prog_12_method_56_code
def yX10_weight : MethodName := ⟨RX10, "weight", "(I)J"⟩
abbrev cX10_common : ByteArray := prog_12_method_57_code
def yX10_common : MethodName := ⟨RX10, "common", "(JJ)J"⟩
abbrev cX10_likelyOf : ByteArray := prog_12_method_58_code
def yX10_likelyOf : MethodName := ⟨RX10, "likelyOf", "(IZ)J"⟩
abbrev cX10_likely : ByteArray := prog_12_method_59_code
def yX10_likely : MethodName := ⟨RX10, "likely", "(IZ)J"⟩
abbrev cX10_likeliest : ByteArray := prog_12_method_60_code
def yX10_likeliest : MethodName := ⟨RX10, "likeliest", "(I)I"⟩
abbrev cX10_counted : ByteArray := prog_12_method_61_code
def yX10_counted : MethodName := ⟨RX10, "counted", "(I)I"⟩
abbrev cX10_troops : ByteArray := prog_12_method_62_code
def yX10_troops : MethodName := ⟨RX10, "troops", "(I)I"⟩
abbrev cX10_shift : ByteArray := prog_12_method_63_code
def yX10_shift : MethodName := ⟨RX10, "shift", "()I"⟩
abbrev cX10_held : ByteArray := prog_12_method_64_code
def yX10_held : MethodName := ⟨RX10, "held", "(I)I"⟩
abbrev cX10_feed : ByteArray := prog_12_method_65_code
def yX10_feed : MethodName := ⟨RX10, "feed", "(II)I"⟩
abbrev cX10_wipe : ByteArray := prog_12_method_66_code
def yX10_wipe : MethodName := ⟨RX10, "wipe", "()I"⟩
abbrev cX10_begins : ByteArray := prog_12_method_67_code
def yX10_begins : MethodName := ⟨RX10, "begins", "(I)I"⟩
abbrev cX10_byteAt : ByteArray := prog_12_method_68_code
def yX10_byteAt : MethodName := ⟨RX10, "byteAt", "(I)I"⟩
abbrev cX10_wrong : ByteArray := prog_12_method_69_code
def yX10_wrong : MethodName := ⟨RX10, "wrong", "(I)V"⟩
abbrev cX10_word : ByteArray := prog_12_method_70_code
def yX10_word : MethodName := ⟨RX10, "word", "(II)I"⟩
abbrev cX10_takes : ByteArray := prog_12_method_71_code
def yX10_takes : MethodName := ⟨RX10, "takes", "(I)Z"⟩
abbrev cX10_needs : ByteArray := prog_12_method_72_code
def yX10_needs : MethodName := ⟨RX10, "needs", "(I)V"⟩
abbrev cX10_digits : ByteArray := prog_12_method_73_code
def yX10_digits : MethodName := ⟨RX10, "digits", "()I"⟩
abbrev cX10_test : ByteArray := prog_12_method_74_code
def yX10_test : MethodName := ⟨RX10, "test", "(IZ)V"⟩
abbrev cX10_clause : ByteArray := prog_12_method_75_code
def yX10_clause : MethodName := ⟨RX10, "clause", "(I)V"⟩
abbrev cX10_text : ByteArray := prog_12_method_76_code
def yX10_text : MethodName := ⟨RX10, "text", "(II)I"⟩
abbrev cX10_drop : ByteArray := prog_12_method_77_code
def yX10_drop : MethodName := ⟨RX10, "drop", "(I)I"⟩
abbrev cX10_valueOf : ByteArray := prog_12_method_78_code
def yX10_valueOf : MethodName := ⟨RX10, "valueOf", "(II)I"⟩
abbrev cX10_isSo : ByteArray := prog_12_method_79_code
def yX10_isSo : MethodName := ⟨RX10, "isSo", "(II)Z"⟩
abbrev cX10_isAbout : ByteArray := prog_12_method_80_code
def yX10_isAbout : MethodName := ⟨RX10, "isAbout", "(II)Z"⟩
abbrev cX10_clauseOf : ByteArray := prog_12_method_81_code
def yX10_clauseOf : MethodName := ⟨RX10, "clauseOf", "(I)I"⟩
abbrev cX10_wordOf : ByteArray := prog_12_method_82_code
def yX10_wordOf : MethodName := ⟨RX10, "wordOf", "(I)I"⟩
abbrev cX10_must : ByteArray := prog_12_method_83_code
def yX10_must : MethodName := ⟨RX10, "must", "(I)I"⟩
abbrev cX10_may : ByteArray := prog_12_method_84_code
def yX10_may : MethodName := ⟨RX10, "may", "(I)I"⟩
abbrev cX10_why : ByteArray := prog_12_method_85_code
def yX10_why : MethodName := ⟨RX10, "why", "(I)I"⟩
abbrev cX10_eyeOf : ByteArray := prog_12_method_86_code
def yX10_eyeOf : MethodName := ⟨RX10, "eyeOf", "(II)I"⟩
abbrev cX10_pairs : ByteArray := prog_12_method_87_code
def yX10_pairs : MethodName := ⟨RX10, "pairs", "(I)I"⟩
abbrev cX10_agree : ByteArray := prog_12_method_88_code
def yX10_agree : MethodName := ⟨RX10, "agree", "(II)I"⟩
abbrev cX10_slip : ByteArray := prog_12_method_89_code
def yX10_slip : MethodName := ⟨RX10, "slip", "(I)I"⟩
abbrev cX10_carry : ByteArray := prog_12_method_90_code
def yX10_carry : MethodName := ⟨RX10, "carry", "(I)I"⟩
abbrev cX10_giveOf : ByteArray := prog_12_method_91_code
def yX10_giveOf : MethodName := ⟨RX10, "giveOf", "(I)I"⟩
abbrev cX10_give : ByteArray := prog_12_method_92_code
def yX10_give : MethodName := ⟨RX10, "give", "(II)V"⟩
abbrev cX10_ones : ByteArray := prog_12_method_93_code
def yX10_ones : MethodName := ⟨RX10, "ones", "(I)I"⟩
abbrev cX10_isSet : ByteArray := prog_12_method_94_code
def yX10_isSet : MethodName := ⟨RX10, "isSet", "(I)Z"⟩
abbrev cX10_lasts : ByteArray := prog_12_method_95_code
def yX10_lasts : MethodName := ⟨RX10, "lasts", "(III)Z"⟩
abbrev cX10_plan : ByteArray := prog_12_method_96_code
def yX10_plan : MethodName := ⟨RX10, "plan", "(IIII)I"⟩
abbrev cX10_judge : ByteArray := prog_12_method_97_code
def yX10_judge : MethodName := ⟨RX10, "judge", "(IIZ)J"⟩
abbrev cX10_last : ByteArray := prog_12_method_98_code
def yX10_last : MethodName := ⟨RX10, "last", "(II)I"⟩
abbrev cX10_storm : ByteArray := prog_12_method_99_code
def yX10_storm : MethodName := ⟨RX10, "storm", "()V"⟩
abbrev cX10_flies : ByteArray := prog_12_method_100_code
def yX10_flies : MethodName := ⟨RX10, "flies", "(I)V"⟩
abbrev cX10_listens : ByteArray := prog_12_method_101_code
def yX10_listens : MethodName := ⟨RX10, "listens", "()V"⟩
abbrev cX10_papers : ByteArray := prog_12_method_102_code
def yX10_papers : MethodName := ⟨RX10, "papers", "()V"⟩
abbrev cX10_marches : ByteArray := prog_12_method_103_code
def yX10_marches : MethodName := ⟨RX10, "marches", "()V"⟩
abbrev cX10_knownBy : ByteArray := prog_12_method_104_code
def yX10_knownBy : MethodName := ⟨RX10, "knownBy", "(I)I"⟩
abbrev cX10_standing : ByteArray := prog_12_method_105_code
def yX10_standing : MethodName := ⟨RX10, "standing", "()I"⟩
abbrev cX10_closes : ByteArray := prog_12_method_106_code
def yX10_closes : MethodName := ⟨RX10, "closes", "()V"⟩
abbrev cX10_oneHour : ByteArray := prog_12_method_107_code
def yX10_oneHour : MethodName := ⟨RX10, "oneHour", "()V"⟩
abbrev cX10_tick : ByteArray := prog_12_method_108_code
def yX10_tick : MethodName := ⟨RX10, "tick", "(I)I"⟩
abbrev cX10_isClosed : ByteArray := prog_12_method_109_code
def yX10_isClosed : MethodName := ⟨RX10, "isClosed", "(I)Z"⟩
abbrev cX10_book : ByteArray := prog_12_method_110_code
def yX10_book : MethodName := ⟨RX10, "book", "(II)I"⟩
abbrev cX10_check : ByteArray := prog_12_method_111_code
def yX10_check : MethodName := ⟨RX10, "check", "(II)I"⟩
abbrev cX10_isCloud : ByteArray := prog_12_method_112_code
def yX10_isCloud : MethodName := ⟨RX10, "isCloud", "(II)Z"⟩
abbrev cX10_known : ByteArray := prog_12_method_113_code
def yX10_known : MethodName := ⟨RX10, "known", "(I)I"⟩
abbrev cX10_sheet : ByteArray := prog_12_method_114_code
def yX10_sheet : MethodName := ⟨RX10, "sheet", "(III)I"⟩
abbrev cX10_write : ByteArray := prog_12_method_115_code
def yX10_write : MethodName := ⟨RX10, "write", "(III)I"⟩
abbrev cX10_read : ByteArray := prog_12_method_116_code
def yX10_read : MethodName := ⟨RX10, "read", "(II)I"⟩
abbrev cX10_copy : ByteArray := prog_12_method_117_code
def yX10_copy : MethodName := ⟨RX10, "copy", "(IIIII)I"⟩
abbrev cX10_image : ByteArray := prog_12_method_118_code
def yX10_image : MethodName := ⟨RX10, "image", "()I"⟩
abbrev cX10_undo : ByteArray := prog_12_method_119_code
def yX10_undo : MethodName := ⟨RX10, "undo", "()I"⟩
abbrev cX10_tear : ByteArray := prog_12_method_120_code
def yX10_tear : MethodName := ⟨RX10, "tear", "()I"⟩
abbrev cX10_count : ByteArray := prog_12_method_121_code
def yX10_count : MethodName := ⟨RX10, "count", "(I)I"⟩
abbrev cX10_status : ByteArray := prog_12_method_122_code
def yX10_status : MethodName := ⟨RX10, "status", "(I)I"⟩
def RJx145de : String := "java/io/Serializable"
def RJx9f9b0 : String := "java/lang/CharSequence"
def RJxb160c : String := "java/lang/Comparable"
def RJ6 : String := "java/lang/Integer"
abbrev cJ6_bitCount_0f7a4 : ByteArray := prog_13_method_49_code
def yJ6_bitCount_0f7a4 : MethodName := ⟨RJ6, "bitCount", "(I)I"⟩
def RJ9 : String := "java/lang/Math"
abbrev cJ9_max_7cf53 : ByteArray := prog_14_method_65_code
def yJ9_max_7cf53 : MethodName := ⟨RJ9, "max", "(II)I"⟩
abbrev cJ9_max_f86c9 : ByteArray := prog_14_method_66_code
def yJ9_max_f86c9 : MethodName := ⟨RJ9, "max", "(JJ)J"⟩
abbrev cJ9_min_7cf53 : ByteArray := prog_14_method_69_code
def yJ9_min_7cf53 : MethodName := ⟨RJ9, "min", "(II)I"⟩
def RJ0 : String := "java/lang/String"
abbrev cJ0_length_8abf5 : ByteArray := prog_15_method_54_code
def yJ0_length_8abf5 : MethodName := ⟨RJ0, "length", "()I"⟩
abbrev cJ0_charAt_5068e : ByteArray := prog_15_method_56_code
def yJ0_charAt_5068e : MethodName := ⟨RJ0, "charAt", "(I)C"⟩
abbrev cJ0_coder_7d493 : ByteArray := prog_15_method_152_code
def yJ0_coder_7d493 : MethodName := ⟨RJ0, "coder", "()B"⟩
abbrev cJ0_isLatin1_aae02 : ByteArray := prog_15_method_154_code
def yJ0_isLatin1_aae02 : MethodName := ⟨RJ0, "isLatin1", "()Z"⟩
abbrev cJ0_checkIndex_df160 : ByteArray := prog_15_method_155_code
def yJ0_checkIndex_df160 : MethodName := ⟨RJ0, "checkIndex", "(II)V"⟩
def RJ1 : String := "java/lang/StringLatin1"
abbrev cJ1_charAt_3b067 : ByteArray := prog_16_method_2_code
def yJ1_charAt_3b067 : MethodName := ⟨RJ1, "charAt", "([BI)C"⟩
def RJ2 : String := "java/lang/StringUTF16"
abbrev cJ2_getChar_3b067 : ByteArray := prog_17_method_5_code
def yJ2_getChar_3b067 : MethodName := ⟨RJ2, "getChar", "([BI)C"⟩
abbrev cJ2_length_9d52b : ByteArray := prog_17_method_6_code
def yJ2_length_9d52b : MethodName := ⟨RJ2, "length", "([B)I"⟩
abbrev cJ2_charAt_3b067 : ByteArray := prog_17_method_83_code
def yJ2_charAt_3b067 : MethodName := ⟨RJ2, "charAt", "([BI)C"⟩
abbrev cJ2_checkIndex_2214a : ByteArray := prog_17_method_91_code
def yJ2_checkIndex_2214a : MethodName := ⟨RJ2, "checkIndex", "(I[B)V"⟩
def RJ10 : String := "java/lang/System"
def RJxfd54e : String := "java/lang/constant/Constable"
def RJx3cf43 : String := "java/lang/constant/ConstantDesc"
def RJ7 : String := "java/util/Arrays"
abbrev cJ7_fill_d0a16 : ByteArray := prog_19_method_101_code
def yJ7_fill_d0a16 : MethodName := ⟨RJ7, "fill", "([JJ)V"⟩
abbrev cJ7_fill_53178 : ByteArray := prog_19_method_103_code
def yJ7_fill_53178 : MethodName := ⟨RJ7, "fill", "([II)V"⟩
def RJ3 : String := "jdk/internal/util/Preconditions"
abbrev cJ3_checkIndex_8e157 : ByteArray := prog_20_method_11_code
def yJ3_checkIndex_8e157 : MethodName := ⟨RJ3, "checkIndex", "(IILjava/util/function/BiFunction;)I"⟩
def RL : String := "GhostCoastLaw"
abbrev vwCl : List vw_C := [(RX0, TX0, 16), (RX1, TX1, 13), (RX2, TX2, 7), (RX3, TX3, 4), (RX4, TX4, 3), (RX5, TX5, 11), (RX6, TX6, 3), (RX7, TX7, 13), (RX8, TX8, 9), (RX9, TX9, 6), (RX10, TX10, 22)]
