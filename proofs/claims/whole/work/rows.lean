section
-- ===== PART A: goes FIRST, ahead of the names: the tables' words, and 'selects' of the private methods out of them =====
/-- a private method of a class that the tables say can be made, by its rows of tables_1 -/
def lw_okq (q : MethodName × Nat) : Prop := (q.1.cls ≠ "java/lang/invoke/MethodHandle" ∧ q.1.cls ≠ "java/lang/invoke/VarHandle") ∧ Cond.instantiable q.1.cls q.2 ∈ tables_1 ∧ Cond.privateMethod q.1 ∈ tables_1 ∧ Cond.instanceMethod q.1 ∈ tables_1
theorem lw_p0 : lw_okq (⟨"SpatialPoints$Rebuilder", "gatherMembers", "(I)V"⟩, 9) := ⟨⟨by decide +kernel, by decide +kernel⟩, List.mem_of_getElem? (i := 154) (by decide +kernel), List.mem_of_getElem? (i := 412) (by decide +kernel), List.mem_of_getElem? (i := 413) (by decide +kernel)⟩
theorem lw_p1 : lw_okq (⟨"SpatialPoints$Rebuilder", "addTask", "(IIII)V"⟩, 9) := ⟨⟨by decide +kernel, by decide +kernel⟩, List.mem_of_getElem? (i := 154) (by decide +kernel), List.mem_of_getElem? (i := 449) (by decide +kernel), List.mem_of_getElem? (i := 450) (by decide +kernel)⟩
theorem lw_p2 : lw_okq (⟨"SpatialPoints$Rebuilder", "doTask", "(I)V"⟩, 9) := ⟨⟨by decide +kernel, by decide +kernel⟩, List.mem_of_getElem? (i := 154) (by decide +kernel), List.mem_of_getElem? (i := 453) (by decide +kernel), List.mem_of_getElem? (i := 454) (by decide +kernel)⟩
theorem lw_p3 : lw_okq (⟨"SpatialPoints$Rebuilder", "sortMembers", "(III)V"⟩, 9) := ⟨⟨by decide +kernel, by decide +kernel⟩, List.mem_of_getElem? (i := 154) (by decide +kernel), List.mem_of_getElem? (i := 457) (by decide +kernel), List.mem_of_getElem? (i := 458) (by decide +kernel)⟩
theorem lw_p4 : lw_okq (⟨"SpatialPoints$Tree", "listPreorder", "()V"⟩, 12) := ⟨⟨by decide +kernel, by decide +kernel⟩, List.mem_of_getElem? (i := 74) (by decide +kernel), List.mem_of_getElem? (i := 473) (by decide +kernel), List.mem_of_getElem? (i := 474) (by decide +kernel)⟩
theorem lw_p5 : lw_okq (⟨"SpatialPoints$Tree", "reach", "(II)V"⟩, 12) := ⟨⟨by decide +kernel, by decide +kernel⟩, List.mem_of_getElem? (i := 74) (by decide +kernel), List.mem_of_getElem? (i := 478) (by decide +kernel), List.mem_of_getElem? (i := 479) (by decide +kernel)⟩
theorem lw_p6 : lw_okq (⟨"SpatialPoints$Tree", "summarise", "(I)V"⟩, 12) := ⟨⟨by decide +kernel, by decide +kernel⟩, List.mem_of_getElem? (i := 74) (by decide +kernel), List.mem_of_getElem? (i := 488) (by decide +kernel), List.mem_of_getElem? (i := 489) (by decide +kernel)⟩
theorem lw_p7 : lw_okq (⟨"SpatialPoints$Search", "measureVisible", "()V"⟩, 10) := ⟨⟨by decide +kernel, by decide +kernel⟩, List.mem_of_getElem? (i := 250) (by decide +kernel), List.mem_of_getElem? (i := 518) (by decide +kernel), List.mem_of_getElem? (i := 519) (by decide +kernel)⟩
theorem lw_p8 : lw_okq (⟨"SpatialPoints$Search", "spreadLabel", "(II)V"⟩, 10) := ⟨⟨by decide +kernel, by decide +kernel⟩, List.mem_of_getElem? (i := 250) (by decide +kernel), List.mem_of_getElem? (i := 575) (by decide +kernel), List.mem_of_getElem? (i := 576) (by decide +kernel)⟩
theorem lw_p9 : lw_okq (⟨"SpatialPoints$Search", "labelNeighbours", "(III)V"⟩, 10) := ⟨⟨by decide +kernel, by decide +kernel⟩, List.mem_of_getElem? (i := 250) (by decide +kernel), List.mem_of_getElem? (i := 579) (by decide +kernel), List.mem_of_getElem? (i := 580) (by decide +kernel)⟩
theorem lw_p10 : lw_okq (⟨"SpatialPoints$Search", "isInBox", "(I)Z"⟩, 10) := ⟨⟨by decide +kernel, by decide +kernel⟩, List.mem_of_getElem? (i := 250) (by decide +kernel), List.mem_of_getElem? (i := 595) (by decide +kernel), List.mem_of_getElem? (i := 596) (by decide +kernel)⟩
theorem lw_p11 : lw_okq (⟨"SpatialPoints$Search", "meetsBox", "(I)Z"⟩, 10) := ⟨⟨by decide +kernel, by decide +kernel⟩, List.mem_of_getElem? (i := 250) (by decide +kernel), List.mem_of_getElem? (i := 620) (by decide +kernel), List.mem_of_getElem? (i := 621) (by decide +kernel)⟩
theorem lw_p12 : lw_okq (⟨"java/lang/Throwable", "fillInStackTrace", "(I)Ljava/lang/Throwable;"⟩, 6) := ⟨⟨by decide +kernel, by decide +kernel⟩, List.mem_of_getElem? (i := 728) (by decide +kernel), List.mem_of_getElem? (i := 726) (by decide +kernel), List.mem_of_getElem? (i := 727) (by decide +kernel)⟩
theorem lw_p13 : lw_okq (⟨"SpatialPoints$State", "highestUnbalanced", "(I)I"⟩, 4) := ⟨⟨by decide +kernel, by decide +kernel⟩, List.mem_of_getElem? (i := 34) (by decide +kernel), List.mem_of_getElem? (i := 794) (by decide +kernel), List.mem_of_getElem? (i := 795) (by decide +kernel)⟩
theorem lw_p14 : lw_okq (⟨"SpatialPoints$State", "isUnbalanced", "(I)Z"⟩, 4) := ⟨⟨by decide +kernel, by decide +kernel⟩, List.mem_of_getElem? (i := 34) (by decide +kernel), List.mem_of_getElem? (i := 798) (by decide +kernel), List.mem_of_getElem? (i := 799) (by decide +kernel)⟩
theorem lw_p15 : lw_okq (⟨"SpatialPoints", "requirePoint", "(I)V"⟩, 6) := ⟨⟨by decide +kernel, by decide +kernel⟩, List.mem_of_getElem? (i := 26) (by decide +kernel), List.mem_of_getElem? (i := 847) (by decide +kernel), List.mem_of_getElem? (i := 848) (by decide +kernel)⟩
def lw_privs_1 : List (MethodName × Nat) := [(⟨"SpatialPoints$Rebuilder", "gatherMembers", "(I)V"⟩, 9), (⟨"SpatialPoints$Rebuilder", "addTask", "(IIII)V"⟩, 9), (⟨"SpatialPoints$Rebuilder", "doTask", "(I)V"⟩, 9), (⟨"SpatialPoints$Rebuilder", "sortMembers", "(III)V"⟩, 9), (⟨"SpatialPoints$Tree", "listPreorder", "()V"⟩, 12), (⟨"SpatialPoints$Tree", "reach", "(II)V"⟩, 12), (⟨"SpatialPoints$Tree", "summarise", "(I)V"⟩, 12), (⟨"SpatialPoints$Search", "measureVisible", "()V"⟩, 10), (⟨"SpatialPoints$Search", "spreadLabel", "(II)V"⟩, 10), (⟨"SpatialPoints$Search", "labelNeighbours", "(III)V"⟩, 10), (⟨"SpatialPoints$Search", "isInBox", "(I)Z"⟩, 10), (⟨"SpatialPoints$Search", "meetsBox", "(I)Z"⟩, 10), (⟨"java/lang/Throwable", "fillInStackTrace", "(I)Ljava/lang/Throwable;"⟩, 6), (⟨"SpatialPoints$State", "highestUnbalanced", "(I)I"⟩, 4), (⟨"SpatialPoints$State", "isUnbalanced", "(I)Z"⟩, 4), (⟨"SpatialPoints", "requirePoint", "(I)V"⟩, 6)]
theorem lw_r1 : ∀ q ∈ lw_privs_1, lw_okq q := List.forall_mem_cons.mpr ⟨lw_p0, List.forall_mem_cons.mpr ⟨lw_p1, List.forall_mem_cons.mpr ⟨lw_p2, List.forall_mem_cons.mpr ⟨lw_p3, List.forall_mem_cons.mpr ⟨lw_p4, List.forall_mem_cons.mpr ⟨lw_p5, List.forall_mem_cons.mpr ⟨lw_p6, List.forall_mem_cons.mpr ⟨lw_p7, List.forall_mem_cons.mpr ⟨lw_p8, List.forall_mem_cons.mpr ⟨lw_p9, List.forall_mem_cons.mpr ⟨lw_p10, List.forall_mem_cons.mpr ⟨lw_p11, List.forall_mem_cons.mpr ⟨lw_p12, List.forall_mem_cons.mpr ⟨lw_p13, List.forall_mem_cons.mpr ⟨lw_p14, List.forall_mem_cons.mpr ⟨lw_p15, fun _ h => absurd h List.not_mem_nil⟩⟩⟩⟩⟩⟩⟩⟩⟩⟩⟩⟩⟩⟩⟩⟩
theorem lw_p16 : lw_okq (⟨"SpatialPoints", "requireAxis", "(I)V"⟩, 6) := ⟨⟨by decide +kernel, by decide +kernel⟩, List.mem_of_getElem? (i := 26) (by decide +kernel), List.mem_of_getElem? (i := 853) (by decide +kernel), List.mem_of_getElem? (i := 854) (by decide +kernel)⟩
theorem lw_p17 : lw_okq (⟨"SpatialPoints", "requireNode", "(I)V"⟩, 6) := ⟨⟨by decide +kernel, by decide +kernel⟩, List.mem_of_getElem? (i := 26) (by decide +kernel), List.mem_of_getElem? (i := 941) (by decide +kernel), List.mem_of_getElem? (i := 942) (by decide +kernel)⟩
theorem lw_p18 : lw_okq (⟨"SpatialPoints", "requireBox", "(I)V"⟩, 6) := ⟨⟨by decide +kernel, by decide +kernel⟩, List.mem_of_getElem? (i := 26) (by decide +kernel), List.mem_of_getElem? (i := 992) (by decide +kernel), List.mem_of_getElem? (i := 993) (by decide +kernel)⟩
theorem lw_p19 : lw_okq (⟨"SpatialPoints$Search", "gapOn", "(II)I"⟩, 10) := ⟨⟨by decide +kernel, by decide +kernel⟩, List.mem_of_getElem? (i := 250) (by decide +kernel), List.mem_of_getElem? (i := 1091) (by decide +kernel), List.mem_of_getElem? (i := 1092) (by decide +kernel)⟩
theorem lw_p20 : lw_okq (⟨"SpatialPoints$Search", "rankOf", "(I)I"⟩, 10) := ⟨⟨by decide +kernel, by decide +kernel⟩, List.mem_of_getElem? (i := 250) (by decide +kernel), List.mem_of_getElem? (i := 1106) (by decide +kernel), List.mem_of_getElem? (i := 1107) (by decide +kernel)⟩
theorem lw_p21 : lw_okq (⟨"SpatialPoints$Search", "offerPair", "(II)V"⟩, 10) := ⟨⟨by decide +kernel, by decide +kernel⟩, List.mem_of_getElem? (i := 250) (by decide +kernel), List.mem_of_getElem? (i := 1135) (by decide +kernel), List.mem_of_getElem? (i := 1136) (by decide +kernel)⟩
theorem lw_p22 : lw_okq (⟨"SpatialPoints", "requireVisible", "(I)V"⟩, 6) := ⟨⟨by decide +kernel, by decide +kernel⟩, List.mem_of_getElem? (i := 26) (by decide +kernel), List.mem_of_getElem? (i := 1147) (by decide +kernel), List.mem_of_getElem? (i := 1148) (by decide +kernel)⟩
theorem lw_p23 : lw_okq (⟨"SpatialPoints$Search", "nearestOther", "(I)I"⟩, 10) := ⟨⟨by decide +kernel, by decide +kernel⟩, List.mem_of_getElem? (i := 250) (by decide +kernel), List.mem_of_getElem? (i := 1157) (by decide +kernel), List.mem_of_getElem? (i := 1158) (by decide +kernel)⟩
theorem lw_p24 : lw_okq (⟨"SpatialPoints$Cursor", "listPreorder", "()V"⟩, 5) := ⟨⟨by decide +kernel, by decide +kernel⟩, List.mem_of_getElem? (i := 293) (by decide +kernel), List.mem_of_getElem? (i := 1213) (by decide +kernel), List.mem_of_getElem? (i := 1214) (by decide +kernel)⟩
theorem lw_p25 : lw_okq (⟨"SpatialPoints$Cursor", "addIfAlive", "(I)V"⟩, 5) := ⟨⟨by decide +kernel, by decide +kernel⟩, List.mem_of_getElem? (i := 293) (by decide +kernel), List.mem_of_getElem? (i := 1218) (by decide +kernel), List.mem_of_getElem? (i := 1219) (by decide +kernel)⟩
theorem lw_p26 : lw_okq (⟨"SpatialPoints$Cursor", "listInorder", "()V"⟩, 5) := ⟨⟨by decide +kernel, by decide +kernel⟩, List.mem_of_getElem? (i := 293) (by decide +kernel), List.mem_of_getElem? (i := 1224) (by decide +kernel), List.mem_of_getElem? (i := 1225) (by decide +kernel)⟩
theorem lw_p27 : lw_okq (⟨"SpatialPoints$Cursor", "waitLeftwards", "(I)V"⟩, 5) := ⟨⟨by decide +kernel, by decide +kernel⟩, List.mem_of_getElem? (i := 293) (by decide +kernel), List.mem_of_getElem? (i := 1228) (by decide +kernel), List.mem_of_getElem? (i := 1229) (by decide +kernel)⟩
theorem lw_p28 : lw_okq (⟨"SpatialPoints$Cursor", "listLevels", "()V"⟩, 5) := ⟨⟨by decide +kernel, by decide +kernel⟩, List.mem_of_getElem? (i := 293) (by decide +kernel), List.mem_of_getElem? (i := 1234) (by decide +kernel), List.mem_of_getElem? (i := 1235) (by decide +kernel)⟩
theorem lw_p29 : lw_okq (⟨"SpatialPoints", "requireCursor", "()V"⟩, 6) := ⟨⟨by decide +kernel, by decide +kernel⟩, List.mem_of_getElem? (i := 26) (by decide +kernel), List.mem_of_getElem? (i := 1246) (by decide +kernel), List.mem_of_getElem? (i := 1247) (by decide +kernel)⟩
theorem lw_p30 : lw_okq (⟨"SpatialPoints$Text", "parseDescription", "()V"⟩, 7) := ⟨⟨by decide +kernel, by decide +kernel⟩, List.mem_of_getElem? (i := 318) (by decide +kernel), List.mem_of_getElem? (i := 1290) (by decide +kernel), List.mem_of_getElem? (i := 1291) (by decide +kernel)⟩
theorem lw_p31 : lw_okq (⟨"SpatialPoints$Text", "demand", "(C)V"⟩, 7) := ⟨⟨by decide +kernel, by decide +kernel⟩, List.mem_of_getElem? (i := 318) (by decide +kernel), List.mem_of_getElem? (i := 1294) (by decide +kernel), List.mem_of_getElem? (i := 1295) (by decide +kernel)⟩
def lw_privs_2 : List (MethodName × Nat) := [(⟨"SpatialPoints", "requireAxis", "(I)V"⟩, 6), (⟨"SpatialPoints", "requireNode", "(I)V"⟩, 6), (⟨"SpatialPoints", "requireBox", "(I)V"⟩, 6), (⟨"SpatialPoints$Search", "gapOn", "(II)I"⟩, 10), (⟨"SpatialPoints$Search", "rankOf", "(I)I"⟩, 10), (⟨"SpatialPoints$Search", "offerPair", "(II)V"⟩, 10), (⟨"SpatialPoints", "requireVisible", "(I)V"⟩, 6), (⟨"SpatialPoints$Search", "nearestOther", "(I)I"⟩, 10), (⟨"SpatialPoints$Cursor", "listPreorder", "()V"⟩, 5), (⟨"SpatialPoints$Cursor", "addIfAlive", "(I)V"⟩, 5), (⟨"SpatialPoints$Cursor", "listInorder", "()V"⟩, 5), (⟨"SpatialPoints$Cursor", "waitLeftwards", "(I)V"⟩, 5), (⟨"SpatialPoints$Cursor", "listLevels", "()V"⟩, 5), (⟨"SpatialPoints", "requireCursor", "()V"⟩, 6), (⟨"SpatialPoints$Text", "parseDescription", "()V"⟩, 7), (⟨"SpatialPoints$Text", "demand", "(C)V"⟩, 7)]
theorem lw_r2 : ∀ q ∈ lw_privs_2, lw_okq q := List.forall_mem_cons.mpr ⟨lw_p16, List.forall_mem_cons.mpr ⟨lw_p17, List.forall_mem_cons.mpr ⟨lw_p18, List.forall_mem_cons.mpr ⟨lw_p19, List.forall_mem_cons.mpr ⟨lw_p20, List.forall_mem_cons.mpr ⟨lw_p21, List.forall_mem_cons.mpr ⟨lw_p22, List.forall_mem_cons.mpr ⟨lw_p23, List.forall_mem_cons.mpr ⟨lw_p24, List.forall_mem_cons.mpr ⟨lw_p25, List.forall_mem_cons.mpr ⟨lw_p26, List.forall_mem_cons.mpr ⟨lw_p27, List.forall_mem_cons.mpr ⟨lw_p28, List.forall_mem_cons.mpr ⟨lw_p29, List.forall_mem_cons.mpr ⟨lw_p30, List.forall_mem_cons.mpr ⟨lw_p31, fun _ h => absurd h List.not_mem_nil⟩⟩⟩⟩⟩⟩⟩⟩⟩⟩⟩⟩⟩⟩⟩⟩
theorem lw_p32 : lw_okq (⟨"SpatialPoints$Text", "accepts", "(C)Z"⟩, 7) := ⟨⟨by decide +kernel, by decide +kernel⟩, List.mem_of_getElem? (i := 318) (by decide +kernel), List.mem_of_getElem? (i := 1298) (by decide +kernel), List.mem_of_getElem? (i := 1299) (by decide +kernel)⟩
theorem lw_p33 : lw_okq (⟨"SpatialPoints$Text", "hasSign", "()Z"⟩, 7) := ⟨⟨by decide +kernel, by decide +kernel⟩, List.mem_of_getElem? (i := 318) (by decide +kernel), List.mem_of_getElem? (i := 1302) (by decide +kernel), List.mem_of_getElem? (i := 1303) (by decide +kernel)⟩
theorem lw_p34 : lw_okq (⟨"SpatialPoints$Text", "markFault", "()V"⟩, 7) := ⟨⟨by decide +kernel, by decide +kernel⟩, List.mem_of_getElem? (i := 318) (by decide +kernel), List.mem_of_getElem? (i := 1306) (by decide +kernel), List.mem_of_getElem? (i := 1307) (by decide +kernel)⟩
theorem lw_p35 : lw_okq (⟨"SpatialPoints$Text", "parseCoordinate", "(I)V"⟩, 7) := ⟨⟨by decide +kernel, by decide +kernel⟩, List.mem_of_getElem? (i := 318) (by decide +kernel), List.mem_of_getElem? (i := 1310) (by decide +kernel), List.mem_of_getElem? (i := 1311) (by decide +kernel)⟩
theorem lw_p36 : lw_okq (⟨"SpatialPoints$Text", "parseNumber", "(I)I"⟩, 7) := ⟨⟨by decide +kernel, by decide +kernel⟩, List.mem_of_getElem? (i := 318) (by decide +kernel), List.mem_of_getElem? (i := 1314) (by decide +kernel), List.mem_of_getElem? (i := 1315) (by decide +kernel)⟩
theorem lw_p37 : lw_okq (⟨"SpatialPoints$Text", "hasDigit", "()Z"⟩, 7) := ⟨⟨by decide +kernel, by decide +kernel⟩, List.mem_of_getElem? (i := 318) (by decide +kernel), List.mem_of_getElem? (i := 1318) (by decide +kernel), List.mem_of_getElem? (i := 1319) (by decide +kernel)⟩
theorem lw_p38 : lw_okq (⟨"SpatialPoints$Text", "putPart", "(II)V"⟩, 7) := ⟨⟨by decide +kernel, by decide +kernel⟩, List.mem_of_getElem? (i := 318) (by decide +kernel), List.mem_of_getElem? (i := 1322) (by decide +kernel), List.mem_of_getElem? (i := 1323) (by decide +kernel)⟩
theorem lw_p39 : lw_okq (⟨"SpatialPointsModel", "fails", "(I)I"⟩, 19) := ⟨⟨by decide +kernel, by decide +kernel⟩, List.mem_of_getElem? (i := 1342) (by decide +kernel), List.mem_of_getElem? (i := 1420) (by decide +kernel), List.mem_of_getElem? (i := 1421) (by decide +kernel)⟩
theorem lw_p40 : lw_okq (⟨"SpatialPointsModel", "lives", "()I"⟩, 19) := ⟨⟨by decide +kernel, by decide +kernel⟩, List.mem_of_getElem? (i := 1342) (by decide +kernel), List.mem_of_getElem? (i := 1424) (by decide +kernel), List.mem_of_getElem? (i := 1425) (by decide +kernel)⟩
theorem lw_p41 : lw_okq (⟨"SpatialPointsModel", "comes", "(IIIII)I"⟩, 19) := ⟨⟨by decide +kernel, by decide +kernel⟩, List.mem_of_getElem? (i := 1342) (by decide +kernel), List.mem_of_getElem? (i := 1428) (by decide +kernel), List.mem_of_getElem? (i := 1429) (by decide +kernel)⟩
theorem lw_p42 : lw_okq (⟨"SpatialPointsModel", "hangs", "(I)V"⟩, 19) := ⟨⟨by decide +kernel, by decide +kernel⟩, List.mem_of_getElem? (i := 1342) (by decide +kernel), List.mem_of_getElem? (i := 1432) (by decide +kernel), List.mem_of_getElem? (i := 1433) (by decide +kernel)⟩
theorem lw_p43 : lw_okq (⟨"SpatialPointsModel", "next", "(III)I"⟩, 19) := ⟨⟨by decide +kernel, by decide +kernel⟩, List.mem_of_getElem? (i := 1342) (by decide +kernel), List.mem_of_getElem? (i := 1436) (by decide +kernel), List.mem_of_getElem? (i := 1437) (by decide +kernel)⟩
theorem lw_p44 : lw_okq (⟨"SpatialPointsModel", "isBefore", "(III)Z"⟩, 19) := ⟨⟨by decide +kernel, by decide +kernel⟩, List.mem_of_getElem? (i := 1342) (by decide +kernel), List.mem_of_getElem? (i := 1440) (by decide +kernel), List.mem_of_getElem? (i := 1441) (by decide +kernel)⟩
theorem lw_p45 : lw_okq (⟨"SpatialPointsModel", "isUneven", "(I)Z"⟩, 19) := ⟨⟨by decide +kernel, by decide +kernel⟩, List.mem_of_getElem? (i := 1342) (by decide +kernel), List.mem_of_getElem? (i := 1444) (by decide +kernel), List.mem_of_getElem? (i := 1445) (by decide +kernel)⟩
theorem lw_p46 : lw_okq (⟨"SpatialPointsModel", "sizeOf", "(I)I"⟩, 19) := ⟨⟨by decide +kernel, by decide +kernel⟩, List.mem_of_getElem? (i := 1342) (by decide +kernel), List.mem_of_getElem? (i := 1448) (by decide +kernel), List.mem_of_getElem? (i := 1449) (by decide +kernel)⟩
theorem lw_p47 : lw_okq (⟨"SpatialPointsModel", "anew", "(I)V"⟩, 19) := ⟨⟨by decide +kernel, by decide +kernel⟩, List.mem_of_getElem? (i := 1342) (by decide +kernel), List.mem_of_getElem? (i := 1452) (by decide +kernel), List.mem_of_getElem? (i := 1453) (by decide +kernel)⟩
def lw_privs_3 : List (MethodName × Nat) := [(⟨"SpatialPoints$Text", "accepts", "(C)Z"⟩, 7), (⟨"SpatialPoints$Text", "hasSign", "()Z"⟩, 7), (⟨"SpatialPoints$Text", "markFault", "()V"⟩, 7), (⟨"SpatialPoints$Text", "parseCoordinate", "(I)V"⟩, 7), (⟨"SpatialPoints$Text", "parseNumber", "(I)I"⟩, 7), (⟨"SpatialPoints$Text", "hasDigit", "()Z"⟩, 7), (⟨"SpatialPoints$Text", "putPart", "(II)V"⟩, 7), (⟨"SpatialPointsModel", "fails", "(I)I"⟩, 19), (⟨"SpatialPointsModel", "lives", "()I"⟩, 19), (⟨"SpatialPointsModel", "comes", "(IIIII)I"⟩, 19), (⟨"SpatialPointsModel", "hangs", "(I)V"⟩, 19), (⟨"SpatialPointsModel", "next", "(III)I"⟩, 19), (⟨"SpatialPointsModel", "isBefore", "(III)Z"⟩, 19), (⟨"SpatialPointsModel", "isUneven", "(I)Z"⟩, 19), (⟨"SpatialPointsModel", "sizeOf", "(I)I"⟩, 19), (⟨"SpatialPointsModel", "anew", "(I)V"⟩, 19)]
theorem lw_r3 : ∀ q ∈ lw_privs_3, lw_okq q := List.forall_mem_cons.mpr ⟨lw_p32, List.forall_mem_cons.mpr ⟨lw_p33, List.forall_mem_cons.mpr ⟨lw_p34, List.forall_mem_cons.mpr ⟨lw_p35, List.forall_mem_cons.mpr ⟨lw_p36, List.forall_mem_cons.mpr ⟨lw_p37, List.forall_mem_cons.mpr ⟨lw_p38, List.forall_mem_cons.mpr ⟨lw_p39, List.forall_mem_cons.mpr ⟨lw_p40, List.forall_mem_cons.mpr ⟨lw_p41, List.forall_mem_cons.mpr ⟨lw_p42, List.forall_mem_cons.mpr ⟨lw_p43, List.forall_mem_cons.mpr ⟨lw_p44, List.forall_mem_cons.mpr ⟨lw_p45, List.forall_mem_cons.mpr ⟨lw_p46, List.forall_mem_cons.mpr ⟨lw_p47, fun _ h => absurd h List.not_mem_nil⟩⟩⟩⟩⟩⟩⟩⟩⟩⟩⟩⟩⟩⟩⟩⟩
theorem lw_p48 : lw_okq (⟨"SpatialPointsModel", "depthOf", "(I)I"⟩, 19) := ⟨⟨by decide +kernel, by decide +kernel⟩, List.mem_of_getElem? (i := 1342) (by decide +kernel), List.mem_of_getElem? (i := 1456) (by decide +kernel), List.mem_of_getElem? (i := 1457) (by decide +kernel)⟩
theorem lw_p49 : lw_okq (⟨"SpatialPointsModel", "gathers", "(I)V"⟩, 19) := ⟨⟨by decide +kernel, by decide +kernel⟩, List.mem_of_getElem? (i := 1342) (by decide +kernel), List.mem_of_getElem? (i := 1460) (by decide +kernel), List.mem_of_getElem? (i := 1461) (by decide +kernel)⟩
theorem lw_p50 : lw_okq (⟨"SpatialPointsModel", "builds", "(IIII)I"⟩, 19) := ⟨⟨by decide +kernel, by decide +kernel⟩, List.mem_of_getElem? (i := 1342) (by decide +kernel), List.mem_of_getElem? (i := 1464) (by decide +kernel), List.mem_of_getElem? (i := 1465) (by decide +kernel)⟩
theorem lw_p51 : lw_okq (⟨"SpatialPointsModel", "sorts", "(III)V"⟩, 19) := ⟨⟨by decide +kernel, by decide +kernel⟩, List.mem_of_getElem? (i := 1342) (by decide +kernel), List.mem_of_getElem? (i := 1468) (by decide +kernel), List.mem_of_getElem? (i := 1469) (by decide +kernel)⟩
theorem lw_p52 : lw_okq (⟨"SpatialPointsModel", "isAlive", "(I)Z"⟩, 19) := ⟨⟨by decide +kernel, by decide +kernel⟩, List.mem_of_getElem? (i := 1342) (by decide +kernel), List.mem_of_getElem? (i := 1476) (by decide +kernel), List.mem_of_getElem? (i := 1477) (by decide +kernel)⟩
theorem lw_p53 : lw_okq (⟨"SpatialPointsModel", "isPoint", "(I)Z"⟩, 19) := ⟨⟨by decide +kernel, by decide +kernel⟩, List.mem_of_getElem? (i := 1342) (by decide +kernel), List.mem_of_getElem? (i := 1480) (by decide +kernel), List.mem_of_getElem? (i := 1481) (by decide +kernel)⟩
theorem lw_p54 : lw_okq (⟨"SpatialPointsModel", "deadNodes", "()I"⟩, 19) := ⟨⟨by decide +kernel, by decide +kernel⟩, List.mem_of_getElem? (i := 1342) (by decide +kernel), List.mem_of_getElem? (i := 1484) (by decide +kernel), List.mem_of_getElem? (i := 1485) (by decide +kernel)⟩
theorem lw_p55 : lw_okq (⟨"SpatialPointsModel", "nodes", "()I"⟩, 19) := ⟨⟨by decide +kernel, by decide +kernel⟩, List.mem_of_getElem? (i := 1342) (by decide +kernel), List.mem_of_getElem? (i := 1488) (by decide +kernel), List.mem_of_getElem? (i := 1489) (by decide +kernel)⟩
theorem lw_p56 : lw_okq (⟨"SpatialPointsModel", "mayShift", "(IIII)Z"⟩, 19) := ⟨⟨by decide +kernel, by decide +kernel⟩, List.mem_of_getElem? (i := 1342) (by decide +kernel), List.mem_of_getElem? (i := 1519) (by decide +kernel), List.mem_of_getElem? (i := 1520) (by decide +kernel)⟩
theorem lw_p57 : lw_okq (⟨"SpatialPointsModel", "isThere", "(I)Z"⟩, 19) := ⟨⟨by decide +kernel, by decide +kernel⟩, List.mem_of_getElem? (i := 1342) (by decide +kernel), List.mem_of_getElem? (i := 1531) (by decide +kernel), List.mem_of_getElem? (i := 1532) (by decide +kernel)⟩
theorem lw_p58 : lw_okq (⟨"SpatialPointsModel", "heightOf", "(I)I"⟩, 19) := ⟨⟨by decide +kernel, by decide +kernel⟩, List.mem_of_getElem? (i := 1342) (by decide +kernel), List.mem_of_getElem? (i := 1547) (by decide +kernel), List.mem_of_getElem? (i := 1548) (by decide +kernel)⟩
theorem lw_p59 : lw_okq (⟨"SpatialPointsModel", "livesOf", "(I)I"⟩, 19) := ⟨⟨by decide +kernel, by decide +kernel⟩, List.mem_of_getElem? (i := 1342) (by decide +kernel), List.mem_of_getElem? (i := 1555) (by decide +kernel), List.mem_of_getElem? (i := 1556) (by decide +kernel)⟩
theorem lw_p60 : lw_okq (⟨"SpatialPointsModel", "seen", "()I"⟩, 19) := ⟨⟨by decide +kernel, by decide +kernel⟩, List.mem_of_getElem? (i := 1342) (by decide +kernel), List.mem_of_getElem? (i := 1563) (by decide +kernel), List.mem_of_getElem? (i := 1564) (by decide +kernel)⟩
theorem lw_p61 : lw_okq (⟨"SpatialPointsModel", "isSeen", "(I)Z"⟩, 19) := ⟨⟨by decide +kernel, by decide +kernel⟩, List.mem_of_getElem? (i := 1342) (by decide +kernel), List.mem_of_getElem? (i := 1567) (by decide +kernel), List.mem_of_getElem? (i := 1568) (by decide +kernel)⟩
theorem lw_p62 : lw_okq (⟨"SpatialPointsModel", "lowOf", "(II)I"⟩, 19) := ⟨⟨by decide +kernel, by decide +kernel⟩, List.mem_of_getElem? (i := 1342) (by decide +kernel), List.mem_of_getElem? (i := 1575) (by decide +kernel), List.mem_of_getElem? (i := 1576) (by decide +kernel)⟩
theorem lw_p63 : lw_okq (⟨"SpatialPointsModel", "highOf", "(II)I"⟩, 19) := ⟨⟨by decide +kernel, by decide +kernel⟩, List.mem_of_getElem? (i := 1342) (by decide +kernel), List.mem_of_getElem? (i := 1582) (by decide +kernel), List.mem_of_getElem? (i := 1583) (by decide +kernel)⟩
def lw_privs_4 : List (MethodName × Nat) := [(⟨"SpatialPointsModel", "depthOf", "(I)I"⟩, 19), (⟨"SpatialPointsModel", "gathers", "(I)V"⟩, 19), (⟨"SpatialPointsModel", "builds", "(IIII)I"⟩, 19), (⟨"SpatialPointsModel", "sorts", "(III)V"⟩, 19), (⟨"SpatialPointsModel", "isAlive", "(I)Z"⟩, 19), (⟨"SpatialPointsModel", "isPoint", "(I)Z"⟩, 19), (⟨"SpatialPointsModel", "deadNodes", "()I"⟩, 19), (⟨"SpatialPointsModel", "nodes", "()I"⟩, 19), (⟨"SpatialPointsModel", "mayShift", "(IIII)Z"⟩, 19), (⟨"SpatialPointsModel", "isThere", "(I)Z"⟩, 19), (⟨"SpatialPointsModel", "heightOf", "(I)I"⟩, 19), (⟨"SpatialPointsModel", "livesOf", "(I)I"⟩, 19), (⟨"SpatialPointsModel", "seen", "()I"⟩, 19), (⟨"SpatialPointsModel", "isSeen", "(I)Z"⟩, 19), (⟨"SpatialPointsModel", "lowOf", "(II)I"⟩, 19), (⟨"SpatialPointsModel", "highOf", "(II)I"⟩, 19)]
theorem lw_r4 : ∀ q ∈ lw_privs_4, lw_okq q := List.forall_mem_cons.mpr ⟨lw_p48, List.forall_mem_cons.mpr ⟨lw_p49, List.forall_mem_cons.mpr ⟨lw_p50, List.forall_mem_cons.mpr ⟨lw_p51, List.forall_mem_cons.mpr ⟨lw_p52, List.forall_mem_cons.mpr ⟨lw_p53, List.forall_mem_cons.mpr ⟨lw_p54, List.forall_mem_cons.mpr ⟨lw_p55, List.forall_mem_cons.mpr ⟨lw_p56, List.forall_mem_cons.mpr ⟨lw_p57, List.forall_mem_cons.mpr ⟨lw_p58, List.forall_mem_cons.mpr ⟨lw_p59, List.forall_mem_cons.mpr ⟨lw_p60, List.forall_mem_cons.mpr ⟨lw_p61, List.forall_mem_cons.mpr ⟨lw_p62, List.forall_mem_cons.mpr ⟨lw_p63, fun _ h => absurd h List.not_mem_nil⟩⟩⟩⟩⟩⟩⟩⟩⟩⟩⟩⟩⟩⟩⟩⟩
theorem lw_p64 : lw_okq (⟨"SpatialPointsModel", "far", "(I)I"⟩, 19) := ⟨⟨by decide +kernel, by decide +kernel⟩, List.mem_of_getElem? (i := 1342) (by decide +kernel), List.mem_of_getElem? (i := 1616) (by decide +kernel), List.mem_of_getElem? (i := 1617) (by decide +kernel)⟩
theorem lw_p65 : lw_okq (⟨"SpatialPointsModel", "by", "(III)I"⟩, 19) := ⟨⟨by decide +kernel, by decide +kernel⟩, List.mem_of_getElem? (i := 1342) (by decide +kernel), List.mem_of_getElem? (i := 1623) (by decide +kernel), List.mem_of_getElem? (i := 1624) (by decide +kernel)⟩
theorem lw_p66 : lw_okq (⟨"SpatialPointsModel", "beside", "(II)I"⟩, 19) := ⟨⟨by decide +kernel, by decide +kernel⟩, List.mem_of_getElem? (i := 1342) (by decide +kernel), List.mem_of_getElem? (i := 1631) (by decide +kernel), List.mem_of_getElem? (i := 1632) (by decide +kernel)⟩
theorem lw_p67 : lw_okq (⟨"SpatialPointsModel", "ahead", "(I)I"⟩, 19) := ⟨⟨by decide +kernel, by decide +kernel⟩, List.mem_of_getElem? (i := 1342) (by decide +kernel), List.mem_of_getElem? (i := 1639) (by decide +kernel), List.mem_of_getElem? (i := 1640) (by decide +kernel)⟩
theorem lw_p68 : lw_okq (⟨"SpatialPointsModel", "between", "(II)I"⟩, 19) := ⟨⟨by decide +kernel, by decide +kernel⟩, List.mem_of_getElem? (i := 1342) (by decide +kernel), List.mem_of_getElem? (i := 1659) (by decide +kernel), List.mem_of_getElem? (i := 1660) (by decide +kernel)⟩
theorem lw_p69 : lw_okq (⟨"SpatialPointsModel", "closestTo", "(I)I"⟩, 19) := ⟨⟨by decide +kernel, by decide +kernel⟩, List.mem_of_getElem? (i := 1342) (by decide +kernel), List.mem_of_getElem? (i := 1667) (by decide +kernel), List.mem_of_getElem? (i := 1668) (by decide +kernel)⟩
theorem lw_p70 : lw_okq (⟨"SpatialPointsModel", "clustersBy", "(I)I"⟩, 19) := ⟨⟨by decide +kernel, by decide +kernel⟩, List.mem_of_getElem? (i := 1342) (by decide +kernel), List.mem_of_getElem? (i := 1675) (by decide +kernel), List.mem_of_getElem? (i := 1676) (by decide +kernel)⟩
theorem lw_p71 : lw_okq (⟨"SpatialPointsModel", "boxed", "(I)I"⟩, 19) := ⟨⟨by decide +kernel, by decide +kernel⟩, List.mem_of_getElem? (i := 1342) (by decide +kernel), List.mem_of_getElem? (i := 1691) (by decide +kernel), List.mem_of_getElem? (i := 1692) (by decide +kernel)⟩
theorem lw_p72 : lw_okq (⟨"SpatialPointsModel", "isInBox", "(I)Z"⟩, 19) := ⟨⟨by decide +kernel, by decide +kernel⟩, List.mem_of_getElem? (i := 1342) (by decide +kernel), List.mem_of_getElem? (i := 1695) (by decide +kernel), List.mem_of_getElem? (i := 1696) (by decide +kernel)⟩
theorem lw_p73 : lw_okq (⟨"SpatialPointsModel", "weightInBox", "()I"⟩, 19) := ⟨⟨by decide +kernel, by decide +kernel⟩, List.mem_of_getElem? (i := 1342) (by decide +kernel), List.mem_of_getElem? (i := 1707) (by decide +kernel), List.mem_of_getElem? (i := 1708) (by decide +kernel)⟩
theorem lw_p74 : lw_okq (⟨"SpatialPointsModel", "visitsFrom", "(I)I"⟩, 19) := ⟨⟨by decide +kernel, by decide +kernel⟩, List.mem_of_getElem? (i := 1342) (by decide +kernel), List.mem_of_getElem? (i := 1719) (by decide +kernel), List.mem_of_getElem? (i := 1720) (by decide +kernel)⟩
theorem lw_p75 : lw_okq (⟨"SpatialPointsModel", "meetsBox", "(I)Z"⟩, 19) := ⟨⟨by decide +kernel, by decide +kernel⟩, List.mem_of_getElem? (i := 1342) (by decide +kernel), List.mem_of_getElem? (i := 1723) (by decide +kernel), List.mem_of_getElem? (i := 1724) (by decide +kernel)⟩
theorem lw_p76 : lw_okq (⟨"SpatialPointsModel", "goesBefore", "(I)V"⟩, 19) := ⟨⟨by decide +kernel, by decide +kernel⟩, List.mem_of_getElem? (i := 1342) (by decide +kernel), List.mem_of_getElem? (i := 1731) (by decide +kernel), List.mem_of_getElem? (i := 1732) (by decide +kernel)⟩
theorem lw_p77 : lw_okq (⟨"SpatialPointsModel", "takes", "(I)V"⟩, 19) := ⟨⟨by decide +kernel, by decide +kernel⟩, List.mem_of_getElem? (i := 1342) (by decide +kernel), List.mem_of_getElem? (i := 1735) (by decide +kernel), List.mem_of_getElem? (i := 1736) (by decide +kernel)⟩
theorem lw_p78 : lw_okq (⟨"SpatialPointsModel", "goesBetween", "(I)V"⟩, 19) := ⟨⟨by decide +kernel, by decide +kernel⟩, List.mem_of_getElem? (i := 1342) (by decide +kernel), List.mem_of_getElem? (i := 1739) (by decide +kernel), List.mem_of_getElem? (i := 1740) (by decide +kernel)⟩
theorem lw_p79 : lw_okq (⟨"SpatialPointsModel", "goesLevel", "(II)V"⟩, 19) := ⟨⟨by decide +kernel, by decide +kernel⟩, List.mem_of_getElem? (i := 1342) (by decide +kernel), List.mem_of_getElem? (i := 1743) (by decide +kernel), List.mem_of_getElem? (i := 1744) (by decide +kernel)⟩
def lw_privs_5 : List (MethodName × Nat) := [(⟨"SpatialPointsModel", "far", "(I)I"⟩, 19), (⟨"SpatialPointsModel", "by", "(III)I"⟩, 19), (⟨"SpatialPointsModel", "beside", "(II)I"⟩, 19), (⟨"SpatialPointsModel", "ahead", "(I)I"⟩, 19), (⟨"SpatialPointsModel", "between", "(II)I"⟩, 19), (⟨"SpatialPointsModel", "closestTo", "(I)I"⟩, 19), (⟨"SpatialPointsModel", "clustersBy", "(I)I"⟩, 19), (⟨"SpatialPointsModel", "boxed", "(I)I"⟩, 19), (⟨"SpatialPointsModel", "isInBox", "(I)Z"⟩, 19), (⟨"SpatialPointsModel", "weightInBox", "()I"⟩, 19), (⟨"SpatialPointsModel", "visitsFrom", "(I)I"⟩, 19), (⟨"SpatialPointsModel", "meetsBox", "(I)Z"⟩, 19), (⟨"SpatialPointsModel", "goesBefore", "(I)V"⟩, 19), (⟨"SpatialPointsModel", "takes", "(I)V"⟩, 19), (⟨"SpatialPointsModel", "goesBetween", "(I)V"⟩, 19), (⟨"SpatialPointsModel", "goesLevel", "(II)V"⟩, 19)]
theorem lw_r5 : ∀ q ∈ lw_privs_5, lw_okq q := List.forall_mem_cons.mpr ⟨lw_p64, List.forall_mem_cons.mpr ⟨lw_p65, List.forall_mem_cons.mpr ⟨lw_p66, List.forall_mem_cons.mpr ⟨lw_p67, List.forall_mem_cons.mpr ⟨lw_p68, List.forall_mem_cons.mpr ⟨lw_p69, List.forall_mem_cons.mpr ⟨lw_p70, List.forall_mem_cons.mpr ⟨lw_p71, List.forall_mem_cons.mpr ⟨lw_p72, List.forall_mem_cons.mpr ⟨lw_p73, List.forall_mem_cons.mpr ⟨lw_p74, List.forall_mem_cons.mpr ⟨lw_p75, List.forall_mem_cons.mpr ⟨lw_p76, List.forall_mem_cons.mpr ⟨lw_p77, List.forall_mem_cons.mpr ⟨lw_p78, List.forall_mem_cons.mpr ⟨lw_p79, fun _ h => absurd h List.not_mem_nil⟩⟩⟩⟩⟩⟩⟩⟩⟩⟩⟩⟩⟩⟩⟩⟩
theorem lw_p80 : lw_okq (⟨"SpatialPointsModel", "faultOf", "()I"⟩, 19) := ⟨⟨by decide +kernel, by decide +kernel⟩, List.mem_of_getElem? (i := 1342) (by decide +kernel), List.mem_of_getElem? (i := 1763) (by decide +kernel), List.mem_of_getElem? (i := 1764) (by decide +kernel)⟩
theorem lw_p81 : lw_okq (⟨"SpatialPointsModel", "describes", "()Z"⟩, 19) := ⟨⟨by decide +kernel, by decide +kernel⟩, List.mem_of_getElem? (i := 1342) (by decide +kernel), List.mem_of_getElem? (i := 1767) (by decide +kernel), List.mem_of_getElem? (i := 1768) (by decide +kernel)⟩
theorem lw_p82 : lw_okq (⟨"SpatialPointsModel", "coordinates", "()Z"⟩, 19) := ⟨⟨by decide +kernel, by decide +kernel⟩, List.mem_of_getElem? (i := 1342) (by decide +kernel), List.mem_of_getElem? (i := 1771) (by decide +kernel), List.mem_of_getElem? (i := 1772) (by decide +kernel)⟩
theorem lw_p83 : lw_okq (⟨"SpatialPointsModel", "skips", "(I)Z"⟩, 19) := ⟨⟨by decide +kernel, by decide +kernel⟩, List.mem_of_getElem? (i := 1342) (by decide +kernel), List.mem_of_getElem? (i := 1775) (by decide +kernel), List.mem_of_getElem? (i := 1776) (by decide +kernel)⟩
theorem lw_p84 : lw_okq (⟨"SpatialPointsModel", "here", "()I"⟩, 19) := ⟨⟨by decide +kernel, by decide +kernel⟩, List.mem_of_getElem? (i := 1342) (by decide +kernel), List.mem_of_getElem? (i := 1779) (by decide +kernel), List.mem_of_getElem? (i := 1780) (by decide +kernel)⟩
theorem lw_p85 : lw_okq (⟨"SpatialPointsModel", "digits", "(I)Z"⟩, 19) := ⟨⟨by decide +kernel, by decide +kernel⟩, List.mem_of_getElem? (i := 1342) (by decide +kernel), List.mem_of_getElem? (i := 1783) (by decide +kernel), List.mem_of_getElem? (i := 1784) (by decide +kernel)⟩
theorem lw_p86 : lw_okq (⟨"SpatialPointsModel", "isDigit", "()Z"⟩, 19) := ⟨⟨by decide +kernel, by decide +kernel⟩, List.mem_of_getElem? (i := 1342) (by decide +kernel), List.mem_of_getElem? (i := 1787) (by decide +kernel), List.mem_of_getElem? (i := 1788) (by decide +kernel)⟩
theorem lw_p87 : lw_okq (⟨"SpatialPointsModel", "areInvalid", "()Z"⟩, 19) := ⟨⟨by decide +kernel, by decide +kernel⟩, List.mem_of_getElem? (i := 1342) (by decide +kernel), List.mem_of_getElem? (i := 1791) (by decide +kernel), List.mem_of_getElem? (i := 1792) (by decide +kernel)⟩
def lw_privs_6 : List (MethodName × Nat) := [(⟨"SpatialPointsModel", "faultOf", "()I"⟩, 19), (⟨"SpatialPointsModel", "describes", "()Z"⟩, 19), (⟨"SpatialPointsModel", "coordinates", "()Z"⟩, 19), (⟨"SpatialPointsModel", "skips", "(I)Z"⟩, 19), (⟨"SpatialPointsModel", "here", "()I"⟩, 19), (⟨"SpatialPointsModel", "digits", "(I)Z"⟩, 19), (⟨"SpatialPointsModel", "isDigit", "()Z"⟩, 19), (⟨"SpatialPointsModel", "areInvalid", "()Z"⟩, 19)]
theorem lw_r6 : ∀ q ∈ lw_privs_6, lw_okq q := List.forall_mem_cons.mpr ⟨lw_p80, List.forall_mem_cons.mpr ⟨lw_p81, List.forall_mem_cons.mpr ⟨lw_p82, List.forall_mem_cons.mpr ⟨lw_p83, List.forall_mem_cons.mpr ⟨lw_p84, List.forall_mem_cons.mpr ⟨lw_p85, List.forall_mem_cons.mpr ⟨lw_p86, List.forall_mem_cons.mpr ⟨lw_p87, fun _ h => absurd h List.not_mem_nil⟩⟩⟩⟩⟩⟩⟩⟩
def lw_privs : List (MethodName × Nat) := lw_privs_1 ++ (lw_privs_2 ++ (lw_privs_3 ++ (lw_privs_4 ++ (lw_privs_5 ++ (lw_privs_6)))))
def lw_tbl : List Cond := k2_sels lw_privs ++ tables_1
theorem lw_privs_ok : ∀ q ∈ lw_privs, lw_okq q := by
  show ∀ q ∈ lw_privs_1 ++ (lw_privs_2 ++ (lw_privs_3 ++ (lw_privs_4 ++ (lw_privs_5 ++ (lw_privs_6))))), lw_okq q
  exact List.forall_mem_append.mpr ⟨lw_r1, List.forall_mem_append.mpr ⟨lw_r2, List.forall_mem_append.mpr ⟨lw_r3, List.forall_mem_append.mpr ⟨lw_r4, List.forall_mem_append.mpr ⟨lw_r5, lw_r6⟩⟩⟩⟩⟩
/-- the streams that the claim lets the run draw from -/
abbrev lw_cs : List Choice := [Jvm.Choice.named "NaN.bits"]
theorem lw_bits : nanBits ∈ lw_cs := by first | decide | exact List.mem_cons_self | simp [lw_cs, nanBits]
end
section
/-! ===== END ===== -/

/-! ===== BEGIN exceptions that leave a method, and their catching by the caller (launches without stack traces) ===== -/
section VXA
/-! The laws vx_back, vx_callV, vx_callS, vx_callSW, vx_throw0, vx_throwS follow proofs of the library, with one case more: JvmDerived/Free/Laws.lean (Back.of_free), Shelf42/LK1.lean (callV, callS), Shelf/KitTraced.lean (throwNew0V, throwNewS). -/
/-- where a method has thrown q: the class by its name, the cell, what was written, the world -/
def vx_T (XC : String → State → State → Prop) (st : State) (q : Addr) (t : State) (mc ms : Nat) (free : Addr → Prop) : Prop :=
  ∃ (E : String) (ce : Cell) (L : List Loc), XC E st t ∧ t.heap[q]? = some ce ∧ ce.vm = .none ∧ st.vm.findClass E = some ce.cls ∧ st.WarmedH t.vm ∧ st.sameButNew ({ t with vm := st.vm } : State) L mc ms ∧ ∀ z ∈ L, free z.base
def vx_Q (Qc : Array Value → State → Outcome → State → Prop) (XC : String → State → State → Prop) (mc ms : Nat) (free : Addr → Prop) : Array Value → State → Outcome → State → Prop := fun a st o t =>
  (Qc a st o t ∧ ∃ L, FrameEnd st o t L mc ms ∧ ∀ q ∈ L, free q.base) ∨ ∃ q, o = .threw q ∧ vx_T XC st q t mc ms free
/-- a callee that returns or throws -/
def vx_Met (l : Launch) (y : MethodName) (ws : List Cond) (rm : Room) (Pc : Array Value → State → Prop) (Qc : Array Value → State → Outcome → State → Prop) (XC : String → State → State → Prop) (mc ms : Nat) (free : Addr → Prop) : Prop :=
  MetFree l y (headSpec ws rm) Pc (fun _ _ _ _ _ => True) (vx_Q Qc XC mc ms free)
def vx_Post (XC : String → State → State → Prop) (mc ms : Nat) (free : Addr → Prop) : Pt → Array Value → Addr → Pt → Prop := fun A a q B =>
  ∃ (g : JFrame) (mk : MethodId) (t : State) (L : List Loc) (E : String) (ce : Cell), B.U.heap = t.heap ∧ B.U.vm = t.vm ∧ XC E (A.U.calling g mk a) t ∧ t.heap[q]? = some ce ∧ ce.vm = .none ∧ A.U.vm.findClass E = some ce.cls ∧ B.locs = A.locs ++ L ∧ (∀ z ∈ L, free z.base) ∧ B.cells = A.cells + mc ∧ B.slots = A.slots + ms
def vx_Back (l : Launch) (R : Room) (p : Program) (e : Env) (below : List Frame) (s : State) (sargs : Array Value) (y : MethodName) (len W9 : Nat)
    (Pre : Pt → Array Value → Prop) (Post : Pt → Array Value → Option Value → Pt → Prop) (PostX : Pt → Array Value → Addr → Pt → Prop) : Prop :=
  ∀ (m : MethodId) (meth : Method) (c : Code) (A : Pt) (g : JFrame) (ig : Instr) (mk : MethodId) (a : Array Value),
    Stand p l e R s m sargs below meth c A.U A.locs A.cells A.slots → g.method = m → g.locals.size = c.maxLocals → decode c.code g.pc = .ok (ig, len) →
    2 * g.monitorRoom + (g.stack.map fun v => v.category).sum ≤ W9 → A.U.methodNamed? y = some mk → Pre A a →
    (∃ (v : Option Value) (B : Pt), Stand p l e R s m sargs below meth c B.U B.locs B.cells B.slots ∧ Post A a v B ∧
      Steps p.tables e below (doInvoke e (A.U.setTop g) [] mk a).1 (B.U.setTop { g with pc := g.pc + len, stack := v.toList ++ g.stack })) ∨
    (∃ (q : Addr) (B : Pt), Stand p l e R s m sargs below meth c B.U B.locs B.cells B.slots ∧ PostX A a q B ∧
      Steps p.tables e below (doInvoke e (A.U.setTop g) [] mk a).1 ((B.U.setTop g).pushFrame (.throwing q)))
section Payer
variable {l : Launch} {R : Room} {p : Program} {e : Env} {below : List Frame} {s : State} {sargs : Array Value} {y : MethodName} {len W9 : Nat}
theorem vx_back {ws : List Cond} {rm : Room} {Pc : Array Value → State → Prop} {Qc : Array Value → State → Outcome → State → Prop} {XC : String → State → State → Prop} {mc ms : Nat} {free : Addr → Prop} {bytes : ByteArray} {maxL : Nat} {ret : Option FieldType}
    (hM : vx_Met l y ws rm Pc Qc XC mc ms free) (hblind : FrameBlind Pc) (hrc : rm.cells = mc) (hrs : rm.slots = ms)
    (hframes : rm.frames + 1 ≤ R.frames) (hlocals : W9 + (maxL + 11) + rm.locals ≤ R.locals)
    (hws : ∀ w ∈ ws, ∀ a' U, s.WarmedH U.vm → w.before a' U = true) (hcode : Cond.code y bytes maxL ret ∈ ws) (hinit : ∀ a' U, s.WarmedH U.vm → (Cond.initialized y.cls).before a' U = true) :
    vx_Back l R p e below s sargs y len W9 (PreOf R mc ms Pc) (PostOf Qc mc ms free) (vx_Post XC mc ms free) := by
  intro m meth c A g ig mk a X hg hsize hdg hW hn hp
  have h1 : (headSpec ws rm).pre.before a A.U = true := atoms_intro fun w hw => hws w hw _ _ X.warmed
  have h2 : (Cond.code y bytes maxL ret).before a A.U = true := hws _ hcode _ _ X.warmed
  have h3 : (Cond.initialized y.cls).before a A.U = true := hinit _ _ X.warmed
  have h4 : A.cells + (headSpec ws rm).room.cells ≤ R.cells := by rw [show (headSpec ws rm).room.cells = mc from hrc]; exact hp.1
  have h5 : A.slots + (headSpec ws rm).room.slots ≤ R.slots := by rw [show (headSpec ws rm).room.slots = ms from hrs]; exact hp.2.1
  have hPc : Pc a (A.U.calling g mk a) := hblind _ _ _ _ hp.2.2
  obtain ⟨U, Ls, c0, s0⟩ := A
  dsimp only [Pt.U, Pt.locs, Pt.cells, Pt.slots] at h1 h2 h3 h4 h5 X hn hPc ⊢
  obtain ⟨methY, cY, hmY, hcY, -, hlY, -, -, -, -⟩ := Cond.code_spec hn h2
  obtain ⟨kY, hkY, -⟩ := className_of_methodNamed hn
  have hinitY : kY.init = .initialized := Cond.initialized_spec (findClass_of_methodNamed hn) hkY h3
  have h : At U g.method c below := by rw [hg]; exact X.here
  have hlocals9 : W9 + (maxL + 11) + (headSpec ws rm).room.locals ≤ R.locals := hlocals
  have happ : (headSpec ws rm).appliesLoose y e.platform (U.calling g mk a) = true :=
    Spec.appliesLoose_calling (g := g) h hdg hn hkY hinitY
      (X.room_calling (g := g) (R' := (headSpec ws rm).room) hsize hmY hcY hframes (by rw [hlY]; omega) h4 h5) h1
  obtain ⟨mid, hmid⟩ := h.above
  have hfr : (U.setTop g).frames = (.java g :: mid) ++ below := by rw [State.frames_setTop' g h.top, hmid]; rfl
  obtain ⟨o, s₂, hsteps, -, hend, hq⟩ := Steps.callFree hM p X.admits X.cas X.clock (acts := []) hfr happ hPc trivial
  have hq' : vx_Q Qc XC mc ms free a (U.calling g mk a) o s₂ := hq
  rw [State.frames_setTop' g h.top] at hend
  obtain ⟨g₀, hg0⟩ := Option.isSome_iff_exists.mp h.top
  obtain ⟨r, hr⟩ := State.topJava?_eq_some.mp hg0
  have hr' : (({ U with heap := s₂.heap, slotsUsed := s₂.slotsUsed } : State).setVm s₂.vm).frames = .java g₀ :: r := hr
  rcases hq' with ⟨hqc, L, hfe, hL⟩ | ⟨q, rfl, E, ce, L, hx, hce, hcv, hcl, hW₂, hsm, hL⟩
  · obtain ⟨⟨v, rfl⟩, hW₂, e2, q2, q3, q4, q5, q6⟩ := id hfe
    have e3 : s₂ = ({ (U.calling g mk a).setFrames s₂.frames with heap := s₂.heap, slotsUsed := s₂.slotsUsed } : State).setVm s₂.vm := by
      have : s₂ = ({ s₂ with vm := (U.calling g mk a).vm } : State).setVm s₂.vm := rfl
      rw [e2] at this
      exact this
    obtain ⟨c₂, i₂, len₂, hc₂, hd₂, hf₂⟩ := hend
    have hW' : U.WarmedH s₂.vm := hW₂
    have hcc : c₂ = c := by
      have h1 : s₂.code? g.method = U.code? g.method := by
        rw [State.code?_eq, State.code?_eq, hW'.alike.method?]
      exact Option.some.inj (hc₂.symm.trans (h1.trans h.code))
    subst hcc
    have hlen : len₂ = len := by rw [hdg] at hd₂; cases hd₂; rfl
    subst hlen
    have hs₂ : s₂ = (({ U with heap := s₂.heap, slotsUsed := s₂.slotsUsed } : State).setVm s₂.vm).setTop { g with pc := g.pc + len₂, stack := v.toList ++ g.stack } := by
      refine e3.trans ?_
      rw [hf₂, State.calling_eq h.top, State.setFrames_setFrames, State.setTop_of_frames _ hr', hr]
      rfl
    have hsame : U.sameButNew ({ U with heap := s₂.heap, slotsUsed := s₂.slotsUsed } : State) L mc ms := by
      refine ⟨?_, q2, q3, q4, q5, q6⟩
      obtain ⟨t, ht, -⟩ := State.frames_cons hr
      show ({ U with heap := s₂.heap, slotsUsed := s₂.slotsUsed } : State) = { U.setFrames U.frames with heap := s₂.heap, slotsUsed := s₂.slotsUsed }
      rw [State.setFrames_self ht]
    subst hg
    refine Or.inl ⟨v, ⟨(({ U with heap := s₂.heap, slotsUsed := s₂.slotsUsed } : State).setVm s₂.vm), Ls ++ L, c0 + mc, s0 + ms⟩,
      ⟨X.admits, X.cas, X.clock, X.frames, X.room, X.hears, X.method, X.code, (X.here.setHeapUsed s₂.heap s₂.slotsUsed).setVm hW'.alike, X.tail, State.WarmedH.trans X.warmed hW', X.limits, X.bytes, X.same.trans (hsame.setVm s.vm)⟩,
      ⟨g, mk, s₂, L, rfl, rfl, hqc, rfl, hL, rfl, rfl⟩, ?_⟩
    show Steps p.tables e below _ ((({ U with heap := s₂.heap, slotsUsed := s₂.slotsUsed } : State).setVm s₂.vm).setTop { g with pc := g.pc + len₂, stack := v.toList ++ g.stack })
    rw [← hs₂]
    exact hsteps
  · obtain ⟨e2, q2, q3, q4, q5, q6⟩ := id hsm
    have e3 : s₂ = ({ (U.calling g mk a).setFrames s₂.frames with heap := s₂.heap, slotsUsed := s₂.slotsUsed } : State).setVm s₂.vm := by
      have : s₂ = ({ s₂ with vm := (U.calling g mk a).vm } : State).setVm s₂.vm := rfl
      rw [e2] at this
      exact this
    have hf₂ : s₂.frames = .throwing q :: .java g :: U.frames.tail := hend
    have hW' : U.WarmedH s₂.vm := hW₂
    have hs₂ : s₂ = ((({ U with heap := s₂.heap, slotsUsed := s₂.slotsUsed } : State).setVm s₂.vm).setTop g).pushFrame (.throwing q) := by
      refine e3.trans ?_
      rw [hf₂, State.calling_eq h.top, State.setFrames_setFrames, State.pushFrame, State.frames_setTop _ hr', State.setTop_of_frames _ hr', State.setFrames_setFrames, hr]
      rfl
    have hsame : U.sameButNew ({ U with heap := s₂.heap, slotsUsed := s₂.slotsUsed } : State) L mc ms := by
      refine ⟨?_, q2, q3, q4, q5, q6⟩
      obtain ⟨t, ht, -⟩ := State.frames_cons hr
      show ({ U with heap := s₂.heap, slotsUsed := s₂.slotsUsed } : State) = { U.setFrames U.frames with heap := s₂.heap, slotsUsed := s₂.slotsUsed }
      rw [State.setFrames_self ht]
    subst hg
    refine Or.inr ⟨q, ⟨(({ U with heap := s₂.heap, slotsUsed := s₂.slotsUsed } : State).setVm s₂.vm), Ls ++ L, c0 + mc, s0 + ms⟩,
      ⟨X.admits, X.cas, X.clock, X.frames, X.room, X.hears, X.method, X.code, (X.here.setHeapUsed s₂.heap s₂.slotsUsed).setVm hW'.alike, X.tail, State.WarmedH.trans X.warmed hW', X.limits, X.bytes, X.same.trans (hsame.setVm s.vm)⟩,
      ⟨g, mk, s₂, L, E, ce, rfl, rfl, hx, hce, hcv, hcl, rfl, hL, rfl, rfl⟩, ?_⟩
    show Steps p.tables e below _ (((({ U with heap := s₂.heap, slotsUsed := s₂.slotsUsed } : State).setVm s₂.vm).setTop g).pushFrame (.throwing q))
    rw [← hs₂]
    exact hsteps
end Payer
section Calls
variable {p : Program} {l : Launch} {e : Env} {R : Room} {s : State} {m : MethodId} {args : Array Value} {below : List Frame} {meth : Method} {c : Code} {T : State} {locs : List Loc} {cells slots : Nat}
theorem vx_callV (X : Stand p l e R s m args below meth c T locs cells slots) (hexec : p.tables.exec = Jvm.exec) {own C : String} {index : Nat} {y : MethodName} {bytes : ByteArray} {maxL : Nat} {ret : Option FieldType}
    (hown : s.vm.findClass own = some m.cls) (hlink : (Cond.methodLink own index y).before args s = true) (hinst : (Cond.instanceMethod y).before args s = true) (hsel : (Cond.selects C y y).before args s = true)
    (hcode : (Cond.code y bytes maxL ret).before args s = true) (hy : y.cls ≠ "java/lang/invoke/MethodHandle" ∧ y.cls ≠ "java/lang/invoke/VarHandle")
    {W9 : Nat} {Pre : Pt → Array Value → Prop} {Post : Pt → Array Value → Option Value → Pt → Prop} {PostX : Pt → Array Value → Addr → Pt → Prop} (hK : vx_Back l R p e below s args y 3 W9 Pre Post PostX)
    {b : Addr} {cellB : Cell} (hcell : T.heap[b]? = some cellB) (hobj : cellB.vm.isStatics = false) (hcls : s.vm.findClass C = some cellB.cls)
    {g : JFrame} (hg : g.method = m) (hsize : g.locals.size = c.maxLocals) {argsL rest : List Value} (hlen : ∀ sig, parseMethodDescriptor y.desc = some sig → argsL.length = sig.parameters.length)
    (hstack : g.stack = argsL.reverse ++ .ref b :: rest) (hW : 2 * g.monitorRoom + (rest.map fun v => v.category).sum ≤ W9) (hdg : decode c.code g.pc = .ok (.invokevirtual index, 3))
    (hpre : ∀ vm₁, s.WarmedH vm₁ → Pre ⟨T.setVm vm₁, locs, cells, slots⟩ (Value.ref b :: argsL).toArray) :
    (∃ (v : Option Value) (vm₁ : Vm) (B : Pt), s.WarmedH vm₁ ∧ Stand p l e R s m args below meth c B.U B.locs B.cells B.slots ∧ Post ⟨T.setVm vm₁, locs, cells, slots⟩ (Value.ref b :: argsL).toArray v B ∧
      ∀ target, Steps p.tables e below (B.U.setTop { g with pc := g.pc + 3, stack := v.toList ++ rest }) target → Steps p.tables e below (T.setTop g) target) ∨
    (∃ (q : Addr) (vm₁ : Vm) (B : Pt), s.WarmedH vm₁ ∧ Stand p l e R s m args below meth c B.U B.locs B.cells B.slots ∧ PostX ⟨T.setVm vm₁, locs, cells, slots⟩ (Value.ref b :: argsL).toArray q B ∧
      Steps p.tables e below (T.setTop g) ((B.U.setTop { g with stack := rest }).pushFrame (.throwing q))) := by
  obtain ⟨mk, methM, hnamed, hmethM, hstM, habM⟩ := Cond.instanceMethod_spec hinst
  obtain ⟨methM', cM, hmethM', -, -, -, -, -, -, hsigM⟩ := Cond.code_spec hnamed hcode
  cases hmethM.symm.trans hmethM'
  obtain ⟨c2, r2, m2, q1, q2, q3, q4, kP, hkP, hkPi⟩ := Cond.selects_spec hsel
  cases hcls.symm.trans q1
  cases (State.methodFound?_of_named hnamed hy).symm.trans q2
  cases hnamed.symm.trans q3
  have hselP : selectMethod e.platform s.vm cellB.cls mk = .method mk := by rw [Launch.admits_selectMethod X.admits]; exact q4
  obtain ⟨vm₁, X₁, hstep₁⟩ := X.invokevirtual hexec hown hlink hnamed hmethM hstM hkP hkPi hy (a := b) (cell := cellB) hcell
    (fun z h => by rw [h] at hobj; cases hobj) hselP hmethM habM hkP hkPi (g := g) hg (argsL := argsL) (rest := rest) (hlen _ hsigM) hstack hdg
  rcases hK m meth c ⟨T.setVm vm₁, locs, cells, slots⟩ { g with stack := rest } (.invokevirtual index) mk (Value.ref b :: argsL).toArray X₁ hg hsize hdg hW (X₁.named hnamed) (hpre vm₁ X₁.warmed) with ⟨v, B, X', hpost, hsteps⟩ | ⟨q, B, X', hpost, hsteps⟩
  · exact Or.inl ⟨v, vm₁, B, X₁.warmed, X', hpost, fun target h => hstep₁ _ fun acts => by rw [doInvoke_state]; exact hsteps.trans h⟩
  · exact Or.inr ⟨q, vm₁, B, X₁.warmed, X', hpost, hstep₁ _ fun acts => by rw [doInvoke_state]; exact hsteps⟩
theorem vx_callS (X : Stand p l e R s m args below meth c T locs cells slots) (hexec : p.tables.exec = Jvm.exec) {own : String} {index : Nat} {y : MethodName} {bytes : ByteArray} {maxL : Nat} {ret : Option FieldType}
    (hown : s.vm.findClass own = some m.cls) (hlink : (Cond.methodLink own index y).before args s = true) (hstat : (Cond.static y).before args s = true) (hinit : (Cond.initialized y.cls).before args s = true)
    (hcode : (Cond.code y bytes maxL ret).before args s = true) (hy : y.cls ≠ "java/lang/invoke/MethodHandle" ∧ y.cls ≠ "java/lang/invoke/VarHandle")
    {W9 : Nat} {Pre : Pt → Array Value → Prop} {Post : Pt → Array Value → Option Value → Pt → Prop} {PostX : Pt → Array Value → Addr → Pt → Prop} (hK : vx_Back l R p e below s args y 3 W9 Pre Post PostX)
    {g : JFrame} (hg : g.method = m) (hsize : g.locals.size = c.maxLocals) {argsL rest : List Value} (hlen : ∀ sig, parseMethodDescriptor y.desc = some sig → argsL.length = sig.parameters.length)
    (hstack : g.stack = argsL.reverse ++ rest) (hW : 2 * g.monitorRoom + (rest.map fun v => v.category).sum ≤ W9) (hdg : decode c.code g.pc = .ok (.invokestatic index, 3))
    (hpre : ∀ vm₁, s.WarmedH vm₁ → Pre ⟨T.setVm vm₁, locs, cells, slots⟩ argsL.toArray) :
    (∃ (v : Option Value) (vm₁ : Vm) (B : Pt), s.WarmedH vm₁ ∧ Stand p l e R s m args below meth c B.U B.locs B.cells B.slots ∧ Post ⟨T.setVm vm₁, locs, cells, slots⟩ argsL.toArray v B ∧
      ∀ target, Steps p.tables e below (B.U.setTop { g with pc := g.pc + 3, stack := v.toList ++ rest }) target → Steps p.tables e below (T.setTop g) target) ∨
    (∃ (q : Addr) (vm₁ : Vm) (B : Pt), s.WarmedH vm₁ ∧ Stand p l e R s m args below meth c B.U B.locs B.cells B.slots ∧ PostX ⟨T.setVm vm₁, locs, cells, slots⟩ argsL.toArray q B ∧
      Steps p.tables e below (T.setTop g) ((B.U.setTop { g with stack := rest }).pushFrame (.throwing q))) := by
  obtain ⟨mk, hnamed⟩ := Cond.code_named hcode
  obtain ⟨methM, cM, hmethM, -, -, -, -, -, -, hsigM⟩ := Cond.code_spec hnamed hcode
  have hstatic : methM.isStatic = true := Cond.static_spec hnamed hmethM hstat
  obtain ⟨kP, hkP, -⟩ := className_of_methodNamed hnamed
  have hinitP : kP.init = .initialized := Cond.initialized_spec (findClass_of_methodNamed hnamed) hkP hinit
  obtain ⟨vm₁, X₁, hstep₁⟩ := X.invokestatic hexec hown hlink hnamed hmethM hstatic hkP hinitP hy (g := g) hg (argsL := argsL) (rest := rest) (hlen _ hsigM) hstack hdg
  rcases hK m meth c ⟨T.setVm vm₁, locs, cells, slots⟩ { g with stack := rest } (.invokestatic index) mk argsL.toArray X₁ hg hsize hdg hW (X₁.named hnamed) (hpre vm₁ X₁.warmed) with ⟨v, B, X', hpost, hsteps⟩ | ⟨q, B, X', hpost, hsteps⟩
  · exact Or.inl ⟨v, vm₁, B, X₁.warmed, X', hpost, fun target h => hstep₁ _ fun acts => by rw [doInvoke_state]; exact hsteps.trans h⟩
  · exact Or.inr ⟨q, vm₁, B, X₁.warmed, X', hpost, hstep₁ _ fun acts => by rw [doInvoke_state]; exact hsteps⟩
end Calls
theorem vx_cls {s : State} {T : State} {vm₁ : Vm} {E : String} {k : ClassId} (hW : s.WarmedH vm₁) (h : (T.setVm vm₁).vm.findClass E = some k) : s.vm.findClass E = some k := by
  have h1 : vm₁.findClass E = some k := h
  rw [hW.alike.findClass] at h1
  exact h1
/-- the method's frame g, with q thrown over it -/
def vx_W (p : Program) (l : Launch) (e : Env) (R : Room) (s : State) (m : MethodId) (args : Array Value) (below : List Frame) (meth : Method) (c : Code) (H : Heap) (locs : List Loc) (cells slots : Nat) (Q : State → Prop) (g : JFrame) (q : Addr) : Prop :=
  ∀ T : State, T.heap = H → Stand p l e R s m args below meth c T locs cells slots → ∃ t, Steps p.tables e below ((T.setTop g).pushFrame (.throwing q)) t ∧ Q t
def vx_Run (p : Program) (l : Launch) (e : Env) (R : Room) (s : State) (m : MethodId) (args : Array Value) (below : List Frame) (meth : Method) (c : Code) (H : Heap) (locs : List Loc) (cells slots mc ms : Nat) (g : JFrame) (rest : List Value) (Qa : State → Outcome → State → Prop) (XC : String → State → State → Prop) (free : Addr → Prop) : Prop :=
  ∀ T : State, T.heap = H → Stand p l e R s m args below meth c T locs cells slots →
    (∃ (v : Option Value) (st₀ t T' : State) (L : List Loc), st₀.heap = H ∧ Stand p l e R s m args below meth c T' (locs ++ L) (cells + mc) (slots + ms) ∧ (∀ q ∈ L, free q.base) ∧ T'.heap = t.heap ∧ T'.vm = t.vm ∧ Qa st₀ (.returned v) t ∧
      Goes p e below T g T' { g with pc := g.pc + 3, stack := v.toList ++ rest }) ∨
    (∃ (q : Addr) (st₀ t T' : State) (L : List Loc) (E : String) (ce : Cell), st₀.heap = H ∧ Stand p l e R s m args below meth c T' (locs ++ L) (cells + mc) (slots + ms) ∧ (∀ z ∈ L, free z.base) ∧ T'.heap = t.heap ∧ T'.vm = t.vm ∧ XC E st₀ t ∧ t.heap[q]? = some ce ∧ ce.vm = .none ∧ s.vm.findClass E = some ce.cls ∧
      Steps p.tables e below (T.setTop g) ((T'.setTop { g with stack := rest }).pushFrame (.throwing q)))
def vx_X {S : Type} (px : S → Prop) (B : String → S → State → Prop) (A : Nat → Prop) : String → State → State → Prop := fun E st t => ∃ u : S, px u ∧ B E u t ∧ va_F A st t
section Runs
variable {p : Program} {l : Launch} {e : Env} {R : Room} {s : State} {m : MethodId} {args : Array Value} {below : List Frame} {meth : Method} {c : Code} {H : Heap} {locs : List Loc} {cells slots : Nat}
variable {y : MethodName} {bytes cc : ByteArray} {maxL nL mc ms n index : Nat} {ret : Option FieldType} {ws : List Cond} {rm : Room} {Pc : Array Value → State → Prop} {Qc : Array Value → State → Outcome → State → Prop} {XC : String → State → State → Prop} {free : Addr → Prop} {Ts : List Cond} {own C : String} {b : Addr} {As rest : List Value} {g : JFrame}
theorem vx_callBack (cb : CallB R s args own index y bytes maxL ret ws rm mc ms n) (hM : vx_Met l y ws rm Pc Qc XC mc ms free) (hbl : FrameBlind Pc) : vx_Back l R p e below s args y 3 8 (PreOf R mc ms Pc) (PostOf Qc mc ms free) (vx_Post XC mc ms free) := by
  obtain ⟨hrc, hrs, hfr, hlo, hws, hcw, -, hini, -⟩ := cb
  exact vx_back (bytes := bytes) (maxL := maxL) (ret := ret) hM hbl hrc hrs hfr hlo hws hcw (fun a' U hW => word_at hW (Or.inl (by first | rfl | simp [Cond.onTables, Cond.keeps, Cond.steady])) hini)
theorem vx_runV (S : CallFix p m c cc nL s args Ts own) (hM : vx_Met l y ws rm Pc Qc XC mc ms free) (cw : CallW R s args own C index y bytes maxL ret ws rm mc ms n) (hp : PreV s H C b Pc As)
    (hg : g.method = m) (hn : As.length = n) (hsize : g.locals.size = nL) (hstack : g.stack = As.reverse ++ .ref b :: rest) (hW : 2 * g.monitorRoom + (rest.map fun v => v.category).sum ≤ 8) (hdg : decode cc g.pc = .ok (.invokevirtual index, 3)) (hf : cells + mc ≤ R.cells ∧ slots + ms ≤ R.slots) :
    vx_Run p l e R s m args below meth c H locs cells slots mc ms g rest (Qc (Value.ref b :: As).toArray) XC free := by
  have hK : vx_Back l R p e below s args y 3 8 (PreOf R mc ms Pc) (PostOf Qc mc ms free) (vx_Post XC mc ms free) := vx_callBack cw.1 hM hp.1
  obtain ⟨⟨-, -, -, -, -, -, hcode, -, hy, hlen, hl⟩, hin, hse⟩ := cw
  obtain ⟨hx, hb, hml, ho, -⟩ := S
  obtain ⟨-, ⟨cellB, hcB, hoB, hclB⟩, hPc⟩ := hp
  intro T hT X
  rcases vx_callV X hx (C := C) (bytes := bytes) (maxL := maxL) (ret := ret) ho hl hin hse hcode hy hK (by rw [hT]; exact hcB) hoB hclB hg (hsize.trans hml.symm) (argsL := As) (rest := rest) (fun sig h => hn.trans (hlen sig h)) hstack hW (by rw [hb]; exact hdg)
    (fun vm₁ hW₁ => ⟨hf.1, hf.2, hPc (T.setVm vm₁) hT hW₁⟩) with ⟨v, vm₁, ⟨U', l2, c2, s2⟩, hW₁, X', ⟨g', mk, t, L, e1, e2, hq, h1, hL, h2, h3⟩, st⟩ | ⟨q, vm₁, ⟨U', l2, c2, s2⟩, hW₁, X', ⟨g', mk, t, L, E, ce, e1, e2, hq, hce, hcv, hcl, h1, hL, h2, h3⟩, st⟩
  · dsimp only [Pt.U, Pt.locs, Pt.cells, Pt.slots] at X' e1 e2 h1 h2 h3 st
    subst h1; subst h2; subst h3
    exact Or.inl ⟨v, (T.setVm vm₁).calling g' mk (Value.ref b :: As).toArray, t, U', L, hT, X', hL, e1, e2, hq, st⟩
  · dsimp only [Pt.U, Pt.locs, Pt.cells, Pt.slots] at X' e1 e2 h1 h2 h3 st hcl
    subst h1; subst h2; subst h3
    exact Or.inr ⟨q, (T.setVm vm₁).calling g' mk (Value.ref b :: As).toArray, t, U', L, E, ce, hT, X', hL, e1, e2, hq, hce, hcv, vx_cls hW₁ hcl, st⟩
theorem vx_runS (S : CallFix p m c cc nL s args Ts own) (hM : vx_Met l y ws rm Pc Qc XC mc ms free) (cw : CallB R s args own index y bytes maxL ret ws rm mc ms n ∧ (Cond.static y).before args s = true) (hp : PreS s H Pc As)
    (hg : g.method = m) (hn : As.length = n) (hsize : g.locals.size = nL) (hstack : g.stack = As.reverse ++ rest) (hW : 2 * g.monitorRoom + (rest.map fun v => v.category).sum ≤ 8) (hdg : decode cc g.pc = .ok (.invokestatic index, 3)) (hf : cells + mc ≤ R.cells ∧ slots + ms ≤ R.slots) :
    vx_Run p l e R s m args below meth c H locs cells slots mc ms g rest (Qc As.toArray) XC free := by
  have hK : vx_Back l R p e below s args y 3 8 (PreOf R mc ms Pc) (PostOf Qc mc ms free) (vx_Post XC mc ms free) := vx_callBack cw.1 hM hp.1
  obtain ⟨⟨-, -, -, -, -, -, hcode, hini, hy, hlen, hl⟩, hstt⟩ := cw
  obtain ⟨hx, hb, hml, ho, -⟩ := S
  intro T hT X
  rcases vx_callS X hx (bytes := bytes) (maxL := maxL) (ret := ret) ho hl hstt hini hcode hy hK hg (hsize.trans hml.symm) (argsL := As) (rest := rest) (fun sig h => hn.trans (hlen sig h)) hstack hW (by rw [hb]; exact hdg)
    (fun vm₁ hW₁ => ⟨hf.1, hf.2, hp.2 (T.setVm vm₁) hT hW₁⟩) with ⟨v, vm₁, ⟨U', l2, c2, s2⟩, hW₁, X', ⟨g', mk, t, L, e1, e2, hq, h1, hL, h2, h3⟩, st⟩ | ⟨q, vm₁, ⟨U', l2, c2, s2⟩, hW₁, X', ⟨g', mk, t, L, E, ce, e1, e2, hq, hce, hcv, hcl, h1, hL, h2, h3⟩, st⟩
  · dsimp only [Pt.U, Pt.locs, Pt.cells, Pt.slots] at X' e1 e2 h1 h2 h3 st
    subst h1; subst h2; subst h3
    exact Or.inl ⟨v, (T.setVm vm₁).calling g' mk As.toArray, t, U', L, hT, X', hL, e1, e2, hq, st⟩
  · dsimp only [Pt.U, Pt.locs, Pt.cells, Pt.slots] at X' e1 e2 h1 h2 h3 st hcl
    subst h1; subst h2; subst h3
    exact Or.inr ⟨q, (T.setVm vm₁).calling g' mk As.toArray, t, U', L, E, ce, hT, X', hL, e1, e2, hq, hce, hcv, vx_cls hW₁ hcl, st⟩
end Runs
section Rows
variable {p : Program} {l : Launch} {e : Env} {R : Room} {s : State} {m : MethodId} {args : Array Value} {below : List Frame} {meth : Method} {c : Code} {H : Heap} {locs : List Loc} {cells slots : Nat} {Q : State → Prop}
variable {mc ms : Nat} {free : Addr → Prop} {A0 A1 : Nat → Prop} {H0 : Heap} {a : Array Value} {pc : Nat} {ls : Array Slot} {st0 rest : List Value}
theorem vx_keep {st₀ t T' : State} {L : List Loc} (h0 : st₀.heap = H) (e1 : T'.heap = t.heap) (hS : va_S A0 H0 H locs) (hA : ∀ q, q < H.size → A1 q → A0 q) (hf : ∀ q, free q → A0 q) (hL : ∀ q ∈ L, free q.base) (hF : va_F A1 st₀ t) :
    H.size ≤ T'.heap.size ∧ (∀ q : Nat, q < H.size → ¬ A1 q → T'.heap[q]? = H[q]?) ∧ va_S A0 H0 T'.heap (locs ++ L) := by
  obtain ⟨hz, hk⟩ := hF
  rw [h0] at hz hk
  exact ⟨by rw [e1]; exact hz, fun q h1 h2 => by rw [e1]; exact hk q h1 h2,
    ⟨Nat.le_trans hS.1 (by rw [e1]; exact hz), fun q h1 h2 => by rw [e1, hk q (Nat.lt_of_lt_of_le h1 hS.1) (fun z => h2 (hA q (Nat.lt_of_lt_of_le h1 hS.1) z))]; exact hS.2.1 q h1 h2, fun q hq => by
      rcases List.mem_append.mp hq with h | h
      · exact hS.2.2 q h
      · exact hf _ (hL q h)⟩⟩
theorem vx_calli {S SX : Type} {post : Int32 → S → Prop} {px : SX → Prop} {B : S → State → Prop} {BX : String → SX → State → Prop} {AX : Nat → Prop} (hr : vx_Run p l e R s m args below meth c H locs cells slots mc ms (F0 m pc ls st0) rest (va_Qi post B A1 a) (vx_X px BX AX) free) (hS : va_S A0 H0 H locs) (hA : ∀ q, q < H.size → A1 q → A0 q) (hf : ∀ q, free q → A0 q) (hAX : ∀ q, q < H.size → AX q → A0 q)
    (kx : ∀ (E : String) (ce : Cell) (q9 : Addr) (u : SX) (t : State) (H1 : Heap) (locs1 : List Loc), t.heap = H1 → s.vm.Alike t.vm → px u → BX E u t → H.size ≤ H1.size → (∀ q : Nat, q < H.size → ¬ AX q → H1[q]? = H[q]?) → va_S A0 H0 H1 locs1 → H1[q9]? = some ce → ce.vm = .none → s.vm.findClass E = some ce.cls → vx_W p l e R s m args below meth c H1 locs1 (cells + mc) (slots + ms) Q (F0 m pc ls rest) q9)
    (kk : ∀ (r : Int32) (u : S) (t : State) (H1 : Heap) (locs1 : List Loc), t.heap = H1 → s.vm.Alike t.vm → post r u → B u t → H.size ≤ H1.size → (∀ q : Nat, q < H.size → ¬ A1 q → H1[q]? = H[q]?) → va_S A0 H0 H1 locs1 → W p l e R s m args below meth c H1 locs1 (cells + mc) (slots + ms) Q (F0 m (pc + 3) ls (.int r :: rest))) : W p l e R s m args below meth c H locs cells slots Q (F0 m pc ls st0) := by
  intro T hT X
  rcases hr T hT X with ⟨v, st₀, t, T', L, h0, X', hL, e1, e2, ⟨⟨r, u, hv, hp, hb⟩, hF⟩, st⟩ | ⟨q, st₀, t, T', L, E, ce, h0, X', hL, e1, e2, ⟨u, hp, hb, hF⟩, hce, hcv, hcl, st⟩
  · cases hv
    obtain ⟨k1, k2, k3⟩ := vx_keep h0 e1 hS hA hf hL hF
    obtain ⟨t2, a1, b1⟩ := kk r u t T'.heap (locs ++ L) e1.symm (by rw [← e2]; exact X'.warmed.alike) hp hb k1 k2 k3 T' rfl X'
    exact ⟨t2, st t2 a1, b1⟩
  · obtain ⟨k1, k2, k3⟩ := vx_keep h0 e1 hS hAX hf hL hF
    obtain ⟨t2, a1, b1⟩ := kx E ce q u t T'.heap (locs ++ L) e1.symm (by rw [← e2]; exact X'.warmed.alike) hp hb k1 k2 k3 (by rw [e1]; exact hce) hcv hcl T' rfl X'
    exact ⟨t2, st.trans a1, b1⟩
theorem vx_calll {S SX : Type} {post : Int64 → S → Prop} {px : SX → Prop} {B : S → State → Prop} {BX : String → SX → State → Prop} {AX : Nat → Prop} (hr : vx_Run p l e R s m args below meth c H locs cells slots mc ms (F0 m pc ls st0) rest (va_Ql post B A1 a) (vx_X px BX AX) free) (hS : va_S A0 H0 H locs) (hA : ∀ q, q < H.size → A1 q → A0 q) (hf : ∀ q, free q → A0 q) (hAX : ∀ q, q < H.size → AX q → A0 q)
    (kx : ∀ (E : String) (ce : Cell) (q9 : Addr) (u : SX) (t : State) (H1 : Heap) (locs1 : List Loc), t.heap = H1 → s.vm.Alike t.vm → px u → BX E u t → H.size ≤ H1.size → (∀ q : Nat, q < H.size → ¬ AX q → H1[q]? = H[q]?) → va_S A0 H0 H1 locs1 → H1[q9]? = some ce → ce.vm = .none → s.vm.findClass E = some ce.cls → vx_W p l e R s m args below meth c H1 locs1 (cells + mc) (slots + ms) Q (F0 m pc ls rest) q9)
    (kk : ∀ (r : Int64) (u : S) (t : State) (H1 : Heap) (locs1 : List Loc), t.heap = H1 → s.vm.Alike t.vm → post r u → B u t → H.size ≤ H1.size → (∀ q : Nat, q < H.size → ¬ A1 q → H1[q]? = H[q]?) → va_S A0 H0 H1 locs1 → W p l e R s m args below meth c H1 locs1 (cells + mc) (slots + ms) Q (F0 m (pc + 3) ls (.long r :: rest))) : W p l e R s m args below meth c H locs cells slots Q (F0 m pc ls st0) := by
  intro T hT X
  rcases hr T hT X with ⟨v, st₀, t, T', L, h0, X', hL, e1, e2, ⟨⟨r, u, hv, hp, hb⟩, hF⟩, st⟩ | ⟨q, st₀, t, T', L, E, ce, h0, X', hL, e1, e2, ⟨u, hp, hb, hF⟩, hce, hcv, hcl, st⟩
  · cases hv
    obtain ⟨k1, k2, k3⟩ := vx_keep h0 e1 hS hA hf hL hF
    obtain ⟨t2, a1, b1⟩ := kk r u t T'.heap (locs ++ L) e1.symm (by rw [← e2]; exact X'.warmed.alike) hp hb k1 k2 k3 T' rfl X'
    exact ⟨t2, st t2 a1, b1⟩
  · obtain ⟨k1, k2, k3⟩ := vx_keep h0 e1 hS hAX hf hL hF
    obtain ⟨t2, a1, b1⟩ := kx E ce q u t T'.heap (locs ++ L) e1.symm (by rw [← e2]; exact X'.warmed.alike) hp hb k1 k2 k3 (by rw [e1]; exact hce) hcv hcl T' rfl X'
    exact ⟨t2, st.trans a1, b1⟩
theorem vx_callf {S SX : Type} {post : UInt32 → S → Prop} {px : SX → Prop} {B : S → State → Prop} {BX : String → SX → State → Prop} {AX : Nat → Prop} (hr : vx_Run p l e R s m args below meth c H locs cells slots mc ms (F0 m pc ls st0) rest (va_Qf post B A1 a) (vx_X px BX AX) free) (hS : va_S A0 H0 H locs) (hA : ∀ q, q < H.size → A1 q → A0 q) (hf : ∀ q, free q → A0 q) (hAX : ∀ q, q < H.size → AX q → A0 q)
    (kx : ∀ (E : String) (ce : Cell) (q9 : Addr) (u : SX) (t : State) (H1 : Heap) (locs1 : List Loc), t.heap = H1 → s.vm.Alike t.vm → px u → BX E u t → H.size ≤ H1.size → (∀ q : Nat, q < H.size → ¬ AX q → H1[q]? = H[q]?) → va_S A0 H0 H1 locs1 → H1[q9]? = some ce → ce.vm = .none → s.vm.findClass E = some ce.cls → vx_W p l e R s m args below meth c H1 locs1 (cells + mc) (slots + ms) Q (F0 m pc ls rest) q9)
    (kk : ∀ (r : UInt32) (u : S) (t : State) (H1 : Heap) (locs1 : List Loc), t.heap = H1 → s.vm.Alike t.vm → post r u → B u t → H.size ≤ H1.size → (∀ q : Nat, q < H.size → ¬ A1 q → H1[q]? = H[q]?) → va_S A0 H0 H1 locs1 → W p l e R s m args below meth c H1 locs1 (cells + mc) (slots + ms) Q (F0 m (pc + 3) ls (.float r :: rest))) : W p l e R s m args below meth c H locs cells slots Q (F0 m pc ls st0) := by
  intro T hT X
  rcases hr T hT X with ⟨v, st₀, t, T', L, h0, X', hL, e1, e2, ⟨⟨r, u, hv, hp, hb⟩, hF⟩, st⟩ | ⟨q, st₀, t, T', L, E, ce, h0, X', hL, e1, e2, ⟨u, hp, hb, hF⟩, hce, hcv, hcl, st⟩
  · cases hv
    obtain ⟨k1, k2, k3⟩ := vx_keep h0 e1 hS hA hf hL hF
    obtain ⟨t2, a1, b1⟩ := kk r u t T'.heap (locs ++ L) e1.symm (by rw [← e2]; exact X'.warmed.alike) hp hb k1 k2 k3 T' rfl X'
    exact ⟨t2, st t2 a1, b1⟩
  · obtain ⟨k1, k2, k3⟩ := vx_keep h0 e1 hS hAX hf hL hF
    obtain ⟨t2, a1, b1⟩ := kx E ce q u t T'.heap (locs ++ L) e1.symm (by rw [← e2]; exact X'.warmed.alike) hp hb k1 k2 k3 (by rw [e1]; exact hce) hcv hcl T' rfl X'
    exact ⟨t2, st.trans a1, b1⟩
theorem vx_calld {S SX : Type} {post : UInt64 → S → Prop} {px : SX → Prop} {B : S → State → Prop} {BX : String → SX → State → Prop} {AX : Nat → Prop} (hr : vx_Run p l e R s m args below meth c H locs cells slots mc ms (F0 m pc ls st0) rest (va_Qd post B A1 a) (vx_X px BX AX) free) (hS : va_S A0 H0 H locs) (hA : ∀ q, q < H.size → A1 q → A0 q) (hf : ∀ q, free q → A0 q) (hAX : ∀ q, q < H.size → AX q → A0 q)
    (kx : ∀ (E : String) (ce : Cell) (q9 : Addr) (u : SX) (t : State) (H1 : Heap) (locs1 : List Loc), t.heap = H1 → s.vm.Alike t.vm → px u → BX E u t → H.size ≤ H1.size → (∀ q : Nat, q < H.size → ¬ AX q → H1[q]? = H[q]?) → va_S A0 H0 H1 locs1 → H1[q9]? = some ce → ce.vm = .none → s.vm.findClass E = some ce.cls → vx_W p l e R s m args below meth c H1 locs1 (cells + mc) (slots + ms) Q (F0 m pc ls rest) q9)
    (kk : ∀ (r : UInt64) (u : S) (t : State) (H1 : Heap) (locs1 : List Loc), t.heap = H1 → s.vm.Alike t.vm → post r u → B u t → H.size ≤ H1.size → (∀ q : Nat, q < H.size → ¬ A1 q → H1[q]? = H[q]?) → va_S A0 H0 H1 locs1 → W p l e R s m args below meth c H1 locs1 (cells + mc) (slots + ms) Q (F0 m (pc + 3) ls (.double r :: rest))) : W p l e R s m args below meth c H locs cells slots Q (F0 m pc ls st0) := by
  intro T hT X
  rcases hr T hT X with ⟨v, st₀, t, T', L, h0, X', hL, e1, e2, ⟨⟨r, u, hv, hp, hb⟩, hF⟩, st⟩ | ⟨q, st₀, t, T', L, E, ce, h0, X', hL, e1, e2, ⟨u, hp, hb, hF⟩, hce, hcv, hcl, st⟩
  · cases hv
    obtain ⟨k1, k2, k3⟩ := vx_keep h0 e1 hS hA hf hL hF
    obtain ⟨t2, a1, b1⟩ := kk r u t T'.heap (locs ++ L) e1.symm (by rw [← e2]; exact X'.warmed.alike) hp hb k1 k2 k3 T' rfl X'
    exact ⟨t2, st t2 a1, b1⟩
  · obtain ⟨k1, k2, k3⟩ := vx_keep h0 e1 hS hAX hf hL hF
    obtain ⟨t2, a1, b1⟩ := kx E ce q u t T'.heap (locs ++ L) e1.symm (by rw [← e2]; exact X'.warmed.alike) hp hb k1 k2 k3 (by rw [e1]; exact hce) hcv hcl T' rfl X'
    exact ⟨t2, st.trans a1, b1⟩
theorem vx_callv {S SX : Type} {post : S → Prop} {px : SX → Prop} {B : S → State → Prop} {BX : String → SX → State → Prop} {AX : Nat → Prop} (hr : vx_Run p l e R s m args below meth c H locs cells slots mc ms (F0 m pc ls st0) rest (va_Qv post B A1 a) (vx_X px BX AX) free) (hS : va_S A0 H0 H locs) (hA : ∀ q, q < H.size → A1 q → A0 q) (hf : ∀ q, free q → A0 q) (hAX : ∀ q, q < H.size → AX q → A0 q)
    (kx : ∀ (E : String) (ce : Cell) (q9 : Addr) (u : SX) (t : State) (H1 : Heap) (locs1 : List Loc), t.heap = H1 → s.vm.Alike t.vm → px u → BX E u t → H.size ≤ H1.size → (∀ q : Nat, q < H.size → ¬ AX q → H1[q]? = H[q]?) → va_S A0 H0 H1 locs1 → H1[q9]? = some ce → ce.vm = .none → s.vm.findClass E = some ce.cls → vx_W p l e R s m args below meth c H1 locs1 (cells + mc) (slots + ms) Q (F0 m pc ls rest) q9)
    (kk : ∀ (u : S) (t : State) (H1 : Heap) (locs1 : List Loc), t.heap = H1 → s.vm.Alike t.vm → post u → B u t → H.size ≤ H1.size → (∀ q : Nat, q < H.size → ¬ A1 q → H1[q]? = H[q]?) → va_S A0 H0 H1 locs1 → W p l e R s m args below meth c H1 locs1 (cells + mc) (slots + ms) Q (F0 m (pc + 3) ls (rest))) : W p l e R s m args below meth c H locs cells slots Q (F0 m pc ls st0) := by
  intro T hT X
  rcases hr T hT X with ⟨v, st₀, t, T', L, h0, X', hL, e1, e2, ⟨⟨u, hv, hp, hb⟩, hF⟩, st⟩ | ⟨q, st₀, t, T', L, E, ce, h0, X', hL, e1, e2, ⟨u, hp, hb, hF⟩, hce, hcv, hcl, st⟩
  · cases hv
    obtain ⟨k1, k2, k3⟩ := vx_keep h0 e1 hS hA hf hL hF
    obtain ⟨t2, a1, b1⟩ := kk u t T'.heap (locs ++ L) e1.symm (by rw [← e2]; exact X'.warmed.alike) hp hb k1 k2 k3 T' rfl X'
    exact ⟨t2, st t2 a1, b1⟩
  · obtain ⟨k1, k2, k3⟩ := vx_keep h0 e1 hS hAX hf hL hF
    obtain ⟨t2, a1, b1⟩ := kx E ce q u t T'.heap (locs ++ L) e1.symm (by rw [← e2]; exact X'.warmed.alike) hp hb k1 k2 k3 (by rw [e1]; exact hce) hcv hcl T' rfl X'
    exact ⟨t2, st.trans a1, b1⟩
/-- caught by the row x of this method's table; the rows ahead don't take it -/
theorem vx_catch {own name : String} {E : String} {ce : Cell} {q : Addr} (hown : s.vm.findClass own = some m.cls) (pre : List ExceptionTableEntry) (x : ExceptionTableEntry) (suf : List ExceptionTableEntry) (hsplit : c.exceptionTable.toList = pre ++ x :: suf)
    (hpass : ∀ z ∈ pre, covers z pc = false ∨ (z.catchType ≠ 0 ∧ ∃ nm : String, (Cond.classLink own z.catchType nm).before args s = true ∧ va_Nc E nm s)) (hx : covers x pc = true) (h0 : x.catchType ≠ 0)
    (hlink : (Cond.classLink own x.catchType name).before args s = true) (hcast : (Cond.castable E name).before args s = true) (hcell : H[q]? = some ce) (hv : ce.vm = .none) (hcl : s.vm.findClass E = some ce.cls)
    (kk : W p l e R s m args below meth c H locs cells slots Q (F0 m x.handlerPc ls [.ref q])) : vx_W p l e R s m args below meth c H locs cells slots Q (F0 m pc ls rest) q := by
  intro T hT X
  have hpl : e.platform.magicAccessors = ({} : Platform).magicAccessors := by rw [X.admits.platform]
  obtain ⟨c3, c4, hc3, hc4, hasg⟩ := Cond.castable_spec hcast
  cases Option.some.inj (hc3.symm.trans hcl)
  obtain ⟨c5, hc5, hcl5⟩ := Cond.classLink_spec hown hlink e.platform hpl
  cases Option.some.inj (hc4.symm.trans hc5)
  obtain ⟨vm', X', st⟩ := X.thenCaughtThrough q (g := F0 m pc ls rest) rfl (Steps.refl _) (by rw [hT]; exact hcell) (by rw [hv]; rfl) (by obtain ⟨k9, h9, -⟩ := Vm.findClass_spec hcl; exact ⟨k9, h9⟩) pre x suf hsplit
    (fun z hz => by
      rcases hpass z hz with h | ⟨hz0, nm, hl1, hn1⟩
      · exact Or.inl h
      · obtain ⟨c6, hc6, hcl6⟩ := Cond.classLink_spec hown hl1 e.platform hpl
        obtain ⟨a8, b8, h1, h2, h3⟩ := hn1
        cases Option.some.inj (h1.symm.trans hcl)
        cases Option.some.inj (h2.symm.trans hc6)
        exact Or.inr ⟨hz0, _, hcl6, h3⟩) hx (Or.inr ⟨h0, c4, hcl5, hasg⟩)
  obtain ⟨t, a1, b1⟩ := kk (T.setVm vm') hT X'
  exact ⟨t, st.trans a1, b1⟩
end Rows
section Ends
variable {p : Program} {l : Launch} {e : Env} {R : Room} {s : State} {m : MethodId} {args : Array Value} {below : List Frame} {meth : Method} {c : Code} {H : Heap} {locs : List Loc} {cells slots : Nat} {Q : State → Prop}
variable {mc ms : Nat} {free : Addr → Prop} {A0 A1 : Nat → Prop} {H0 : Heap} {a : Array Value} {ls : Array Slot} {st0 rest : List Value}
variable {Qc : Array Value → State → Outcome → State → Prop} {XC : String → State → State → Prop}
/-- what a body that may throw owes at its end -/
def vx_MQ (below : List Frame) (Qc : Array Value → State → Outcome → State → Prop) (XC : String → State → State → Prop) (a : Array Value) (s : State) (mc ms : Nat) (free : Addr → Prop) : State → Prop := fun t =>
  ∃ o, t.status = .running ∧ Ended t below o ∧ vx_Q Qc XC mc ms free a s o t
theorem vx_ret {g : JFrame} {mc ms : Nat} (k : W p l e R s m args below meth c H locs cells slots (MQ below Qc args s mc ms free) g) : W p l e R s m args below meth c H locs cells slots (vx_MQ below Qc XC args s mc ms free) g := by
  intro T hT X
  obtain ⟨t, a1, o, b1, b2, b3, b4⟩ := k T hT X
  exact ⟨t, a1, o, b1, b2, Or.inl ⟨b3, b4⟩⟩
/-- not caught here: it goes on to the caller -/
theorem vx_widen {g : JFrame} {q : Addr} {k n : Nat} (h1 : cells ≤ k) (h2 : slots ≤ n) (kk : vx_W p l e R s m args below meth c H locs k n Q g q) : vx_W p l e R s m args below meth c H locs cells slots Q g q := fun T hT X => kk T hT (stand_widen X h1 h2)
theorem vx_out {pc : Nat} {E : String} {ce : Cell} {q : Addr} {mc ms : Nat} (hout : ∀ x ∈ c.exceptionTable.toList, covers x pc = false) (hlocks : meth.locks = false) (hcell : H[q]? = some ce) (hv : ce.vm = .none) (hcl : s.vm.findClass E = some ce.cls)
    (hx : ∀ t : State, t.heap = H → s.vm.Alike t.vm → XC E s t) (hf : ∀ z ∈ locs, free z.base) (hc : cells ≤ mc) (hs : slots ≤ ms) :
    vx_W p l e R s m args below meth c H locs cells slots (vx_MQ below Qc XC args s mc ms free) (F0 m pc ls rest) q := by
  intro T hT X
  obtain ⟨st1, hrun, hend, hW, hsm⟩ := X.leaveThrown q (g := F0 m pc ls rest) rfl rfl rfl hout hlocks
  have hcell9 : (T.setFrames (.throwing q :: below)).heap[q]? = some ce := by
    show T.heap[q]? = some ce
    rw [hT]; exact hcell
  exact ⟨_, st1, .threw q, hrun, hend, Or.inr ⟨q, rfl, E, ce, locs, hx _ hT hW.alike, hcell9, hv, hcl, hW, hsm.mono hc hs, hf⟩⟩
theorem vx_frame {U : State} {k n : Nat} (h : s.sameButNew ({ U with vm := s.vm } : State) locs k n) : s.heap.size ≤ U.heap.size ∧ ∀ q : Nat, q < s.heap.size → (∀ z ∈ locs, z.base ≠ q) → U.heap[q]? = s.heap[q]? := by
  obtain ⟨-, h2, -, -, -, h6⟩ := h
  refine ⟨h2, fun q hq hz => ?_⟩
  obtain ⟨c9, e1, e2, e3, e4⟩ := h6 q _ (Array.getElem?_eq_getElem hq)
  have hs : c9.slots = (s.heap[q]).slots := Array.ext_getElem? fun i => e4 i fun hm => hz _ hm rfl
  have h9 : c9 = s.heap[q] := by
    rw [hs] at e2
    exact e2
  have e5 : U.heap[q]? = some c9 := e1
  rw [e5, h9, Array.getElem?_eq_getElem hq]
/-- the words of a throw but the four that speak of the heap -/
def vx_no (w : Cond) : Bool := decide (w ≠ .isRef (.static Bundle.tN "UNASSIGNED_STACK" Bundle.steD)) && decide (w ≠ .isRef (.static Bundle.tN "SUPPRESSED_SENTINEL" Bundle.listD)) && decide (w ≠ .laysStatic Bundle.tN "UNASSIGNED_STACK" Bundle.steD) && decide (w ≠ .laysStatic Bundle.tN "SUPPRESSED_SENTINEL" Bundle.listD)
def vx_at0 (own : String) (ic : Nat) (X : String) (names : List String) : List Cond := (Bundle.ownAtoms0 own ic X names).filter vx_no
def vx_atS (own : String) (ic : Nat) (X : String) (names : List String) : List Cond := (Bundle.ownAtoms own ic X names).filter vx_no
/-- a word that the tables alone decide, or a good one -/
def vx_ot (w : Cond) : Bool := w.onTables || goodWord w
theorem vx_ot_at {args a' : Array Value} {s U : State} {w : Cond} (hW : s.WarmedH U.vm) (hvm : s.vm = U.vm) (hg : vx_ot w = true) (h : w.before args s = true) : w.before a' U = true := by
  simp only [vx_ot, Bool.or_eq_true] at hg
  rcases hg with hg | hg
  · exact va_tabs hg hvm h
  · exact word_at hW (good_of_word hg) h
/-- a list's words: the good ones out of the method's own list, the others by premises of their own -/
theorem vx_hat {args : Array Value} {s : State} {L B : List Cond} (h1 : ∀ w ∈ L.filter goodWord, w.before args s = true) (h2 : ∀ w ∈ L.filter (fun w => !goodWord w), w ∈ B) (h3 : ∀ w ∈ B, w.before args s = true) : ∀ w ∈ L, w.before args s = true := by
  intro w hw
  by_cases g : goodWord w = true
  · exact h1 w (List.mem_filter.mpr ⟨hw, g⟩)
  · refine h3 w (h2 w (List.mem_filter.mpr ⟨hw, ?_⟩))
    show (!goodWord w) = true
    cases hgw : goodWord w
    · rfl
    · exact absurd hgw g
theorem vx_c {args : Array Value} {s : State} {w : Cond} {B : List Cond} (h : w.before args s = true) (t : ∀ w ∈ B, w.before args s = true) : ∀ w' ∈ w :: B, w'.before args s = true := fun w' h' => (List.mem_cons.mp h').elim (fun e => by rw [e]; exact h) (t w')
theorem vx_n {args : Array Value} {s : State} : ∀ w ∈ ([] : List Cond), w.before args s = true := fun _ h => nomatch h
theorem vx_own {args : Array Value} {s : State} {L : List Cond} (h1 : ∀ w ∈ L.filter vx_no, w.before args s = true)
    (hU : (Cond.isRef (.static Bundle.tN "UNASSIGNED_STACK" Bundle.steD)).before args s = true) (hN : (Cond.isRef (.static Bundle.tN "SUPPRESSED_SENTINEL" Bundle.listD)).before args s = true)
    (lU : (Cond.laysStatic Bundle.tN "UNASSIGNED_STACK" Bundle.steD).before args s = true) (lN : (Cond.laysStatic Bundle.tN "SUPPRESSED_SENTINEL" Bundle.listD).before args s = true) : ∀ w ∈ L, w.before args s = true := by
  intro w hw
  by_cases e1 : w = .isRef (.static Bundle.tN "UNASSIGNED_STACK" Bundle.steD)
  · rw [e1]; exact hU
  · by_cases e2 : w = .isRef (.static Bundle.tN "SUPPRESSED_SENTINEL" Bundle.listD)
    · rw [e2]; exact hN
    · by_cases e3 : w = .laysStatic Bundle.tN "UNASSIGNED_STACK" Bundle.steD
      · rw [e3]; exact lU
      · by_cases e4 : w = .laysStatic Bundle.tN "SUPPRESSED_SENTINEL" Bundle.listD
        · rw [e4]; exact lN
        · exact h1 w (List.mem_filter.mpr ⟨hw, by unfold vx_no; rw [decide_eq_true e1, decide_eq_true e2, decide_eq_true e3, decide_eq_true e4]; rfl⟩)
/-- where a static field lies, its class's statics cell in H -/
def vx_L (C n d : String) (A : Nat → Prop) (U : State) (H : Heap) : Prop := ∃ (c : ClassId) (k : Class) (i : Nat) (f : Field) (a : Nat) (cell : Cell), U.vm.findClass C = some c ∧ U.fieldFound? C n d = some (c, k, i, f) ∧ f.isStatic = true ∧ k.statics = some a ∧ H[a]? = some cell ∧ cell.vm.isStatics = true ∧ cell.cls = c ∧ f.slot < cell.slots.size ∧ k.staticTypes[f.slot]? = some f.type ∧ ¬ A a
theorem vx_L.moved {C n d : String} {A : Nat → Prop} {u U : State} {H : Heap} (hvm : u.vm.Alike U.vm) (h : vx_L C n d A u H) : vx_L C n d A U H := by
  obtain ⟨c, k, i, f, a, cell, h1, h2, h3, h4, h5, h6, h7, h8, h9, h10⟩ := h
  obtain ⟨k', hi', he⟩ := State.fieldFound?_setVm hvm h2
  exact ⟨c, k', i, f, a, cell, by rw [hvm.findClass]; exact h1, hi', h3, by rw [he]; exact h4, h5, h6, h7, h8, by rw [he]; exact h9, h10⟩
theorem vx_L.kept {C n d : String} {A : Nat → Prop} {U : State} {H H1 : Heap} (h : vx_L C n d A U H) (hq : ∀ a : Nat, a < H.size → ¬ A a → H1[a]? = H[a]?) : vx_L C n d A U H1 := by
  obtain ⟨c, k, i, f, a, cell, h1, h2, h3, h4, h5, h6, h7, h8, h9, h10⟩ := h
  exact ⟨c, k, i, f, a, cell, h1, h2, h3, h4, by rw [hq a (Array.getElem?_eq_some_iff.mp h5).1 h10]; exact h5, h6, h7, h8, h9, h10⟩
theorem vx_L.narrow {C n d : String} {A B : Nat → Prop} {U : State} {H : Heap} (h : vx_L C n d A U H) (hAB : ∀ q, B q → A q) : vx_L C n d B U H := by
  obtain ⟨c, k, i, f, a, cell, h1, h2, h3, h4, h5, h6, h7, h8, h9, h10⟩ := h
  exact ⟨c, k, i, f, a, cell, h1, h2, h3, h4, h5, h6, h7, h8, h9, fun z => h10 (hAB _ z)⟩
theorem vx_L.word {C n d : String} {A : Nat → Prop} {s : State} {args : Array Value} (h : vx_L C n d A s s.heap) : (Cond.laysStatic C n d).before args s = true := by
  obtain ⟨c, k, i, f, a, cell, h1, h2, h3, h4, h5, h6, h7, h8, h9, -⟩ := h
  show (Cond.laysStatic C n d).holds args s none s [] = true
  exact Cond.laysStatic_of h1 h2 h3 h4 h5 h6 h7 h8 h9
/-- .. and what it holds: null or some reference -/
def vx_Zq (C n d : String) (A : Nat → Prop) (U : State) (H : Heap) : Prop := va_Zq C n d A U H ∧ vx_L C n d A U H
theorem vx_Zq.moved {C n d : String} {A : Nat → Prop} {u U : State} {H : Heap} (hvm : u.vm.Alike U.vm) (h : vx_Zq C n d A u H) : vx_Zq C n d A U H := ⟨va_Zq.moved hvm h.1, vx_L.moved hvm h.2⟩
theorem vx_Zq.kept {C n d : String} {A : Nat → Prop} {U : State} {H H1 : Heap} (h : vx_Zq C n d A U H) (hq : ∀ a : Nat, a < H.size → ¬ A a → H1[a]? = H[a]?) : vx_Zq C n d A U H1 := ⟨va_Zq.kept h.1 hq, vx_L.kept h.2 hq⟩
theorem vx_Zq.narrow {C n d : String} {A B : Nat → Prop} {U : State} {H : Heap} (h : vx_Zq C n d A U H) (hAB : ∀ q, B q → A q) : vx_Zq C n d B U H := ⟨va_Zq.narrow h.1 hAB, vx_L.narrow h.2 hAB⟩
theorem vx_Zqof {args : Array Value} {s : State} {C n d : String} {A : Nat → Prop} (hl : (Cond.laysStatic C n d).before args s = true) (hini : (Cond.initialized C).before args s = true) (h : (Cond.isRef (.static C n d)).before args s = true) (hA : ∀ a : Nat, a < s.heap.size → ¬ A a) : vx_Zq C n d A s s.heap := by
  refine ⟨va_Zqof hl hini h hA, ?_⟩
  obtain ⟨c, k, i, f, a, cell, h1, h2, h3, h4, h5, h6, h7, h8, h9⟩ := Cond.laysStatic_spec hl
  exact ⟨c, k, i, f, a, cell, h1, h2, h3, h4, h5, h6, h7, h8, h9, hA a (Array.getElem?_eq_some_iff.mp h5).1⟩
theorem vx_isRef {C n d : String} {v : Value} {A : Nat → Prop} {s : State} {args : Array Value} (h : va_Z C n d v A s s.heap) (hv : v.isRef = true) : (Cond.isRef (.static C n d)).before args s = true := by
  obtain ⟨cf, kf, fi, f, a, cell, h1, h2, h3, h4, h5, h6, h7, -⟩ := h
  have he : (Term.static C n d).eval args s none [] s = some v := by
    simp [Term.eval, State.fieldNamed?, h1, h2, h4, h5, h6, h7]
  simp only [Cond.before, Cond.holds, Cond.value, he]
  cases v <;> simp_all [Value.isRef]
theorem vx_isRefq {C n d : String} {A : Nat → Prop} {s : State} {args : Array Value} (h : va_Zq C n d A s s.heap) : (Cond.isRef (.static C n d)).before args s = true := by
  rcases h with h | ⟨t, h⟩
  · exact vx_isRef h rfl
  · exact vx_isRef h rfl
/-- the same frame, seen from here: as if the method were called anew in this heap -/
theorem vx_rebase {T : State} (X : Stand p l e R s m args below meth c T locs cells slots) {R' : Room} (hf : R'.frames ≤ R.frames) (hl : R'.locals ≤ R.locals) (hc : cells + R'.cells ≤ R.cells) (hs : slots + R'.slots ≤ R.slots) :
    Stand p l e R' ((T.setVm s.vm).setFrames (.invoking m args :: below)) m args below meth c T [] 0 0 := by
  have htop : (T.setVm s.vm).topJava?.isSome := X.here.top
  have hF : ((T.setVm s.vm).setFrames (.invoking m args :: below)).frames = .invoking m args :: below := State.frames_setFrames _ (State.cur_lt_of_top htop)
  obtain ⟨g₀, hg0⟩ := Option.isSome_iff_exists.mp htop
  obtain ⟨r, hr⟩ := State.topJava?_eq_some.mp hg0
  have hl9 : e.platform.stackLimits (T.setVm s.vm).me = e.platform.stackLimits s.me := X.limits
  have hb9 : (T.setVm s.vm).me.stackBytes = s.me.stackBytes := X.bytes
  refine ⟨X.admits, X.cas, X.clock, hF, ?_, X.hears, X.method, X.code, X.here, X.tail, X.warmed, ?_, ?_, ?_⟩
  · have h := X.room
    have hU : ((T.setVm s.vm).setFrames (.invoking m args :: below)).localsInUse = s.localsInUse := by
      rw [State.localsInUse_invoking hF (meth := meth) (c := c) X.method X.code, State.localsInUse_invoking X.frames X.method X.code]
    simp only [State.hasRoom, Bool.and_eq_true, decide_eq_true_eq] at h ⊢
    obtain ⟨⟨⟨⟨h1, h2, h3, h4, h5, h6⟩, h7⟩, h8⟩, h9⟩ := h
    rw [X.frames, List.length_cons] at h2 h3
    have q1 := X.heapSize
    have q2 := X.used
    simp only [hF, hU, List.length_cons, State.stackLimits_setFrames, State.stackBytes_setFrames, hl9, hb9]
    refine ⟨⟨⟨⟨by omega, by omega, by omega, by omega, by omega, h6⟩, ?_⟩, ?_⟩, X.book⟩
    · show T.heap.size + R'.cells ≤ e.platform.maxCells
      omega
    · show T.slotsUsed + R'.slots ≤ e.platform.maxSlots
      omega
  · rw [State.stackLimits_setFrames]; rfl
  · rw [State.stackBytes_setFrames]; rfl
  · refine ⟨?_, Nat.le_refl _, Nat.le_refl _, ?_, ?_, fun a c9 h9 => ⟨c9, h9, rfl, rfl, fun _ _ => rfl⟩⟩
    · obtain ⟨t, ht, -⟩ := State.frames_cons hr
      show T.setVm s.vm = { ((T.setVm s.vm).setFrames (.invoking m args :: below)).setFrames (T.setVm s.vm).frames with heap := T.heap, slotsUsed := T.slotsUsed }
      rw [State.setFrames_setFrames, State.setFrames_self ht]
      rfl
    · show T.slotsUsed = T.slotsUsed + ((T.heap.toList.drop T.heap.size).map (·.slots.size)).sum
      rw [List.drop_eq_nil_of_le (Nat.le_of_eq Array.length_toList)]
      rfl
    · show ((T.heap.toList.drop T.heap.size).map (·.slots.size)).sum ≤ 0
      rw [List.drop_eq_nil_of_le (Nat.le_of_eq Array.length_toList)]
      exact Nat.le_refl _
/-- 'throw new E()': new; dup; invokespecial; athrow -/
theorem vx_throw0 {cc : ByteArray} {pc : Nat} (hexec : p.tables.exec = Jvm.exec) (hb : c.code = cc) (hl : l.stackTraces = false) {own cls : String} {names : List String} {ik ic mc ms : Nat} {A : Nat → Prop}
    (hown : s.vm.findClass own = some m.cls) (hcls : Bundle.fit cls = true) (hnames : ∀ n ∈ names, Bundle.fit n = true)
    (hk : (Cond.classLink own ik cls).before args s = true) (hini : (Cond.initialized cls).before args s = true) (hat : ∀ w ∈ vx_at0 own ic cls names, w.before args s = true)
    (hgood : ∀ w ∈ Cond.classLink own ik cls :: Cond.initialized cls :: vx_at0 own ic cls names, vx_ot w = true)
    (hU : vx_Zq Bundle.tN "UNASSIGNED_STACK" Bundle.steD A s s.heap) (hN : vx_Zq Bundle.tN "SUPPRESSED_SENTINEL" Bundle.listD A s s.heap) (hS : va_S A s.heap H locs) (hsize : ls.size = c.maxLocals)
    (d0 : decode cc pc = .ok (.new ik, 3)) (d3 : decode cc (pc + 3) = .ok (.dup, 1)) (d4 : decode cc (pc + 4) = .ok (.invokespecial ic, 3)) (d7 : decode cc (pc + 7) = .ok (.athrow, 1))
    (hout : ∀ x ∈ c.exceptionTable.toList, covers x (pc + 7) = false)
    (hRframes : names.length + 3 < R.frames) (hRlocals : (rest.map fun v => v.category).sum + (13 * (names.length + 1) + 42) ≤ R.locals) (hRcells : cells + 1 ≤ R.cells) (hRslots : slots + 6 ≤ R.slots) (hlocks : meth.locks = false)
    (hx : ∀ t : State, s.vm.Alike t.vm → H.size ≤ t.heap.size → (∀ q : Nat, q < H.size → t.heap[q]? = H[q]?) → XC cls s t)
    (hf : ∀ z ∈ locs, free z.base) (hc : cells + 1 ≤ mc) (hs : slots + 6 ≤ ms) :
    W p l e R s m args below meth c H locs cells slots (vx_MQ below Qc XC args s mc ms free) (F0 m pc ls rest) := by
  intro T hT X
  have htr : e.platform.stackTraces = false := (show e.platform.stackTraces = l.stackTraces by rw [X.admits.platform]).trans hl
  have Y := vx_rebase X (R' := { frames := R.frames, locals := R.locals, cells := 1, slots := 6 }) (Nat.le_refl _) (Nat.le_refl _) hRcells hRslots
  obtain ⟨s', hA⟩ : ∃ z, z = (T.setVm s.vm).setFrames (.invoking m args :: below) := ⟨_, rfl⟩
  rw [← hA] at Y
  have hvm : s'.vm = s.vm := by rw [hA]; rfl
  have hhp : s'.heap = H := by rw [hA]; exact hT
  have hW0 : s.WarmedH s'.vm := by rw [hvm]; exact State.WarmedH.refl s
  have hat' : ∀ w ∈ vx_at0 own ic cls names, w.before args s' = true := fun w hw => vx_ot_at hW0 hvm.symm (hgood w (List.mem_cons_of_mem _ (List.mem_cons_of_mem _ hw))) (hat w hw)
  have hk' : (Cond.classLink own ik cls).before args s' = true := vx_ot_at hW0 hvm.symm (hgood _ List.mem_cons_self) hk
  have hini' : (Cond.initialized cls).before args s' = true := vx_ot_at hW0 hvm.symm (hgood _ (List.mem_cons_of_mem _ List.mem_cons_self)) hini
  have hU' : vx_Zq Bundle.tN "UNASSIGNED_STACK" Bundle.steD A s' s'.heap := by rw [hhp]; exact vx_Zq.moved hW0.alike (hU.kept hS.2.1)
  have hN' : vx_Zq Bundle.tN "SUPPRESSED_SENTINEL" Bundle.listD A s' s'.heap := by rw [hhp]; exact vx_Zq.moved hW0.alike (hN.kept hS.2.1)
  have h : ∀ w ∈ Bundle.ownAtoms0 own ic cls names, w.before args s' = true := vx_own hat' (vx_isRefq hU'.1) (vx_isRefq hN'.1) hU'.2.word hN'.2.word
  have hown' : s'.vm.findClass own = some m.cls := by rw [hvm]; exact hown
  have hins : (Cond.instantiable cls 6).before args s' = true := h _ (by simp [Bundle.ownAtoms0])
  obtain ⟨vm₁, cX, kX, hfX, hkX, -, -, X₁, st1⟩ := Y.newCold hexec (own := own) (C := cls) (index := ik) (n := 6) hown' hk' hins hini'
    (g := F0 m pc ls rest) rfl (by rw [hb]; exact d0) (Nat.le_refl _) (Nat.le_refl _)
  generalize hT1 : (T.setVm vm₁).pushCell { cls := cX, slots := kX.instanceTypes.map defaultValue, vm := .none } = T1 at X₁ st1
  have hcat : (Value.ref T.heap.size).category = 1 := rfl
  have hcellA : T1.heap[T.heap.size]? = some (freshCell cX kX) := by rw [← hT1]; exact State.heap_pushCell_size _ _
  have d3' : decode c.code (pc + 3) = .ok (.dup, 1) := by rw [hb]; exact d3
  obtain ⟨U, hsteps, hrun, hend, hW, hsame, ce, hce, hO⟩ := X₁.ctorThrow0 hexec htr (own := own) (cls := cls) (names := names) (ic := ic) hown' hcls hnames h (fun x hx => nomatch hx) hfX hkX hcellA (by rw [hhp, hT]; exact Nat.le_refl _)
    (g := { method := m, pc := pc + 4, locals := ls, stack := .ref T.heap.size :: .ref T.heap.size :: rest, locked := none }) rfl hsize rfl rfl (rest := rest) rfl
    (by rw [hb]; exact d4) (by rw [hb]; exact d7) hout hRframes (by simp only [List.map_cons, List.sum_cons, hcat]; omega) hlocks
  obtain ⟨f1, f2⟩ := vx_frame hsame
  rw [hhp] at f1 f2
  have hWs : s.WarmedH U.vm := State.WarmedH.trans hW0 hW
  have hcl : s.vm.findClass cls = some ce.cls := by
    have h9 := hO.cls
    rw [hvm] at h9
    exact h9
  have hall : s.sameButNew ({ U with vm := s.vm } : State) locs mc ms := by
    subst hA
    obtain ⟨e1, e2⟩ := hsame
    rw [State.setFrames_setFrames] at e1
    have h2 : (T.setVm s.vm).sameButNew ({ U with vm := s.vm } : State) [] (0 + 1) (0 + 6) := ⟨e1, e2⟩
    have h3 := X.same.trans h2
    rw [List.append_nil] at h3
    exact h3.mono hc hs
  refine ⟨U, ?_, .threw T.heap.size, hrun, hend, Or.inr ⟨T.heap.size, rfl, cls, ce, locs, hx U hWs.alike f1 (fun q hq => f2 q hq (fun z hz => nomatch hz)), hce, hO.vm, hcl, hWs, hall, hf⟩⟩
  refine st1 _ ?_
  show Steps p.tables e below (T1.setTop { method := m, pc := pc + 3, locals := ls, stack := .ref T.heap.size :: rest, locked := none }) _
  jvm_step X₁.here [X₁.here.top, hexec, d3', Value.category]
  exact hsteps
/-- 'throw new E("text")': new; dup; ldc; invokespecial; athrow -/
theorem vx_throwS {cc : ByteArray} {pc : Nat} (hexec : p.tables.exec = Jvm.exec) (hb : c.code = cc) (hl : l.stackTraces = false) {own cls text : String} {names : List String} {ik is ic mc ms sa : Nat} {A : Nat → Prop}
    (hown : s.vm.findClass own = some m.cls) (hcls : Bundle.fit cls = true) (hnames : ∀ n ∈ names, Bundle.fit n = true)
    (hk : (Cond.classLink own ik cls).before args s = true) (hini : (Cond.initialized cls).before args s = true) (hstr : vk_R own is text sa s) (hat : ∀ w ∈ vx_atS own ic cls names, w.before args s = true)
    (hgood : ∀ w ∈ Cond.classLink own ik cls :: Cond.initialized cls :: vx_atS own ic cls names, vx_ot w = true)
    (hU : vx_Zq Bundle.tN "UNASSIGNED_STACK" Bundle.steD A s s.heap) (hN : vx_Zq Bundle.tN "SUPPRESSED_SENTINEL" Bundle.listD A s s.heap) (hS : va_S A s.heap H locs) (hsize : ls.size = c.maxLocals)
    (d0 : decode cc pc = .ok (.new ik, 3)) (d3 : decode cc (pc + 3) = .ok (.dup, 1)) (d4 : decode cc (pc + 4) = .ok (.ldc is, 2)) (d6 : decode cc (pc + 6) = .ok (.invokespecial ic, 3)) (d9 : decode cc (pc + 9) = .ok (.athrow, 1))
    (hout : ∀ x ∈ c.exceptionTable.toList, covers x (pc + 9) = false)
    (hRframes : names.length + 3 < R.frames) (hRlocals : (rest.map fun v => v.category).sum + (13 * (names.length + 1) + 43) ≤ R.locals) (hRcells : cells + 1 ≤ R.cells) (hRslots : slots + 6 ≤ R.slots) (hlocks : meth.locks = false)
    (hx : ∀ t : State, s.vm.Alike t.vm → H.size ≤ t.heap.size → (∀ q : Nat, q < H.size → t.heap[q]? = H[q]?) → XC cls s t)
    (hf : ∀ z ∈ locs, free z.base) (hc : cells + 1 ≤ mc) (hs : slots + 6 ≤ ms) :
    W p l e R s m args below meth c H locs cells slots (vx_MQ below Qc XC args s mc ms free) (F0 m pc ls rest) := by
  intro T hT X
  have htr : e.platform.stackTraces = false := (show e.platform.stackTraces = l.stackTraces by rw [X.admits.platform]).trans hl
  have Y := vx_rebase X (R' := { frames := R.frames, locals := R.locals, cells := 1, slots := 6 }) (Nat.le_refl _) (Nat.le_refl _) hRcells hRslots
  obtain ⟨s', hA⟩ : ∃ z, z = (T.setVm s.vm).setFrames (.invoking m args :: below) := ⟨_, rfl⟩
  rw [← hA] at Y
  have hvm : s'.vm = s.vm := by rw [hA]; rfl
  have hhp : s'.heap = H := by rw [hA]; exact hT
  have hW0 : s.WarmedH s'.vm := by rw [hvm]; exact State.WarmedH.refl s
  have hat' : ∀ w ∈ vx_atS own ic cls names, w.before args s' = true := fun w hw => vx_ot_at hW0 hvm.symm (hgood w (List.mem_cons_of_mem _ (List.mem_cons_of_mem _ hw))) (hat w hw)
  have hk' : (Cond.classLink own ik cls).before args s' = true := vx_ot_at hW0 hvm.symm (hgood _ List.mem_cons_self) hk
  have hini' : (Cond.initialized cls).before args s' = true := vx_ot_at hW0 hvm.symm (hgood _ (List.mem_cons_of_mem _ List.mem_cons_self)) hini
  have hU' : vx_Zq Bundle.tN "UNASSIGNED_STACK" Bundle.steD A s' s'.heap := by rw [hhp]; exact vx_Zq.moved hW0.alike (hU.kept hS.2.1)
  have hN' : vx_Zq Bundle.tN "SUPPRESSED_SENTINEL" Bundle.listD A s' s'.heap := by rw [hhp]; exact vx_Zq.moved hW0.alike (hN.kept hS.2.1)
  have h : ∀ w ∈ Bundle.ownAtoms own ic cls names, w.before args s' = true := vx_own hat' (vx_isRefq hU'.1) (vx_isRefq hN'.1) hU'.2.word hN'.2.word
  have hown' : s'.vm.findClass own = some m.cls := by rw [hvm]; exact hown
  have hins : (Cond.instantiable cls 6).before args s' = true := h _ (by simp [Bundle.ownAtoms])
  obtain ⟨vm₁, cX, kX, hfX, hkX, -, -, X₁, st1⟩ := Y.newCold hexec (own := own) (C := cls) (index := ik) (n := 6) hown' hk' hins hini'
    (g := F0 m pc ls rest) rfl (by rw [hb]; exact d0) (Nat.le_refl _) (Nat.le_refl _)
  generalize hT1 : (T.setVm vm₁).pushCell { cls := cX, slots := kX.instanceTypes.map defaultValue, vm := .none } = T1 at X₁ st1
  have hcat : (Value.ref T.heap.size).category = 1 := rfl
  have hcellA : T1.heap[T.heap.size]? = some (freshCell cX kX) := by rw [← hT1]; exact State.heap_pushCell_size _ _
  have d3' : decode c.code (pc + 3) = .ok (.dup, 1) := by rw [hb]; exact d3
  have d4' : decode c.code (pc + 4) = .ok (.ldc is, 2) := by rw [hb]; exact d4
  have hstr' : vk_R own is text sa s' := vk_R.warm hW0 hstr
  obtain ⟨U, hsteps, hrun, hend, hW, hsame, ce, hce, hO⟩ := X₁.ctorThrowS hexec htr (own := own) (cls := cls) (names := names) (ic := ic) hown' hcls hnames h (fun x hx => nomatch hx) hfX hkX hcellA (by rw [hhp, hT]; exact Nat.le_refl _) (msg := .ref sa) rfl
    (g := { method := m, pc := pc + 6, locals := ls, stack := .ref sa :: .ref T.heap.size :: .ref T.heap.size :: rest, locked := none }) rfl hsize rfl rfl (rest := rest) rfl
    (by rw [hb]; exact d6) (by rw [hb]; exact d9) hout hRframes (by simp only [List.map_cons, List.sum_cons, hcat]; omega) hlocks
  obtain ⟨f1, f2⟩ := vx_frame hsame
  rw [hhp] at f1 f2
  have hWs : s.WarmedH U.vm := State.WarmedH.trans hW0 hW
  have hcl : s.vm.findClass cls = some ce.cls := by
    have h9 := hO.cls
    rw [hvm] at h9
    exact h9
  have hall : s.sameButNew ({ U with vm := s.vm } : State) locs mc ms := by
    subst hA
    obtain ⟨e1, e2⟩ := hsame
    rw [State.setFrames_setFrames] at e1
    have h2 : (T.setVm s.vm).sameButNew ({ U with vm := s.vm } : State) [] (0 + 1) (0 + 6) := ⟨e1, e2⟩
    have h3 := X.same.trans h2
    rw [List.append_nil] at h3
    exact h3.mono hc hs
  refine ⟨U, ?_, .threw T.heap.size, hrun, hend, Or.inr ⟨T.heap.size, rfl, cls, ce, locs, hx U hWs.alike f1 (fun q hq => f2 q hq (fun z hz => nomatch hz)), hce, hO.vm, hcl, hWs, hall, hf⟩⟩
  refine st1 _ ?_
  show Steps p.tables e below (T1.setTop { method := m, pc := pc + 3, locals := ls, stack := .ref T.heap.size :: rest, locked := none }) _
  jvm_step X₁.here [X₁.here.top, hexec, d3', Value.category]
  exact X₁.ldcString hexec (own := own) (text := text) (index := is) (a := sa) hown' hstr'.1 hstr'.2
    (g := { method := m, pc := pc + 4, locals := ls, stack := .ref T.heap.size :: .ref T.heap.size :: rest, locked := none }) rfl d4' _ hsteps
/-- 'throw new E("text")', the text by a wide index -/
theorem vx_throwSW {cc : ByteArray} {pc : Nat} (hexec : p.tables.exec = Jvm.exec) (hb : c.code = cc) (hl : l.stackTraces = false) {own cls text : String} {names : List String} {ik is ic mc ms sa : Nat} {A : Nat → Prop}
    (hown : s.vm.findClass own = some m.cls) (hcls : Bundle.fit cls = true) (hnames : ∀ n ∈ names, Bundle.fit n = true)
    (hk : (Cond.classLink own ik cls).before args s = true) (hini : (Cond.initialized cls).before args s = true) (hstr : vk_R own is text sa s) (hat : ∀ w ∈ vx_atS own ic cls names, w.before args s = true)
    (hgood : ∀ w ∈ Cond.classLink own ik cls :: Cond.initialized cls :: vx_atS own ic cls names, vx_ot w = true)
    (hU : vx_Zq Bundle.tN "UNASSIGNED_STACK" Bundle.steD A s s.heap) (hN : vx_Zq Bundle.tN "SUPPRESSED_SENTINEL" Bundle.listD A s s.heap) (hS : va_S A s.heap H locs) (hsize : ls.size = c.maxLocals)
    (d0 : decode cc pc = .ok (.new ik, 3)) (d3 : decode cc (pc + 3) = .ok (.dup, 1)) (d4 : decode cc (pc + 4) = .ok (.ldc_w is, 3)) (d7 : decode cc (pc + 7) = .ok (.invokespecial ic, 3)) (d10 : decode cc (pc + 10) = .ok (.athrow, 1))
    (hout : ∀ x ∈ c.exceptionTable.toList, covers x (pc + 10) = false)
    (hRframes : names.length + 3 < R.frames) (hRlocals : (rest.map fun v => v.category).sum + (13 * (names.length + 1) + 43) ≤ R.locals) (hRcells : cells + 1 ≤ R.cells) (hRslots : slots + 6 ≤ R.slots) (hlocks : meth.locks = false)
    (hx : ∀ t : State, s.vm.Alike t.vm → H.size ≤ t.heap.size → (∀ q : Nat, q < H.size → t.heap[q]? = H[q]?) → XC cls s t)
    (hf : ∀ z ∈ locs, free z.base) (hc : cells + 1 ≤ mc) (hs : slots + 6 ≤ ms) :
    W p l e R s m args below meth c H locs cells slots (vx_MQ below Qc XC args s mc ms free) (F0 m pc ls rest) := by
  intro T hT X
  have htr : e.platform.stackTraces = false := (show e.platform.stackTraces = l.stackTraces by rw [X.admits.platform]).trans hl
  have Y := vx_rebase X (R' := { frames := R.frames, locals := R.locals, cells := 1, slots := 6 }) (Nat.le_refl _) (Nat.le_refl _) hRcells hRslots
  obtain ⟨s', hA⟩ : ∃ z, z = (T.setVm s.vm).setFrames (.invoking m args :: below) := ⟨_, rfl⟩
  rw [← hA] at Y
  have hvm : s'.vm = s.vm := by rw [hA]; rfl
  have hhp : s'.heap = H := by rw [hA]; exact hT
  have hW0 : s.WarmedH s'.vm := by rw [hvm]; exact State.WarmedH.refl s
  have hat' : ∀ w ∈ vx_atS own ic cls names, w.before args s' = true := fun w hw => vx_ot_at hW0 hvm.symm (hgood w (List.mem_cons_of_mem _ (List.mem_cons_of_mem _ hw))) (hat w hw)
  have hk' : (Cond.classLink own ik cls).before args s' = true := vx_ot_at hW0 hvm.symm (hgood _ List.mem_cons_self) hk
  have hini' : (Cond.initialized cls).before args s' = true := vx_ot_at hW0 hvm.symm (hgood _ (List.mem_cons_of_mem _ List.mem_cons_self)) hini
  have hU' : vx_Zq Bundle.tN "UNASSIGNED_STACK" Bundle.steD A s' s'.heap := by rw [hhp]; exact vx_Zq.moved hW0.alike (hU.kept hS.2.1)
  have hN' : vx_Zq Bundle.tN "SUPPRESSED_SENTINEL" Bundle.listD A s' s'.heap := by rw [hhp]; exact vx_Zq.moved hW0.alike (hN.kept hS.2.1)
  have h : ∀ w ∈ Bundle.ownAtoms own ic cls names, w.before args s' = true := vx_own hat' (vx_isRefq hU'.1) (vx_isRefq hN'.1) hU'.2.word hN'.2.word
  have hown' : s'.vm.findClass own = some m.cls := by rw [hvm]; exact hown
  have hins : (Cond.instantiable cls 6).before args s' = true := h _ (by simp [Bundle.ownAtoms])
  obtain ⟨vm₁, cX, kX, hfX, hkX, -, -, X₁, st1⟩ := Y.newCold hexec (own := own) (C := cls) (index := ik) (n := 6) hown' hk' hins hini'
    (g := F0 m pc ls rest) rfl (by rw [hb]; exact d0) (Nat.le_refl _) (Nat.le_refl _)
  generalize hT1 : (T.setVm vm₁).pushCell { cls := cX, slots := kX.instanceTypes.map defaultValue, vm := .none } = T1 at X₁ st1
  have hcat : (Value.ref T.heap.size).category = 1 := rfl
  have hcellA : T1.heap[T.heap.size]? = some (freshCell cX kX) := by rw [← hT1]; exact State.heap_pushCell_size _ _
  have d3' : decode c.code (pc + 3) = .ok (.dup, 1) := by rw [hb]; exact d3
  have d4' : decode c.code (pc + 4) = .ok (.ldc_w is, 3) := by rw [hb]; exact d4
  have hstr' : vk_R own is text sa s' := vk_R.warm hW0 hstr
  obtain ⟨U, hsteps, hrun, hend, hW, hsame, ce, hce, hO⟩ := X₁.ctorThrowS hexec htr (own := own) (cls := cls) (names := names) (ic := ic) hown' hcls hnames h (fun x hx => nomatch hx) hfX hkX hcellA (by rw [hhp, hT]; exact Nat.le_refl _) (msg := .ref sa) rfl
    (g := { method := m, pc := pc + 7, locals := ls, stack := .ref sa :: .ref T.heap.size :: .ref T.heap.size :: rest, locked := none }) rfl hsize rfl rfl (rest := rest) rfl
    (by rw [hb]; exact d7) (by rw [hb]; exact d10) hout hRframes (by simp only [List.map_cons, List.sum_cons, hcat]; omega) hlocks
  obtain ⟨f1, f2⟩ := vx_frame hsame
  rw [hhp] at f1 f2
  have hWs : s.WarmedH U.vm := State.WarmedH.trans hW0 hW
  have hcl : s.vm.findClass cls = some ce.cls := by
    have h9 := hO.cls
    rw [hvm] at h9
    exact h9
  have hall : s.sameButNew ({ U with vm := s.vm } : State) locs mc ms := by
    subst hA
    obtain ⟨e1, e2⟩ := hsame
    rw [State.setFrames_setFrames] at e1
    have h2 : (T.setVm s.vm).sameButNew ({ U with vm := s.vm } : State) [] (0 + 1) (0 + 6) := ⟨e1, e2⟩
    have h3 := X.same.trans h2
    rw [List.append_nil] at h3
    exact h3.mono hc hs
  refine ⟨U, ?_, .threw T.heap.size, hrun, hend, Or.inr ⟨T.heap.size, rfl, cls, ce, locs, hx U hWs.alike f1 (fun q hq => f2 q hq (fun z hz => nomatch hz)), hce, hO.vm, hcl, hWs, hall, hf⟩⟩
  refine st1 _ ?_
  show Steps p.tables e below (T1.setTop { method := m, pc := pc + 3, locals := ls, stack := .ref T.heap.size :: rest, locked := none }) _
  jvm_step X₁.here [X₁.here.top, hexec, d3', Value.category]
  exact X₁.ldcStringW hexec (own := own) (text := text) (index := is) (a := sa) hown' hstr'.1 hstr'.2
    (g := { method := m, pc := pc + 4, locals := ls, stack := .ref T.heap.size :: .ref T.heap.size :: rest, locked := none }) rfl d4' _ hsteps
end Ends
section Bodies
variable {l : Launch}
theorem vx_ofW {y : MethodName} {ws ws' : List Cond} {rm : Room} {Pc : Array Value → State → Prop} {Qc : Array Value → State → Outcome → State → Prop} {XC : String → State → State → Prop} {mc ms : Nat} {free : Addr → Prop} {cc : ByteArray} {maxL : Nat} {ret : Option FieldType}
    (hy : plainName y.cls = true) (hw : ws = Cond.code y cc maxL ret :: ws')
    (body : ∀ p e s m args below meth c s₁, BodyLoose p l y (headSpec ws rm) cc maxL ret e s m args below meth c s₁ → c.maxLocals = maxL → (∀ x ∈ c.exceptionTable.toList, False) → Pc args s →
      W p l e (headSpec ws rm).room s m args below meth c s.heap [] 0 0 (vx_MQ below Qc XC args s mc ms free) (entryFrame m args maxL)) : vx_Met l y ws rm Pc Qc XC mc ms free := by
  refine MetFree.of_bodyS (code := cc) (maxLocals := maxL) (ret := ret) hy ?_ ?_
  · intro args s m h hn
    obtain ⟨meth, c, h1, h2, h3, h4, h5, h6, -, -⟩ := Cond.code_spec hn (atoms_spec (ws := ws) h _ (by rw [hw]; exact List.mem_cons_self))
    exact ⟨meth, c, h1, h2, h3, h4, h5, h6⟩
  · intro p e s m args below meth c s₁ B hml hP _
    have hh0 : s₁.heap = s.heap := by rw [B.state]; rfl
    have ht : ∀ x ∈ c.exceptionTable.toList, False := by
      obtain ⟨meth9, c9, h1, h2, -, -, -, -, h7, -⟩ := Cond.code_spec B.named (atoms_spec (ws := ws) B.pre _ (by rw [hw]; exact List.mem_cons_self))
      cases Option.some.inj (h1.symm.trans B.method)
      cases Option.some.inj (h2.symm.trans (Stand.of_body B).code)
      intro x hx
      rw [Array.isEmpty_iff.mp h7] at hx
      cases hx
    obtain ⟨t, a1, o, b1, b2, b3⟩ := body p e s m args below meth c s₁ B hml ht hP s₁ hh0 (Stand.of_body B)
    exact ⟨t, o, a1, b1, b2, b3⟩
/-- the table of a body with handlers -/
theorem vx_table {p : Program} {x y : MethodName} {S : Spec} {cc bytes : ByteArray} {maxL maxL' : Nat} {ret ret' : Option FieldType} {e : Env} {s s₁ : State} {m : MethodId} {args : Array Value} {below : List Frame} {meth : Method} {c : Code} {hh : List (Nat × Nat × Nat × Nat)}
    (B : BodyLoose p l y S cc maxL ret e s m args below meth c s₁) (h : (Cond.codeWith y bytes maxL' ret' hh).before args s = true) : c.exceptionTable.toList = tableOf hh := by
  obtain ⟨m9, meth9, c9, hn9, h1, h2, -, -, h6, -⟩ := Cond.codeWith_spec h
  cases Option.some.inj (hn9.symm.trans B.named)
  cases Option.some.inj (h1.symm.trans B.method)
  cases Option.some.inj (h2.symm.trans (Stand.of_body B).code)
  rw [← h6, table_eq]
end Bodies
end VXA
/-! ===== END ===== -/
/-! ===== BEGIN a static call of a method with an exception table ===== -/
section VXS
variable {p : Program} {l : Launch} {e : Env} {R : Room} {s : State} {m : MethodId} {args : Array Value} {below : List Frame} {meth : Method} {c : Code} {T : State} {H : Heap} {locs : List Loc} {cells slots : Nat}
abbrev vx_CSW (R : Room) (s : State) (args : Array Value) (own : String) (index : Nat) (y : MethodName) (bytes : ByteArray) (maxL : Nat) (ret : Option FieldType) (hh : List (Nat × Nat × Nat × Nat)) (ws : List Cond) (rm : Room) (mc ms n : Nat) : Prop :=
  (rm.cells = mc ∧ rm.slots = ms ∧ rm.frames + 1 ≤ R.frames ∧ 8 + (maxL + 11) + rm.locals ≤ R.locals ∧ (∀ w ∈ ws, ∀ (a' : Array Value) (U : State), s.WarmedH U.vm → w.before a' U = true) ∧ Cond.codeWith y bytes maxL ret hh ∈ ws) ∧
  (Cond.codeWith y bytes maxL ret hh).before args s = true ∧ (Cond.initialized y.cls).before args s = true ∧ (y.cls ≠ "java/lang/invoke/MethodHandle" ∧ y.cls ≠ "java/lang/invoke/VarHandle") ∧
  (∀ sig, parseMethodDescriptor y.desc = some sig → n = sig.parameters.length) ∧ (Cond.methodLink own index y).before args s = true ∧ (Cond.static y).before args s = true
theorem vx_cwSW {own : String} {index maxL mc ms : Nat} {y : MethodName} {bytes : ByteArray} {ret : Option FieldType} {hh : List (Nat × Nat × Nat × Nat)} {Ts ws ws' : List Cond} {rm : Room} (n : Nat) (ht : ∀ w ∈ Ts, w.before args s = true) (hT : GoodIn Ts (va_wsS own index y ws)) (hw : ws = Cond.codeWith y bytes maxL ret hh :: ws') (hrc : rm.cells = mc) (hrs : rm.slots = ms)
    (hd : y.cls ≠ "java/lang/invoke/MethodHandle" ∧ y.cls ≠ "java/lang/invoke/VarHandle" ∧ (parseMethodDescriptor y.desc).map (fun d => d.parameters.length) = some n) (hR : rm.frames + 1 ≤ R.frames ∧ 8 + (maxL + 11) + rm.locals ≤ R.locals) :
    vx_CSW R s args own index y bytes maxL ret hh ws rm mc ms n := by
  have ok : ∀ w ∈ va_wsS own index y ws, w.before args s = true := fun w h => ht w (hT w h).1
  have hG : GoodIn Ts ws := fun w h => hT w (by unfold va_wsS; exact List.mem_append_right _ h)
  have hc : Cond.codeWith y bytes maxL ret hh ∈ ws := by rw [hw]; exact List.mem_cons_self
  refine ⟨⟨hrc, hrs, hR.1, hR.2, pay_in ht hG, hc⟩, ht _ (hG _ hc).1, ok _ (by simp [va_wsS]), ⟨hd.1, hd.2.1⟩, fun sig h => ?_, ok _ (by simp [va_wsS]), ok _ (by simp [va_wsS])⟩
  have h2 := hd.2.2
  rw [h] at h2
  exact (Option.some.inj h2).symm
theorem vx_callSW (X : Stand p l e R s m args below meth c T locs cells slots) (hexec : p.tables.exec = Jvm.exec) {own : String} {index : Nat} {y : MethodName} {bytes : ByteArray} {maxL : Nat} {ret : Option FieldType} {hh : List (Nat × Nat × Nat × Nat)}
    (hown : s.vm.findClass own = some m.cls) (hlink : (Cond.methodLink own index y).before args s = true) (hstat : (Cond.static y).before args s = true) (hinit : (Cond.initialized y.cls).before args s = true)
    (hcode : (Cond.codeWith y bytes maxL ret hh).before args s = true) (hy : y.cls ≠ "java/lang/invoke/MethodHandle" ∧ y.cls ≠ "java/lang/invoke/VarHandle")
    {W9 : Nat} {Pre : Pt → Array Value → Prop} {Post : Pt → Array Value → Option Value → Pt → Prop} (hK : Back l R p e below s args y 3 W9 Pre Post)
    {g : JFrame} (hg : g.method = m) (hsize : g.locals.size = c.maxLocals) {argsL rest : List Value} (hlen : ∀ sig, parseMethodDescriptor y.desc = some sig → argsL.length = sig.parameters.length)
    (hstack : g.stack = argsL.reverse ++ rest) (hW : 2 * g.monitorRoom + (rest.map fun v => v.category).sum ≤ W9) (hdg : decode c.code g.pc = .ok (.invokestatic index, 3))
    (hpre : ∀ vm₁, s.WarmedH vm₁ → Pre ⟨T.setVm vm₁, locs, cells, slots⟩ argsL.toArray) :
    ∃ (v : Option Value) (vm₁ : Vm) (B : Pt), s.WarmedH vm₁ ∧ Stand p l e R s m args below meth c B.U B.locs B.cells B.slots ∧ Post ⟨T.setVm vm₁, locs, cells, slots⟩ argsL.toArray v B ∧
      ∀ target, Steps p.tables e below (B.U.setTop { g with pc := g.pc + 3, stack := v.toList ++ rest }) target → Steps p.tables e below (T.setTop g) target := by
  obtain ⟨mk, methM, cM, hnamed, hmethM, -, -, -, -, -, -, hsigM⟩ := Cond.codeWith_spec hcode
  have hstatic : methM.isStatic = true := Cond.static_spec hnamed hmethM hstat
  obtain ⟨kP, hkP, -⟩ := className_of_methodNamed hnamed
  have hinitP : kP.init = .initialized := Cond.initialized_spec (findClass_of_methodNamed hnamed) hkP hinit
  obtain ⟨vm₁, X₁, hstep₁⟩ := X.invokestatic hexec hown hlink hnamed hmethM hstatic hkP hinitP hy (g := g) hg (argsL := argsL) (rest := rest) (hlen _ hsigM) hstack hdg
  obtain ⟨v, B, X', hpost, hsteps⟩ := hK m meth c ⟨T.setVm vm₁, locs, cells, slots⟩ { g with stack := rest } (.invokestatic index) mk argsL.toArray X₁ hg hsize hdg hW (X₁.named hnamed) (hpre vm₁ X₁.warmed)
  exact ⟨v, vm₁, B, X₁.warmed, X', hpost, fun target h => hstep₁ _ fun acts => by rw [doInvoke_state]; exact hsteps.trans h⟩
theorem vx_runSW {y : MethodName} {bytes cc : ByteArray} {maxL nL mc ms n index : Nat} {ret : Option FieldType} {hh : List (Nat × Nat × Nat × Nat)} {ws : List Cond} {rm : Room} {Pc : Array Value → State → Prop} {Qc : Array Value → State → Outcome → State → Prop} {free : Addr → Prop} {Ts : List Cond} {own : String} {As rest : List Value} {g : JFrame}
    (S : CallFix p m c cc nL s args Ts own) (hM : Met l y ws rm Pc Qc mc ms free) (cw : vx_CSW R s args own index y bytes maxL ret hh ws rm mc ms n) (hp : PreS s H Pc As)
    (hg : g.method = m) (hn : As.length = n) (hsize : g.locals.size = nL) (hstack : g.stack = As.reverse ++ rest) (hW : 2 * g.monitorRoom + (rest.map fun v => v.category).sum ≤ 8) (hdg : decode cc g.pc = .ok (.invokestatic index, 3)) (hf : cells + mc ≤ R.cells ∧ slots + ms ≤ R.slots) :
    va_Run p l e R s m args below meth c H locs cells slots mc ms g rest (Qc As.toArray) (free) := by
  obtain ⟨⟨hrc, hrs, hfr, hlo, hws, hcw⟩, hcode, hini, hy, hlen, hl, hstt⟩ := cw
  have hK : Back l R p e below s args y 3 8 (PreOf R mc ms Pc) (PostOf Qc mc ms free) := va_backW (hh := hh) (bytes := bytes) (maxL := maxL) (ret := ret) hM hp.1 hrc hrs hfr hlo hws hcw (fun a' U hW => word_at hW (Or.inl (by first | rfl | simp [Cond.onTables, Cond.keeps, Cond.steady])) hini)
  obtain ⟨hx, hb, hml, ho, -⟩ := S
  intro T hT X
  obtain ⟨v, vm₁, ⟨U', l2, c2, s2⟩, hW₁, X', ⟨g', mk, t, L, e1, e2, hq, h1, hL, h2, h3⟩, st⟩ := vx_callSW X hx (hh := hh) (bytes := bytes) (maxL := maxL) (ret := ret) ho hl hstt hini hcode hy hK hg (hsize.trans hml.symm) (argsL := As) (rest := rest) (fun sig h => hn.trans (hlen sig h)) hstack hW (by rw [hb]; exact hdg)
    (fun vm₁ hW₁ => ⟨hf.1, hf.2, hp.2 (T.setVm vm₁) hT hW₁⟩)
  dsimp only [Pt.U, Pt.locs, Pt.cells, Pt.slots] at X' e1 e2 h1 h2 h3 st
  subst h1; subst h2; subst h3
  exact ⟨v, (T.setVm vm₁).calling g' mk As.toArray, t, U', L, hT, X', hL, e1, e2, hq, st⟩
/-- not caught here, past rows that name other classes: it goes on to the caller -/
theorem vx_outP {p : Program} {l : Launch} {e : Env} {R : Room} {s : State} {m : MethodId} {args : Array Value} {below : List Frame} {meth : Method} {c : Code} {H : Heap} {locs : List Loc} {cells slots : Nat} {free : Addr → Prop} {ls : Array Slot} {rest : List Value} {Qc : Array Value → State → Outcome → State → Prop} {XC : String → State → State → Prop}
    {pc : Nat} {own E : String} {ce : Cell} {q : Addr} {mc ms : Nat} (hown : s.vm.findClass own = some m.cls) (hlocks : meth.locks = false)
    (hpass : ∀ z ∈ c.exceptionTable.toList, covers z pc = false ∨ (z.catchType ≠ 0 ∧ ∃ nm : String, (Cond.classLink own z.catchType nm).before args s = true ∧ va_Nc E nm s)) (hcell : H[q]? = some ce) (hv : ce.vm = .none) (hcl : s.vm.findClass E = some ce.cls)
    (hx : ∀ t : State, t.heap = H → s.vm.Alike t.vm → XC E s t) (hf : ∀ z ∈ locs, free z.base) (hc : cells ≤ mc) (hs : slots ≤ ms) :
    vx_W p l e R s m args below meth c H locs cells slots (vx_MQ below Qc XC args s mc ms free) (F0 m pc ls rest) q := by
  intro T hT X
  have hpl : e.platform.magicAccessors = ({} : Platform).magicAccessors := by rw [X.admits.platform]
  obtain ⟨vm', hW', X', st⟩ := X.outThrough hlocks q (g := F0 m pc ls rest) rfl rfl rfl (cell := ce) (by rw [hT]; exact hcell) (by rw [hv]; rfl)
    (by obtain ⟨k9, h9, -⟩ := Vm.findClass_spec hcl; exact ⟨k9, h9⟩) (fun z hz => by
      rcases hpass z hz with h | ⟨hz0, nm, hl1, hn1⟩
      · exact Or.inl h
      · obtain ⟨c6, hc6, hcl6⟩ := Cond.classLink_spec hown hl1 e.platform hpl
        obtain ⟨a8, b8, h1, h2, h3⟩ := hn1
        cases Option.some.inj (h1.symm.trans hcl)
        cases Option.some.inj (h2.symm.trans hc6)
        exact Or.inr ⟨hz0, _, hcl6, h3⟩)
  obtain ⟨g₀, hfr⟩ := X'.frames_eq
  have hcell9 : ((T.setVm vm').setFrames (.throwing q :: below)).heap[q]? = some ce := by
    show T.heap[q]? = some ce
    rw [hT]; exact hcell
  have hend : Ended ((T.setVm vm').setFrames (.throwing q :: below)) below (.threw q) := State.frames_setFrames _ (State.cur_lt_of_frames hfr)
  refine ⟨(T.setVm vm').setFrames (.throwing q :: below), ?_, .threw q, X'.here.running, hend, Or.inr ⟨q, rfl, E, ce, locs, hx _ hT (X'.ends _).1.alike, hcell9, hv, hcl, (X'.ends _).1, (X'.ends _).2.mono hc hs, hf⟩⟩
  rw [X.pushThrowing_eq]
  exact st
/-- a thing of a world lies in the heap -/
theorem vx_lt {D : va_G} {cl : List vw_C} {ws : va_W} {H1 : Heap} (h : va_P D cl ws H1) {k : Nat} {q : Nat × va_E} (hk : ws[k]? = some q) : q.1 < H1.size := (h k q hk).lt
end VXS
/-! ===== END ===== -/
/-! ===== BEGIN methods with a table of their own: called by a name, returning or throwing ===== -/
section VXH
/-! vx_backW, vx_callVX, vx_callSX, vx_callVW, vx_runVW, vx_runVX, vx_runSX, vx_ofWH follow the same proofs as their sisters above (Free/Laws.lean, Shelf42/LK1.lean); vx_outP calls Shelf42/NT130.lean (outThrough). -/
section
variable {l : Launch} {R : Room} {p : Program} {e : Env} {below : List Frame} {s : State} {sargs : Array Value} {y : MethodName} {len W9 : Nat}
theorem vx_backW {ws : List Cond} {rm : Room} {Pc : Array Value → State → Prop} {Qc : Array Value → State → Outcome → State → Prop} {XC : String → State → State → Prop} {mc ms : Nat} {free : Addr → Prop} {bytes : ByteArray} {maxL : Nat} {ret : Option FieldType} {hh : List (Nat × Nat × Nat × Nat)}
    (hM : vx_Met l y ws rm Pc Qc XC mc ms free) (hblind : FrameBlind Pc) (hrc : rm.cells = mc) (hrs : rm.slots = ms)
    (hframes : rm.frames + 1 ≤ R.frames) (hlocals : W9 + (maxL + 11) + rm.locals ≤ R.locals)
    (hws : ∀ w ∈ ws, ∀ a' U, s.WarmedH U.vm → w.before a' U = true) (hcode : Cond.codeWith y bytes maxL ret hh ∈ ws) (hinit : ∀ a' U, s.WarmedH U.vm → (Cond.initialized y.cls).before a' U = true) :
    vx_Back l R p e below s sargs y len W9 (PreOf R mc ms Pc) (PostOf Qc mc ms free) (vx_Post XC mc ms free) := by
  intro m meth c A g ig mk a X hg hsize hdg hW hn hp
  have h1 : (headSpec ws rm).pre.before a A.U = true := atoms_intro fun w hw => hws w hw _ _ X.warmed
  have h2 : (Cond.codeWith y bytes maxL ret hh).before a A.U = true := hws _ hcode _ _ X.warmed
  have h3 : (Cond.initialized y.cls).before a A.U = true := hinit _ _ X.warmed
  have h4 : A.cells + (headSpec ws rm).room.cells ≤ R.cells := by rw [show (headSpec ws rm).room.cells = mc from hrc]; exact hp.1
  have h5 : A.slots + (headSpec ws rm).room.slots ≤ R.slots := by rw [show (headSpec ws rm).room.slots = ms from hrs]; exact hp.2.1
  have hPc : Pc a (A.U.calling g mk a) := hblind _ _ _ _ hp.2.2
  obtain ⟨U, Ls, c0, s0⟩ := A
  dsimp only [Pt.U, Pt.locs, Pt.cells, Pt.slots] at h1 h2 h3 h4 h5 X hn hPc ⊢
  obtain ⟨m9, methY, cY, hn9, hmY, hcY, -, hlY, -⟩ := Cond.codeWith_spec h2
  cases Option.some.inj (hn9.symm.trans hn)
  obtain ⟨kY, hkY, -⟩ := className_of_methodNamed hn
  have hinitY : kY.init = .initialized := Cond.initialized_spec (findClass_of_methodNamed hn) hkY h3
  have h : At U g.method c below := by rw [hg]; exact X.here
  have hlocals9 : W9 + (maxL + 11) + (headSpec ws rm).room.locals ≤ R.locals := hlocals
  have happ : (headSpec ws rm).appliesLoose y e.platform (U.calling g mk a) = true :=
    Spec.appliesLoose_calling (g := g) h hdg hn hkY hinitY
      (X.room_calling (g := g) (R' := (headSpec ws rm).room) hsize hmY hcY hframes (by rw [hlY]; omega) h4 h5) h1
  obtain ⟨mid, hmid⟩ := h.above
  have hfr : (U.setTop g).frames = (.java g :: mid) ++ below := by rw [State.frames_setTop' g h.top, hmid]; rfl
  obtain ⟨o, s₂, hsteps, -, hend, hq⟩ := Steps.callFree hM p X.admits X.cas X.clock (acts := []) hfr happ hPc trivial
  have hq' : vx_Q Qc XC mc ms free a (U.calling g mk a) o s₂ := hq
  rw [State.frames_setTop' g h.top] at hend
  obtain ⟨g₀, hg0⟩ := Option.isSome_iff_exists.mp h.top
  obtain ⟨r, hr⟩ := State.topJava?_eq_some.mp hg0
  have hr' : (({ U with heap := s₂.heap, slotsUsed := s₂.slotsUsed } : State).setVm s₂.vm).frames = .java g₀ :: r := hr
  rcases hq' with ⟨hqc, L, hfe, hL⟩ | ⟨q, rfl, E, ce, L, hx, hce, hcv, hcl, hW₂, hsm, hL⟩
  · obtain ⟨⟨v, rfl⟩, hW₂, e2, q2, q3, q4, q5, q6⟩ := id hfe
    have e3 : s₂ = ({ (U.calling g mk a).setFrames s₂.frames with heap := s₂.heap, slotsUsed := s₂.slotsUsed } : State).setVm s₂.vm := by
      have : s₂ = ({ s₂ with vm := (U.calling g mk a).vm } : State).setVm s₂.vm := rfl
      rw [e2] at this
      exact this
    obtain ⟨c₂, i₂, len₂, hc₂, hd₂, hf₂⟩ := hend
    have hW' : U.WarmedH s₂.vm := hW₂
    have hcc : c₂ = c := by
      have h1 : s₂.code? g.method = U.code? g.method := by
        rw [State.code?_eq, State.code?_eq, hW'.alike.method?]
      exact Option.some.inj (hc₂.symm.trans (h1.trans h.code))
    subst hcc
    have hlen : len₂ = len := by rw [hdg] at hd₂; cases hd₂; rfl
    subst hlen
    have hs₂ : s₂ = (({ U with heap := s₂.heap, slotsUsed := s₂.slotsUsed } : State).setVm s₂.vm).setTop { g with pc := g.pc + len₂, stack := v.toList ++ g.stack } := by
      refine e3.trans ?_
      rw [hf₂, State.calling_eq h.top, State.setFrames_setFrames, State.setTop_of_frames _ hr', hr]
      rfl
    have hsame : U.sameButNew ({ U with heap := s₂.heap, slotsUsed := s₂.slotsUsed } : State) L mc ms := by
      refine ⟨?_, q2, q3, q4, q5, q6⟩
      obtain ⟨t, ht, -⟩ := State.frames_cons hr
      show ({ U with heap := s₂.heap, slotsUsed := s₂.slotsUsed } : State) = { U.setFrames U.frames with heap := s₂.heap, slotsUsed := s₂.slotsUsed }
      rw [State.setFrames_self ht]
    subst hg
    refine Or.inl ⟨v, ⟨(({ U with heap := s₂.heap, slotsUsed := s₂.slotsUsed } : State).setVm s₂.vm), Ls ++ L, c0 + mc, s0 + ms⟩,
      ⟨X.admits, X.cas, X.clock, X.frames, X.room, X.hears, X.method, X.code, (X.here.setHeapUsed s₂.heap s₂.slotsUsed).setVm hW'.alike, X.tail, State.WarmedH.trans X.warmed hW', X.limits, X.bytes, X.same.trans (hsame.setVm s.vm)⟩,
      ⟨g, mk, s₂, L, rfl, rfl, hqc, rfl, hL, rfl, rfl⟩, ?_⟩
    show Steps p.tables e below _ ((({ U with heap := s₂.heap, slotsUsed := s₂.slotsUsed } : State).setVm s₂.vm).setTop { g with pc := g.pc + len₂, stack := v.toList ++ g.stack })
    rw [← hs₂]
    exact hsteps
  · obtain ⟨e2, q2, q3, q4, q5, q6⟩ := id hsm
    have e3 : s₂ = ({ (U.calling g mk a).setFrames s₂.frames with heap := s₂.heap, slotsUsed := s₂.slotsUsed } : State).setVm s₂.vm := by
      have : s₂ = ({ s₂ with vm := (U.calling g mk a).vm } : State).setVm s₂.vm := rfl
      rw [e2] at this
      exact this
    have hf₂ : s₂.frames = .throwing q :: .java g :: U.frames.tail := hend
    have hW' : U.WarmedH s₂.vm := hW₂
    have hs₂ : s₂ = ((({ U with heap := s₂.heap, slotsUsed := s₂.slotsUsed } : State).setVm s₂.vm).setTop g).pushFrame (.throwing q) := by
      refine e3.trans ?_
      rw [hf₂, State.calling_eq h.top, State.setFrames_setFrames, State.pushFrame, State.frames_setTop _ hr', State.setTop_of_frames _ hr', State.setFrames_setFrames, hr]
      rfl
    have hsame : U.sameButNew ({ U with heap := s₂.heap, slotsUsed := s₂.slotsUsed } : State) L mc ms := by
      refine ⟨?_, q2, q3, q4, q5, q6⟩
      obtain ⟨t, ht, -⟩ := State.frames_cons hr
      show ({ U with heap := s₂.heap, slotsUsed := s₂.slotsUsed } : State) = { U.setFrames U.frames with heap := s₂.heap, slotsUsed := s₂.slotsUsed }
      rw [State.setFrames_self ht]
    subst hg
    refine Or.inr ⟨q, ⟨(({ U with heap := s₂.heap, slotsUsed := s₂.slotsUsed } : State).setVm s₂.vm), Ls ++ L, c0 + mc, s0 + ms⟩,
      ⟨X.admits, X.cas, X.clock, X.frames, X.room, X.hears, X.method, X.code, (X.here.setHeapUsed s₂.heap s₂.slotsUsed).setVm hW'.alike, X.tail, State.WarmedH.trans X.warmed hW', X.limits, X.bytes, X.same.trans (hsame.setVm s.vm)⟩,
      ⟨g, mk, s₂, L, E, ce, rfl, rfl, hx, hce, hcv, hcl, rfl, hL, rfl, rfl⟩, ?_⟩
    show Steps p.tables e below _ (((({ U with heap := s₂.heap, slotsUsed := s₂.slotsUsed } : State).setVm s₂.vm).setTop g).pushFrame (.throwing q))
    rw [← hs₂]
    exact hsteps
end
variable {p : Program} {l : Launch} {e : Env} {R : Room} {s : State} {m : MethodId} {args : Array Value} {below : List Frame} {meth : Method} {c : Code} {T : State} {H : Heap} {locs : List Loc} {cells slots : Nat}
theorem vx_callVX (X : Stand p l e R s m args below meth c T locs cells slots) (hexec : p.tables.exec = Jvm.exec) {own C : String} {index : Nat} {y : MethodName} {bytes : ByteArray} {maxL : Nat} {ret : Option FieldType} {hh : List (Nat × Nat × Nat × Nat)}
    (hown : s.vm.findClass own = some m.cls) (hlink : (Cond.methodLink own index y).before args s = true) (hinst : (Cond.instanceMethod y).before args s = true) (hsel : (Cond.selects C y y).before args s = true)
    (hcode : (Cond.codeWith y bytes maxL ret hh).before args s = true) (hy : y.cls ≠ "java/lang/invoke/MethodHandle" ∧ y.cls ≠ "java/lang/invoke/VarHandle")
    {W9 : Nat} {Pre : Pt → Array Value → Prop} {Post : Pt → Array Value → Option Value → Pt → Prop} {PostX : Pt → Array Value → Addr → Pt → Prop} (hK : vx_Back l R p e below s args y 3 W9 Pre Post PostX)
    {b : Addr} {cellB : Cell} (hcell : T.heap[b]? = some cellB) (hobj : cellB.vm.isStatics = false) (hcls : s.vm.findClass C = some cellB.cls)
    {g : JFrame} (hg : g.method = m) (hsize : g.locals.size = c.maxLocals) {argsL rest : List Value} (hlen : ∀ sig, parseMethodDescriptor y.desc = some sig → argsL.length = sig.parameters.length)
    (hstack : g.stack = argsL.reverse ++ .ref b :: rest) (hW : 2 * g.monitorRoom + (rest.map fun v => v.category).sum ≤ W9) (hdg : decode c.code g.pc = .ok (.invokevirtual index, 3))
    (hpre : ∀ vm₁, s.WarmedH vm₁ → Pre ⟨T.setVm vm₁, locs, cells, slots⟩ (Value.ref b :: argsL).toArray) :
    (∃ (v : Option Value) (vm₁ : Vm) (B : Pt), s.WarmedH vm₁ ∧ Stand p l e R s m args below meth c B.U B.locs B.cells B.slots ∧ Post ⟨T.setVm vm₁, locs, cells, slots⟩ (Value.ref b :: argsL).toArray v B ∧
      ∀ target, Steps p.tables e below (B.U.setTop { g with pc := g.pc + 3, stack := v.toList ++ rest }) target → Steps p.tables e below (T.setTop g) target) ∨
    (∃ (q : Addr) (vm₁ : Vm) (B : Pt), s.WarmedH vm₁ ∧ Stand p l e R s m args below meth c B.U B.locs B.cells B.slots ∧ PostX ⟨T.setVm vm₁, locs, cells, slots⟩ (Value.ref b :: argsL).toArray q B ∧
      Steps p.tables e below (T.setTop g) ((B.U.setTop { g with stack := rest }).pushFrame (.throwing q))) := by
  obtain ⟨mk, methM, hnamed, hmethM, hstM, habM⟩ := Cond.instanceMethod_spec hinst
  obtain ⟨m8, methM', cM, hn8, hmethM', -, -, -, -, -, -, hsigM⟩ := Cond.codeWith_spec hcode
  cases Option.some.inj (hn8.symm.trans hnamed)
  cases hmethM.symm.trans hmethM'
  obtain ⟨c2, r2, m2, q1, q2, q3, q4, kP, hkP, hkPi⟩ := Cond.selects_spec hsel
  cases hcls.symm.trans q1
  cases (State.methodFound?_of_named hnamed hy).symm.trans q2
  cases hnamed.symm.trans q3
  have hselP : selectMethod e.platform s.vm cellB.cls mk = .method mk := by rw [Launch.admits_selectMethod X.admits]; exact q4
  obtain ⟨vm₁, X₁, hstep₁⟩ := X.invokevirtual hexec hown hlink hnamed hmethM hstM hkP hkPi hy (a := b) (cell := cellB) hcell
    (fun z h => by rw [h] at hobj; cases hobj) hselP hmethM habM hkP hkPi (g := g) hg (argsL := argsL) (rest := rest) (hlen _ hsigM) hstack hdg
  rcases hK m meth c ⟨T.setVm vm₁, locs, cells, slots⟩ { g with stack := rest } (.invokevirtual index) mk (Value.ref b :: argsL).toArray X₁ hg hsize hdg hW (X₁.named hnamed) (hpre vm₁ X₁.warmed) with ⟨v, B, X', hpost, hsteps⟩ | ⟨q, B, X', hpost, hsteps⟩
  · exact Or.inl ⟨v, vm₁, B, X₁.warmed, X', hpost, fun target h => hstep₁ _ fun acts => by rw [doInvoke_state]; exact hsteps.trans h⟩
  · exact Or.inr ⟨q, vm₁, B, X₁.warmed, X', hpost, hstep₁ _ fun acts => by rw [doInvoke_state]; exact hsteps⟩
theorem vx_callSX (X : Stand p l e R s m args below meth c T locs cells slots) (hexec : p.tables.exec = Jvm.exec) {own : String} {index : Nat} {y : MethodName} {bytes : ByteArray} {maxL : Nat} {ret : Option FieldType} {hh : List (Nat × Nat × Nat × Nat)}
    (hown : s.vm.findClass own = some m.cls) (hlink : (Cond.methodLink own index y).before args s = true) (hstat : (Cond.static y).before args s = true) (hinit : (Cond.initialized y.cls).before args s = true)
    (hcode : (Cond.codeWith y bytes maxL ret hh).before args s = true) (hy : y.cls ≠ "java/lang/invoke/MethodHandle" ∧ y.cls ≠ "java/lang/invoke/VarHandle")
    {W9 : Nat} {Pre : Pt → Array Value → Prop} {Post : Pt → Array Value → Option Value → Pt → Prop} {PostX : Pt → Array Value → Addr → Pt → Prop} (hK : vx_Back l R p e below s args y 3 W9 Pre Post PostX)
    {g : JFrame} (hg : g.method = m) (hsize : g.locals.size = c.maxLocals) {argsL rest : List Value} (hlen : ∀ sig, parseMethodDescriptor y.desc = some sig → argsL.length = sig.parameters.length)
    (hstack : g.stack = argsL.reverse ++ rest) (hW : 2 * g.monitorRoom + (rest.map fun v => v.category).sum ≤ W9) (hdg : decode c.code g.pc = .ok (.invokestatic index, 3))
    (hpre : ∀ vm₁, s.WarmedH vm₁ → Pre ⟨T.setVm vm₁, locs, cells, slots⟩ argsL.toArray) :
    (∃ (v : Option Value) (vm₁ : Vm) (B : Pt), s.WarmedH vm₁ ∧ Stand p l e R s m args below meth c B.U B.locs B.cells B.slots ∧ Post ⟨T.setVm vm₁, locs, cells, slots⟩ argsL.toArray v B ∧
      ∀ target, Steps p.tables e below (B.U.setTop { g with pc := g.pc + 3, stack := v.toList ++ rest }) target → Steps p.tables e below (T.setTop g) target) ∨
    (∃ (q : Addr) (vm₁ : Vm) (B : Pt), s.WarmedH vm₁ ∧ Stand p l e R s m args below meth c B.U B.locs B.cells B.slots ∧ PostX ⟨T.setVm vm₁, locs, cells, slots⟩ argsL.toArray q B ∧
      Steps p.tables e below (T.setTop g) ((B.U.setTop { g with stack := rest }).pushFrame (.throwing q))) := by
  obtain ⟨mk, methM, cM, hnamed, hmethM, -, -, -, -, -, -, hsigM⟩ := Cond.codeWith_spec hcode
  have hstatic : methM.isStatic = true := Cond.static_spec hnamed hmethM hstat
  obtain ⟨kP, hkP, -⟩ := className_of_methodNamed hnamed
  have hinitP : kP.init = .initialized := Cond.initialized_spec (findClass_of_methodNamed hnamed) hkP hinit
  obtain ⟨vm₁, X₁, hstep₁⟩ := X.invokestatic hexec hown hlink hnamed hmethM hstatic hkP hinitP hy (g := g) hg (argsL := argsL) (rest := rest) (hlen _ hsigM) hstack hdg
  rcases hK m meth c ⟨T.setVm vm₁, locs, cells, slots⟩ { g with stack := rest } (.invokestatic index) mk argsL.toArray X₁ hg hsize hdg hW (X₁.named hnamed) (hpre vm₁ X₁.warmed) with ⟨v, B, X', hpost, hsteps⟩ | ⟨q, B, X', hpost, hsteps⟩
  · exact Or.inl ⟨v, vm₁, B, X₁.warmed, X', hpost, fun target h => hstep₁ _ fun acts => by rw [doInvoke_state]; exact hsteps.trans h⟩
  · exact Or.inr ⟨q, vm₁, B, X₁.warmed, X', hpost, hstep₁ _ fun acts => by rw [doInvoke_state]; exact hsteps⟩
theorem vx_callVW (X : Stand p l e R s m args below meth c T locs cells slots) (hexec : p.tables.exec = Jvm.exec) {own C : String} {index : Nat} {y : MethodName} {bytes : ByteArray} {maxL : Nat} {ret : Option FieldType} {hh : List (Nat × Nat × Nat × Nat)}
    (hown : s.vm.findClass own = some m.cls) (hlink : (Cond.methodLink own index y).before args s = true) (hinst : (Cond.instanceMethod y).before args s = true) (hsel : (Cond.selects C y y).before args s = true)
    (hcode : (Cond.codeWith y bytes maxL ret hh).before args s = true) (hy : y.cls ≠ "java/lang/invoke/MethodHandle" ∧ y.cls ≠ "java/lang/invoke/VarHandle")
    {W9 : Nat} {Pre : Pt → Array Value → Prop} {Post : Pt → Array Value → Option Value → Pt → Prop} (hK : Back l R p e below s args y 3 W9 Pre Post)
    {b : Addr} {cellB : Cell} (hcell : T.heap[b]? = some cellB) (hobj : cellB.vm.isStatics = false) (hcls : s.vm.findClass C = some cellB.cls)
    {g : JFrame} (hg : g.method = m) (hsize : g.locals.size = c.maxLocals) {argsL rest : List Value} (hlen : ∀ sig, parseMethodDescriptor y.desc = some sig → argsL.length = sig.parameters.length)
    (hstack : g.stack = argsL.reverse ++ .ref b :: rest) (hW : 2 * g.monitorRoom + (rest.map fun v => v.category).sum ≤ W9) (hdg : decode c.code g.pc = .ok (.invokevirtual index, 3))
    (hpre : ∀ vm₁, s.WarmedH vm₁ → Pre ⟨T.setVm vm₁, locs, cells, slots⟩ (Value.ref b :: argsL).toArray) :
    ∃ (v : Option Value) (vm₁ : Vm) (B : Pt), s.WarmedH vm₁ ∧ Stand p l e R s m args below meth c B.U B.locs B.cells B.slots ∧ Post ⟨T.setVm vm₁, locs, cells, slots⟩ (Value.ref b :: argsL).toArray v B ∧
      ∀ target, Steps p.tables e below (B.U.setTop { g with pc := g.pc + 3, stack := v.toList ++ rest }) target → Steps p.tables e below (T.setTop g) target := by
  obtain ⟨mk, methM, hnamed, hmethM, hstM, habM⟩ := Cond.instanceMethod_spec hinst
  obtain ⟨m8, methM', cM, hn8, hmethM', -, -, -, -, -, -, hsigM⟩ := Cond.codeWith_spec hcode
  cases Option.some.inj (hn8.symm.trans hnamed)
  cases hmethM.symm.trans hmethM'
  obtain ⟨c2, r2, m2, q1, q2, q3, q4, kP, hkP, hkPi⟩ := Cond.selects_spec hsel
  cases hcls.symm.trans q1
  cases (State.methodFound?_of_named hnamed hy).symm.trans q2
  cases hnamed.symm.trans q3
  have hselP : selectMethod e.platform s.vm cellB.cls mk = .method mk := by rw [Launch.admits_selectMethod X.admits]; exact q4
  obtain ⟨vm₁, X₁, hstep₁⟩ := X.invokevirtual hexec hown hlink hnamed hmethM hstM hkP hkPi hy (a := b) (cell := cellB) hcell
    (fun z h => by rw [h] at hobj; cases hobj) hselP hmethM habM hkP hkPi (g := g) hg (argsL := argsL) (rest := rest) (hlen _ hsigM) hstack hdg
  obtain ⟨v, B, X', hpost, hsteps⟩ := hK m meth c ⟨T.setVm vm₁, locs, cells, slots⟩ { g with stack := rest } (.invokevirtual index) mk (Value.ref b :: argsL).toArray X₁ hg hsize hdg hW (X₁.named hnamed) (hpre vm₁ X₁.warmed)
  exact ⟨v, vm₁, B, X₁.warmed, X', hpost, fun target h => hstep₁ _ fun acts => by rw [doInvoke_state]; exact hsteps.trans h⟩
abbrev vx_CVW (R : Room) (s : State) (args : Array Value) (own C : String) (index : Nat) (y : MethodName) (bytes : ByteArray) (maxL : Nat) (ret : Option FieldType) (hh : List (Nat × Nat × Nat × Nat)) (ws : List Cond) (rm : Room) (mc ms n : Nat) : Prop :=
  (rm.cells = mc ∧ rm.slots = ms ∧ rm.frames + 1 ≤ R.frames ∧ 8 + (maxL + 11) + rm.locals ≤ R.locals ∧ (∀ w ∈ ws, ∀ (a' : Array Value) (U : State), s.WarmedH U.vm → w.before a' U = true) ∧ Cond.codeWith y bytes maxL ret hh ∈ ws) ∧
  (Cond.codeWith y bytes maxL ret hh).before args s = true ∧ (Cond.initialized y.cls).before args s = true ∧ (y.cls ≠ "java/lang/invoke/MethodHandle" ∧ y.cls ≠ "java/lang/invoke/VarHandle") ∧
  (∀ sig, parseMethodDescriptor y.desc = some sig → n = sig.parameters.length) ∧ (Cond.methodLink own index y).before args s = true ∧ (Cond.instanceMethod y).before args s = true ∧ (Cond.selects C y y).before args s = true
theorem vx_cwVW {own C : String} {index maxL mc ms : Nat} {y : MethodName} {bytes : ByteArray} {ret : Option FieldType} {hh : List (Nat × Nat × Nat × Nat)} {Ts ws ws' : List Cond} {rm : Room} (n : Nat) (ht : ∀ w ∈ Ts, w.before args s = true) (hT : GoodIn Ts (wsV own index C y ws)) (hw : ws = Cond.codeWith y bytes maxL ret hh :: ws') (hrc : rm.cells = mc) (hrs : rm.slots = ms)
    (hd : y.cls = C ∧ y.cls ≠ "java/lang/invoke/MethodHandle" ∧ y.cls ≠ "java/lang/invoke/VarHandle" ∧ (parseMethodDescriptor y.desc).map (fun d => d.parameters.length) = some n) (hR : rm.frames + 1 ≤ R.frames ∧ 8 + (maxL + 11) + rm.locals ≤ R.locals) :
    vx_CVW R s args own C index y bytes maxL ret hh ws rm mc ms n := by
  obtain ⟨hC, hd⟩ := hd
  subst hC
  have ok : ∀ w ∈ wsV own index y.cls y ws, w.before args s = true := fun w h => ht w (hT w h).1
  have hG : GoodIn Ts ws := fun w h => hT w (by unfold wsV; exact List.mem_append_right _ h)
  have hc : Cond.codeWith y bytes maxL ret hh ∈ ws := by rw [hw]; exact List.mem_cons_self
  refine ⟨⟨hrc, hrs, hR.1, hR.2, pay_in ht hG, hc⟩, ht _ (hG _ hc).1, ok _ (by simp [wsV]), ⟨hd.1, hd.2.1⟩, fun sig h => ?_, ok _ (by simp [wsV]), ok _ (by simp [wsV]), ok _ (by simp [wsV])⟩
  have h2 := hd.2.2
  rw [h] at h2
  exact (Option.some.inj h2).symm
theorem vx_runVW {y : MethodName} {bytes cc : ByteArray} {maxL nL mc ms n index : Nat} {ret : Option FieldType} {hh : List (Nat × Nat × Nat × Nat)} {ws : List Cond} {rm : Room} {Pc : Array Value → State → Prop} {Qc : Array Value → State → Outcome → State → Prop} {free : Addr → Prop} {Ts : List Cond} {own C : String} {b : Addr} {As rest : List Value} {g : JFrame}
    (S : CallFix p m c cc nL s args Ts own) (hM : Met l y ws rm Pc Qc mc ms free) (cw : vx_CVW R s args own C index y bytes maxL ret hh ws rm mc ms n) (hp : PreV s H C b Pc As)
    (hg : g.method = m) (hn : As.length = n) (hsize : g.locals.size = nL) (hstack : g.stack = As.reverse ++ .ref b :: rest) (hW : 2 * g.monitorRoom + (rest.map fun v => v.category).sum ≤ 8) (hdg : decode cc g.pc = .ok (.invokevirtual index, 3)) (hf : cells + mc ≤ R.cells ∧ slots + ms ≤ R.slots) :
    va_Run p l e R s m args below meth c H locs cells slots mc ms g rest (Qc (Value.ref b :: As).toArray) free := by
  obtain ⟨⟨hrc, hrs, hfr, hlo, hws, hcw⟩, hcode, hini, hy, hlen, hl, hin, hse⟩ := cw
  have hK : Back l R p e below s args y 3 8 (PreOf R mc ms Pc) (PostOf Qc mc ms free) := va_backW (hh := hh) (bytes := bytes) (maxL := maxL) (ret := ret) hM hp.1 hrc hrs hfr hlo hws hcw (fun a' U hW => word_at hW (Or.inl (by first | rfl | simp [Cond.onTables, Cond.keeps, Cond.steady])) hini)
  obtain ⟨hx, hb, hml, ho, -⟩ := S
  obtain ⟨-, ⟨cellB, hcB, hoB, hclB⟩, hPc⟩ := hp
  intro T hT X
  obtain ⟨v, vm₁, ⟨U', l2, c2, s2⟩, hW₁, X', ⟨g', mk, t, L, e1, e2, hq, h1, hL, h2, h3⟩, st⟩ := vx_callVW X hx (C := C) (hh := hh) (bytes := bytes) (maxL := maxL) (ret := ret) ho hl hin hse hcode hy hK (by rw [hT]; exact hcB) hoB hclB hg (hsize.trans hml.symm) (argsL := As) (rest := rest) (fun sig h => hn.trans (hlen sig h)) hstack hW (by rw [hb]; exact hdg)
    (fun vm₁ hW₁ => ⟨hf.1, hf.2, hPc (T.setVm vm₁) hT hW₁⟩)
  dsimp only [Pt.U, Pt.locs, Pt.cells, Pt.slots] at X' e1 e2 h1 h2 h3 st
  subst h1; subst h2; subst h3
  exact ⟨v, (T.setVm vm₁).calling g' mk (Value.ref b :: As).toArray, t, U', L, hT, X', hL, e1, e2, hq, st⟩
section
variable {y : MethodName} {bytes cc : ByteArray} {maxL nL mc ms n index : Nat} {ret : Option FieldType} {ws : List Cond} {rm : Room} {Pc : Array Value → State → Prop} {Qc : Array Value → State → Outcome → State → Prop} {XC : String → State → State → Prop} {free : Addr → Prop} {Ts : List Cond} {own C : String} {b : Addr} {As rest : List Value} {g : JFrame}
theorem vx_runVX {hh : List (Nat × Nat × Nat × Nat)} (S : CallFix p m c cc nL s args Ts own) (hM : vx_Met l y ws rm Pc Qc XC mc ms free) (cw : vx_CVW R s args own C index y bytes maxL ret hh ws rm mc ms n) (hp : PreV s H C b Pc As)
    (hg : g.method = m) (hn : As.length = n) (hsize : g.locals.size = nL) (hstack : g.stack = As.reverse ++ .ref b :: rest) (hW : 2 * g.monitorRoom + (rest.map fun v => v.category).sum ≤ 8) (hdg : decode cc g.pc = .ok (.invokevirtual index, 3)) (hf : cells + mc ≤ R.cells ∧ slots + ms ≤ R.slots) :
    vx_Run p l e R s m args below meth c H locs cells slots mc ms g rest (Qc (Value.ref b :: As).toArray) XC free := by
  obtain ⟨⟨hrc, hrs, hfr, hlo, hws, hcw⟩, hcode, hini, hy, hlen, hl, hin, hse⟩ := cw
  have hK : vx_Back l R p e below s args y 3 8 (PreOf R mc ms Pc) (PostOf Qc mc ms free) (vx_Post XC mc ms free) := vx_backW (hh := hh) (bytes := bytes) (maxL := maxL) (ret := ret) hM hp.1 hrc hrs hfr hlo hws hcw (fun a' U hW => word_at hW (Or.inl (by first | rfl | simp [Cond.onTables, Cond.keeps, Cond.steady])) hini)
  obtain ⟨hx, hb, hml, ho, -⟩ := S
  obtain ⟨-, ⟨cellB, hcB, hoB, hclB⟩, hPc⟩ := hp
  intro T hT X
  rcases vx_callVX X hx (C := C) (hh := hh) (bytes := bytes) (maxL := maxL) (ret := ret) ho hl hin hse hcode hy hK (by rw [hT]; exact hcB) hoB hclB hg (hsize.trans hml.symm) (argsL := As) (rest := rest) (fun sig h => hn.trans (hlen sig h)) hstack hW (by rw [hb]; exact hdg)
    (fun vm₁ hW₁ => ⟨hf.1, hf.2, hPc (T.setVm vm₁) hT hW₁⟩) with ⟨v, vm₁, ⟨U', l2, c2, s2⟩, hW₁, X', ⟨g', mk, t, L, e1, e2, hq, h1, hL, h2, h3⟩, st⟩ | ⟨q, vm₁, ⟨U', l2, c2, s2⟩, hW₁, X', ⟨g', mk, t, L, E, ce, e1, e2, hq, hce, hcv, hcl, h1, hL, h2, h3⟩, st⟩
  · dsimp only [Pt.U, Pt.locs, Pt.cells, Pt.slots] at X' e1 e2 h1 h2 h3 st
    subst h1; subst h2; subst h3
    exact Or.inl ⟨v, (T.setVm vm₁).calling g' mk (Value.ref b :: As).toArray, t, U', L, hT, X', hL, e1, e2, hq, st⟩
  · dsimp only [Pt.U, Pt.locs, Pt.cells, Pt.slots] at X' e1 e2 h1 h2 h3 st hcl
    subst h1; subst h2; subst h3
    exact Or.inr ⟨q, (T.setVm vm₁).calling g' mk (Value.ref b :: As).toArray, t, U', L, E, ce, hT, X', hL, e1, e2, hq, hce, hcv, vx_cls hW₁ hcl, st⟩
theorem vx_runSX {hh : List (Nat × Nat × Nat × Nat)} (S : CallFix p m c cc nL s args Ts own) (hM : vx_Met l y ws rm Pc Qc XC mc ms free) (cw : vx_CSW R s args own index y bytes maxL ret hh ws rm mc ms n) (hp : PreS s H Pc As)
    (hg : g.method = m) (hn : As.length = n) (hsize : g.locals.size = nL) (hstack : g.stack = As.reverse ++ rest) (hW : 2 * g.monitorRoom + (rest.map fun v => v.category).sum ≤ 8) (hdg : decode cc g.pc = .ok (.invokestatic index, 3)) (hf : cells + mc ≤ R.cells ∧ slots + ms ≤ R.slots) :
    vx_Run p l e R s m args below meth c H locs cells slots mc ms g rest (Qc As.toArray) XC free := by
  obtain ⟨⟨hrc, hrs, hfr, hlo, hws, hcw⟩, hcode, hini, hy, hlen, hl, hstt⟩ := cw
  have hK : vx_Back l R p e below s args y 3 8 (PreOf R mc ms Pc) (PostOf Qc mc ms free) (vx_Post XC mc ms free) := vx_backW (hh := hh) (bytes := bytes) (maxL := maxL) (ret := ret) hM hp.1 hrc hrs hfr hlo hws hcw (fun a' U hW => word_at hW (Or.inl (by first | rfl | simp [Cond.onTables, Cond.keeps, Cond.steady])) hini)
  obtain ⟨hx, hb, hml, ho, -⟩ := S
  intro T hT X
  rcases vx_callSX X hx (hh := hh) (bytes := bytes) (maxL := maxL) (ret := ret) ho hl hstt hini hcode hy hK hg (hsize.trans hml.symm) (argsL := As) (rest := rest) (fun sig h => hn.trans (hlen sig h)) hstack hW (by rw [hb]; exact hdg)
    (fun vm₁ hW₁ => ⟨hf.1, hf.2, hp.2 (T.setVm vm₁) hT hW₁⟩) with ⟨v, vm₁, ⟨U', l2, c2, s2⟩, hW₁, X', ⟨g', mk, t, L, e1, e2, hq, h1, hL, h2, h3⟩, st⟩ | ⟨q, vm₁, ⟨U', l2, c2, s2⟩, hW₁, X', ⟨g', mk, t, L, E, ce, e1, e2, hq, hce, hcv, hcl, h1, hL, h2, h3⟩, st⟩
  · dsimp only [Pt.U, Pt.locs, Pt.cells, Pt.slots] at X' e1 e2 h1 h2 h3 st
    subst h1; subst h2; subst h3
    exact Or.inl ⟨v, (T.setVm vm₁).calling g' mk As.toArray, t, U', L, hT, X', hL, e1, e2, hq, st⟩
  · dsimp only [Pt.U, Pt.locs, Pt.cells, Pt.slots] at X' e1 e2 h1 h2 h3 st hcl
    subst h1; subst h2; subst h3
    exact Or.inr ⟨q, (T.setVm vm₁).calling g' mk As.toArray, t, U', L, E, ce, hT, X', hL, e1, e2, hq, hce, hcv, vx_cls hW₁ hcl, st⟩
end
end VXH
theorem vx_ofWH {l : Launch} {y : MethodName} {ws ws' : List Cond} {rm : Room} {Pc : Array Value → State → Prop} {Qc : Array Value → State → Outcome → State → Prop} {XC : String → State → State → Prop} {mc ms : Nat} {free : Addr → Prop} {cc : ByteArray} {maxL : Nat} {ret : Option FieldType} {hh : List (Nat × Nat × Nat × Nat)}
    (hy : plainName y.cls = true) (hw : ws = Cond.codeWith y cc maxL ret hh :: ws')
    (body : ∀ p e s m args below meth c s₁, BodyLoose p l y (headSpec ws rm) cc maxL ret e s m args below meth c s₁ → c.maxLocals = maxL → Pc args s →
      W p l e (headSpec ws rm).room s m args below meth c s.heap [] 0 0 (vx_MQ below Qc XC args s mc ms free) (entryFrame m args maxL)) : vx_Met l y ws rm Pc Qc XC mc ms free := by
  refine MetFree.of_bodyS (code := cc) (maxLocals := maxL) (ret := ret) hy ?_ ?_
  · intro args s m h hn
    obtain ⟨m9, meth, c, hn9, h1, h2, h3, h4, -, h5, h6, -⟩ := Cond.codeWith_spec (atoms_spec (ws := ws) h _ (by rw [hw]; exact List.mem_cons_self))
    cases hn.symm.trans hn9
    exact ⟨meth, c, h1, h2, h3, h4, h5, h6⟩
  · intro p e s m args below meth c s₁ B hml hP _
    have hh0 : s₁.heap = s.heap := by rw [B.state]; rfl
    obtain ⟨t, a1, o, b1, b2, b3⟩ := body p e s m args below meth c s₁ B hml hP s₁ hh0 (Stand.of_body B)
    exact ⟨t, o, a1, b1, b2, b3⟩
/-! ===== END ===== -/

/-! ===== BEGIN a constructor that throws (launches without stack traces) ===== -/
section VXIA
variable {p : Program} {l : Launch} {e : Env} {R : Room} {s : State} {m : MethodId} {args : Array Value} {below : List Frame} {meth : Method} {c : Code} {T : State} {locs : List Loc} {cells slots : Nat}
theorem vx_callI (X : Stand p l e R s m args below meth c T locs cells slots) (hexec : p.tables.exec = Jvm.exec) {own : String} {index : Nat} {y : MethodName} {bytes : ByteArray} {maxL : Nat}
    (hown : s.vm.findClass own = some m.cls) (hy1 : y.name = "<init>") (hlink : (Cond.methodLink own index y).before args s = true) (hinst : (Cond.instanceMethod y).before args s = true)
    (hcode : (Cond.code y bytes maxL none).before args s = true) (hy : y.cls ≠ "java/lang/invoke/MethodHandle" ∧ y.cls ≠ "java/lang/invoke/VarHandle")
    {W9 : Nat} {Pre : Pt → Array Value → Prop} {Post : Pt → Array Value → Option Value → Pt → Prop} {PostX : Pt → Array Value → Addr → Pt → Prop} (hK : vx_Back l R p e below s args y 3 W9 Pre Post PostX)
    {g : JFrame} (hg : g.method = m) (hsize : g.locals.size = c.maxLocals) {a : Addr} {argsL rest : List Value} (hlen : ∀ sig, parseMethodDescriptor y.desc = some sig → argsL.length = sig.parameters.length)
    (hstack : g.stack = argsL.reverse ++ .ref a :: rest) (hW : 2 * g.monitorRoom + (rest.map fun v => v.category).sum ≤ W9) (hdg : decode c.code g.pc = .ok (.invokespecial index, 3))
    (hpre : ∀ vm₁, s.WarmedH vm₁ → Pre ⟨T.setVm vm₁, locs, cells, slots⟩ (Value.ref a :: argsL).toArray) :
    (∃ (v : Option Value) (vm₁ : Vm) (B : Pt), s.WarmedH vm₁ ∧ Stand p l e R s m args below meth c B.U B.locs B.cells B.slots ∧ Post ⟨T.setVm vm₁, locs, cells, slots⟩ (Value.ref a :: argsL).toArray v B ∧
      ∀ target, Steps p.tables e below (B.U.setTop { g with pc := g.pc + 3, stack := v.toList ++ rest }) target → Steps p.tables e below (T.setTop g) target) ∨
    (∃ (q : Addr) (vm₁ : Vm) (B : Pt), s.WarmedH vm₁ ∧ Stand p l e R s m args below meth c B.U B.locs B.cells B.slots ∧ PostX ⟨T.setVm vm₁, locs, cells, slots⟩ (Value.ref a :: argsL).toArray q B ∧
      Steps p.tables e below (T.setTop g) ((B.U.setTop { g with stack := rest }).pushFrame (.throwing q))) := by
  subst hg
  have hpl : e.platform.magicAccessors = ({} : Platform).magicAccessors := by rw [X.admits.platform]
  obtain ⟨mk, methM, cM, kP, vm₁, hnamed, hmethM, hcodeM, -, hlocalsM, -, hkP, -, hW₁, hstep₁⟩ := Steps.initColdArgs (e := e) X.here hexec X.warmed hpl hown hy1 hy hlink hinst hcode (f := g) rfl hlen hstack hdg
  have X₁ := X.noted hW₁
  rcases hK g.method meth c ⟨T.setVm vm₁, locs, cells, slots⟩ { g with stack := rest } (.invokespecial index) mk (Value.ref a :: argsL).toArray X₁ rfl hsize hdg hW (X₁.named hnamed) (hpre vm₁ X₁.warmed) with ⟨v, B, X', hpost, hsteps⟩ | ⟨q, B, X', hpost, hsteps⟩
  · exact Or.inl ⟨v, vm₁, B, X₁.warmed, X', hpost, fun target h => hstep₁ _ fun acts => by rw [doInvoke_state]; exact hsteps.trans h⟩
  · exact Or.inr ⟨q, vm₁, B, X₁.warmed, X', hpost, hstep₁ _ fun acts => by rw [doInvoke_state]; exact hsteps⟩
end VXIA
section VXIB
variable {p : Program} {l : Launch} {e : Env} {R : Room} {s : State} {m : MethodId} {args : Array Value} {below : List Frame} {meth : Method} {c : Code} {H : Heap} {locs : List Loc} {cells slots : Nat}
variable {y : MethodName} {bytes cc : ByteArray} {maxL nL mc ms n index : Nat} {ret : Option FieldType} {ws : List Cond} {rm : Room} {Pc : Array Value → State → Prop} {Qc : Array Value → State → Outcome → State → Prop} {XC : String → State → State → Prop} {free : Addr → Prop} {Ts : List Cond} {own C : String} {b : Addr} {As rest : List Value} {g : JFrame}
theorem vx_runI (S : CallFix p m c cc nL s args Ts own) (hM : vx_Met l y ws rm Pc Qc XC mc ms free) (cw : CallB R s args own index y bytes maxL none ws rm mc ms n ∧ y.name = "<init>" ∧ (Cond.instanceMethod y).before args s = true) (hp : PreS s H Pc (.ref b :: As))
    (hg : g.method = m) (hn : As.length = n) (hsize : g.locals.size = nL) (hstack : g.stack = As.reverse ++ .ref b :: rest) (hW : 2 * g.monitorRoom + (rest.map fun v => v.category).sum ≤ 8) (hdg : decode cc g.pc = .ok (.invokespecial index, 3)) (hf : cells + mc ≤ R.cells ∧ slots + ms ≤ R.slots) :
    vx_Run p l e R s m args below meth c H locs cells slots mc ms g rest (Qc (Value.ref b :: As).toArray) XC free := by
  have hK : vx_Back l R p e below s args y 3 8 (PreOf R mc ms Pc) (PostOf Qc mc ms free) (vx_Post XC mc ms free) := vx_callBack cw.1 hM hp.1
  obtain ⟨⟨-, -, -, -, -, -, hcode, -, hy, hlen, hl⟩, hy1, hin⟩ := cw
  obtain ⟨hx, hb, hml, ho, -⟩ := S
  have hPc := hp.2
  intro T hT X
  rcases vx_callI X hx (bytes := bytes) (maxL := maxL) ho hy1 hl hin hcode hy hK hg (hsize.trans hml.symm) (a := b) (argsL := As) (rest := rest) (fun sig h => hn.trans (hlen sig h)) hstack hW (by rw [hb]; exact hdg)
    (fun vm₁ hW₁ => ⟨hf.1, hf.2, hPc (T.setVm vm₁) hT hW₁⟩) with ⟨v, vm₁, ⟨U', l2, c2, s2⟩, hW₁, X', ⟨g', mk, t, L, e1, e2, hq, h1, hL, h2, h3⟩, st⟩ | ⟨q, vm₁, ⟨U', l2, c2, s2⟩, hW₁, X', ⟨g', mk, t, L, E, ce, e1, e2, hq, hce, hcv, hcl, h1, hL, h2, h3⟩, st⟩
  · dsimp only [Pt.U, Pt.locs, Pt.cells, Pt.slots] at X' e1 e2 h1 h2 h3 st
    subst h1; subst h2; subst h3
    exact Or.inl ⟨v, (T.setVm vm₁).calling g' mk (Value.ref b :: As).toArray, t, U', L, hT, X', hL, e1, e2, hq, st⟩
  · dsimp only [Pt.U, Pt.locs, Pt.cells, Pt.slots] at X' e1 e2 h1 h2 h3 st hcl
    subst h1; subst h2; subst h3
    exact Or.inr ⟨q, (T.setVm vm₁).calling g' mk (Value.ref b :: As).toArray, t, U', L, E, ce, hT, X', hL, e1, e2, hq, hce, hcv, vx_cls hW₁ hcl, st⟩
end VXIB
/-! ===== END ===== -/
/-! ===== BEGIN a private constructor of a nest mate that throws ===== -/
section VXIC
variable {p : Program} {l : Launch} {e : Env} {R : Room} {s : State} {m : MethodId} {args : Array Value} {below : List Frame} {meth : Method} {c : Code} {T : State} {locs : List Loc} {cells slots : Nat}
theorem vx_callIN (X : Stand p l e R s m args below meth c T locs cells slots) (hexec : p.tables.exec = Jvm.exec) {own : String} {index : Nat} {host : String} {y : MethodName} {bytes : ByteArray} {maxL : Nat}
    (hown : s.vm.findClass own = some m.cls) (hy1 : y.name = "<init>") (hlink : (Cond.methodLinkNest own index y host).before args s = true) (hinst : (Cond.instanceMethod y).before args s = true)
    (hcode : (Cond.code y bytes maxL none).before args s = true) (hy : y.cls ≠ "java/lang/invoke/MethodHandle" ∧ y.cls ≠ "java/lang/invoke/VarHandle")
    {W9 : Nat} {Pre : Pt → Array Value → Prop} {Post : Pt → Array Value → Option Value → Pt → Prop} {PostX : Pt → Array Value → Addr → Pt → Prop} (hK : vx_Back l R p e below s args y 3 W9 Pre Post PostX)
    {g : JFrame} (hg : g.method = m) (hsize : g.locals.size = c.maxLocals) {a : Addr} {argsL rest : List Value} (hlen : ∀ sig, parseMethodDescriptor y.desc = some sig → argsL.length = sig.parameters.length)
    (hstack : g.stack = argsL.reverse ++ .ref a :: rest) (hW : 2 * g.monitorRoom + (rest.map fun v => v.category).sum ≤ W9) (hdg : decode c.code g.pc = .ok (.invokespecial index, 3))
    (hpre : ∀ vm₁, s.WarmedH vm₁ → Pre ⟨T.setVm vm₁, locs, cells, slots⟩ (Value.ref a :: argsL).toArray) :
    (∃ (v : Option Value) (vm₁ : Vm) (B : Pt), s.WarmedH vm₁ ∧ Stand p l e R s m args below meth c B.U B.locs B.cells B.slots ∧ Post ⟨T.setVm vm₁, locs, cells, slots⟩ (Value.ref a :: argsL).toArray v B ∧
      ∀ target, Steps p.tables e below (B.U.setTop { g with pc := g.pc + 3, stack := v.toList ++ rest }) target → Steps p.tables e below (T.setTop g) target) ∨
    (∃ (q : Addr) (vm₁ : Vm) (B : Pt), s.WarmedH vm₁ ∧ Stand p l e R s m args below meth c B.U B.locs B.cells B.slots ∧ PostX ⟨T.setVm vm₁, locs, cells, slots⟩ (Value.ref a :: argsL).toArray q B ∧
      Steps p.tables e below (T.setTop g) ((B.U.setTop { g with stack := rest }).pushFrame (.throwing q))) := by
  subst hg
  have hpl : e.platform.magicAccessors = ({} : Platform).magicAccessors := by rw [X.admits.platform]
  obtain ⟨mk, methM, cM, kP, vm₁, hnamed, hmethM, hcodeM, -, hlocalsM, -, hkP, -, hW₁, hstep₁⟩ := Steps.initColdArgsNest (e := e) X.here hexec X.warmed hpl hown hy1 hy hlink hinst hcode (f := g) rfl hlen hstack hdg
  have X₁ := X.noted hW₁
  rcases hK g.method meth c ⟨T.setVm vm₁, locs, cells, slots⟩ { g with stack := rest } (.invokespecial index) mk (Value.ref a :: argsL).toArray X₁ rfl hsize hdg hW (X₁.named hnamed) (hpre vm₁ X₁.warmed) with ⟨v, B, X', hpost, hsteps⟩ | ⟨q, B, X', hpost, hsteps⟩
  · exact Or.inl ⟨v, vm₁, B, X₁.warmed, X', hpost, fun target h => hstep₁ _ fun acts => by rw [doInvoke_state]; exact hsteps.trans h⟩
  · exact Or.inr ⟨q, vm₁, B, X₁.warmed, X', hpost, hstep₁ _ fun acts => by rw [doInvoke_state]; exact hsteps⟩
end VXIC
section VXID
variable {p : Program} {l : Launch} {e : Env} {R : Room} {s : State} {m : MethodId} {args : Array Value} {below : List Frame} {meth : Method} {c : Code} {H : Heap} {locs : List Loc} {cells slots : Nat}
theorem vx_runIN {y : MethodName} {bytes cc : ByteArray} {maxL nL mc ms n index : Nat} {ws : List Cond} {rm : Room} {Pc : Array Value → State → Prop} {Qc : Array Value → State → Outcome → State → Prop} {XC : String → State → State → Prop} {free : Addr → Prop} {Ts : List Cond} {own host : String} {b : Addr} {As rest : List Value} {g : JFrame}
    (S : CallFix p m c cc nL s args Ts own) (hM : vx_Met l y ws rm Pc Qc XC mc ms free) (cw : va_CN R s args own index y host bytes maxL none ws rm mc ms n ∧ y.name = "<init>" ∧ (Cond.instanceMethod y).before args s = true) (hp : PreS s H Pc (.ref b :: As))
    (hg : g.method = m) (hn : As.length = n) (hsize : g.locals.size = nL) (hstack : g.stack = As.reverse ++ .ref b :: rest) (hW : 2 * g.monitorRoom + (rest.map fun v => v.category).sum ≤ 8) (hdg : decode cc g.pc = .ok (.invokespecial index, 3)) (hf : cells + mc ≤ R.cells ∧ slots + ms ≤ R.slots) :
    vx_Run p l e R s m args below meth c H locs cells slots mc ms g rest (Qc (Value.ref b :: As).toArray) XC free := by
  obtain ⟨⟨⟨hrc, hrs, hfr, hlo, hws, hcw⟩, hcode, hini, hy, hlen, hl⟩, hx1, hx2⟩ := cw
  have hK : vx_Back l R p e below s args y 3 8 (PreOf R mc ms Pc) (PostOf Qc mc ms free) (vx_Post XC mc ms free) := vx_back (bytes := bytes) (maxL := maxL) (ret := none) hM hp.1 hrc hrs hfr hlo hws hcw (fun a' U hW => word_at hW (Or.inl (by first | rfl | simp [Cond.onTables, Cond.keeps, Cond.steady])) hini)
  obtain ⟨hx, hb, hml, ho, -⟩ := S
  have hPc := hp.2
  intro T hT X
  rcases vx_callIN X hx (bytes := bytes) (maxL := maxL) ho hx1 hl hx2 hcode hy hK hg (hsize.trans hml.symm) (a := b) (argsL := As) (rest := rest) (fun sig h => hn.trans (hlen sig h)) hstack hW (by rw [hb]; exact hdg)
    (fun vm₁ hW₁ => ⟨hf.1, hf.2, hPc (T.setVm vm₁) hT hW₁⟩) with ⟨v, vm₁, ⟨U', l2, c2, s2⟩, hW₁, X', ⟨g', mk, t, L, e1, e2, hq, h1, hL, h2, h3⟩, st⟩ | ⟨q, vm₁, ⟨U', l2, c2, s2⟩, hW₁, X', ⟨g', mk, t, L, E, ce, e1, e2, hq, hce, hcv, hcl, h1, hL, h2, h3⟩, st⟩
  · dsimp only [Pt.U, Pt.locs, Pt.cells, Pt.slots] at X' e1 e2 h1 h2 h3 st
    subst h1; subst h2; subst h3
    exact Or.inl ⟨v, (T.setVm vm₁).calling g' mk (Value.ref b :: As).toArray, t, U', L, hT, X', hL, e1, e2, hq, st⟩
  · dsimp only [Pt.U, Pt.locs, Pt.cells, Pt.slots] at X' e1 e2 h1 h2 h3 st hcl
    subst h1; subst h2; subst h3
    exact Or.inr ⟨q, (T.setVm vm₁).calling g' mk (Value.ref b :: As).toArray, t, U', L, E, ce, hT, X', hL, e1, e2, hq, hce, hcv, vx_cls hW₁ hcl, st⟩
end VXID
/-! ===== END ===== -/
/-! ===== BEGIN a private method of a nest mate that may throw (follows va_callVN, va_callSN, va_runVN, va_runSN) ===== -/
section
variable {p : Program} {l : Launch} {e : Env} {R : Room} {s : State} {m : MethodId} {args : Array Value} {below : List Frame} {meth : Method} {c : Code} {H : Heap} {locs : List Loc} {cells slots : Nat}
variable {T : State}
theorem vx_callVN (X : Stand p l e R s m args below meth c T locs cells slots) (hexec : p.tables.exec = Jvm.exec) {own C : String} {index : Nat} {host : String} {y : MethodName} {bytes : ByteArray} {maxL : Nat} {ret : Option FieldType}
    (hown : s.vm.findClass own = some m.cls) (hlink : (Cond.methodLinkNest own index y host).before args s = true) (hinst : (Cond.instanceMethod y).before args s = true) (hsel : (Cond.selects C y y).before args s = true)
    (hcode : (Cond.code y bytes maxL ret).before args s = true) (hy : y.cls ≠ "java/lang/invoke/MethodHandle" ∧ y.cls ≠ "java/lang/invoke/VarHandle")
    {W : Nat} {Pre : Pt → Array Value → Prop} {Post : Pt → Array Value → Option Value → Pt → Prop} {PostX : Pt → Array Value → Addr → Pt → Prop} (hK : vx_Back l R p e below s args y 3 W Pre Post PostX)
    {b : Addr} {cellB : Cell} (hcell : T.heap[b]? = some cellB) (hobj : cellB.vm.isStatics = false) (hcls : s.vm.findClass C = some cellB.cls)
    {g : JFrame} (hg : g.method = m) (hsize : g.locals.size = c.maxLocals) {argsL rest : List Value} (hlen : ∀ sig, parseMethodDescriptor y.desc = some sig → argsL.length = sig.parameters.length)
    (hstack : g.stack = argsL.reverse ++ .ref b :: rest) (hW : 2 * g.monitorRoom + (rest.map fun v => v.category).sum ≤ W) (hdg : decode c.code g.pc = .ok (.invokevirtual index, 3))
    (hpre : ∀ vm₁, s.WarmedH vm₁ → Pre ⟨T.setVm vm₁, locs, cells, slots⟩ (Value.ref b :: argsL).toArray) :
    (∃ (v : Option Value) (vm₁ : Vm) (B : Pt), s.WarmedH vm₁ ∧ Stand p l e R s m args below meth c B.U B.locs B.cells B.slots ∧ Post ⟨T.setVm vm₁, locs, cells, slots⟩ (Value.ref b :: argsL).toArray v B ∧
      ∀ target, Steps p.tables e below (B.U.setTop { g with pc := g.pc + 3, stack := v.toList ++ rest }) target → Steps p.tables e below (T.setTop g) target) ∨
    (∃ (q : Addr) (vm₁ : Vm) (B : Pt), s.WarmedH vm₁ ∧ Stand p l e R s m args below meth c B.U B.locs B.cells B.slots ∧ PostX ⟨T.setVm vm₁, locs, cells, slots⟩ (Value.ref b :: argsL).toArray q B ∧
      Steps p.tables e below (T.setTop g) ((B.U.setTop { g with stack := rest }).pushFrame (.throwing q))) := by
  obtain ⟨mk, methM, hnamed, hmethM, hstM, habM⟩ := Cond.instanceMethod_spec hinst
  obtain ⟨methM', cM, hmethM', -, -, -, -, -, -, hsigM⟩ := Cond.code_spec hnamed hcode
  cases hmethM.symm.trans hmethM'
  obtain ⟨c2, r2, m2, q1, q2, q3, q4, kP, hkP, hkPi⟩ := Cond.selects_spec hsel
  cases hcls.symm.trans q1
  cases (State.methodFound?_of_named hnamed hy).symm.trans q2
  cases hnamed.symm.trans q3
  have hselP : selectMethod e.platform s.vm cellB.cls mk = .method mk := by rw [Launch.admits_selectMethod X.admits]; exact q4
  obtain ⟨vm₁, X₁, hstep₁⟩ := X.invokevirtualNest hexec hown hlink hnamed hmethM hstM hkP hkPi hy (a := b) (cell := cellB) hcell
    (fun z h => by rw [h] at hobj; cases hobj) hselP hmethM habM hkP hkPi (g := g) hg (argsL := argsL) (rest := rest) (hlen _ hsigM) hstack hdg
  rcases hK m meth c ⟨T.setVm vm₁, locs, cells, slots⟩ { g with stack := rest } (.invokevirtual index) mk (Value.ref b :: argsL).toArray X₁ hg hsize hdg hW (X₁.named hnamed) (hpre vm₁ X₁.warmed) with ⟨v, B, X', hpost, hsteps⟩ | ⟨q, B, X', hpost, hsteps⟩
  · exact Or.inl ⟨v, vm₁, B, X₁.warmed, X', hpost, fun target h => hstep₁ _ fun acts => by rw [doInvoke_state]; exact hsteps.trans h⟩
  · exact Or.inr ⟨q, vm₁, B, X₁.warmed, X', hpost, hstep₁ _ fun acts => by rw [doInvoke_state]; exact hsteps⟩
theorem vx_callSN (X : Stand p l e R s m args below meth c T locs cells slots) (hexec : p.tables.exec = Jvm.exec) {own : String} {index : Nat} {host : String} {y : MethodName} {bytes : ByteArray} {maxL : Nat} {ret : Option FieldType}
    (hown : s.vm.findClass own = some m.cls) (hlink : (Cond.methodLinkNest own index y host).before args s = true) (hstat : (Cond.static y).before args s = true) (hinit : (Cond.initialized y.cls).before args s = true)
    (hcode : (Cond.code y bytes maxL ret).before args s = true) (hy : y.cls ≠ "java/lang/invoke/MethodHandle" ∧ y.cls ≠ "java/lang/invoke/VarHandle")
    {W : Nat} {Pre : Pt → Array Value → Prop} {Post : Pt → Array Value → Option Value → Pt → Prop} {PostX : Pt → Array Value → Addr → Pt → Prop} (hK : vx_Back l R p e below s args y 3 W Pre Post PostX)
    {g : JFrame} (hg : g.method = m) (hsize : g.locals.size = c.maxLocals) {argsL rest : List Value} (hlen : ∀ sig, parseMethodDescriptor y.desc = some sig → argsL.length = sig.parameters.length)
    (hstack : g.stack = argsL.reverse ++ rest) (hW : 2 * g.monitorRoom + (rest.map fun v => v.category).sum ≤ W) (hdg : decode c.code g.pc = .ok (.invokestatic index, 3))
    (hpre : ∀ vm₁, s.WarmedH vm₁ → Pre ⟨T.setVm vm₁, locs, cells, slots⟩ argsL.toArray) :
    (∃ (v : Option Value) (vm₁ : Vm) (B : Pt), s.WarmedH vm₁ ∧ Stand p l e R s m args below meth c B.U B.locs B.cells B.slots ∧ Post ⟨T.setVm vm₁, locs, cells, slots⟩ argsL.toArray v B ∧
      ∀ target, Steps p.tables e below (B.U.setTop { g with pc := g.pc + 3, stack := v.toList ++ rest }) target → Steps p.tables e below (T.setTop g) target) ∨
    (∃ (q : Addr) (vm₁ : Vm) (B : Pt), s.WarmedH vm₁ ∧ Stand p l e R s m args below meth c B.U B.locs B.cells B.slots ∧ PostX ⟨T.setVm vm₁, locs, cells, slots⟩ argsL.toArray q B ∧
      Steps p.tables e below (T.setTop g) ((B.U.setTop { g with stack := rest }).pushFrame (.throwing q))) := by
  obtain ⟨mk, hnamed⟩ := Cond.code_named hcode
  obtain ⟨methM, cM, hmethM, -, -, -, -, -, -, hsigM⟩ := Cond.code_spec hnamed hcode
  have hstatic : methM.isStatic = true := Cond.static_spec hnamed hmethM hstat
  obtain ⟨kP, hkP, -⟩ := className_of_methodNamed hnamed
  have hinitP : kP.init = .initialized := Cond.initialized_spec (findClass_of_methodNamed hnamed) hkP hinit
  obtain ⟨vm₁, X₁, hstep₁⟩ := X.invokestaticNest hexec hown hlink hnamed hmethM hstatic hkP hinitP hy (g := g) hg (argsL := argsL) (rest := rest) (hlen _ hsigM) hstack hdg
  rcases hK m meth c ⟨T.setVm vm₁, locs, cells, slots⟩ { g with stack := rest } (.invokestatic index) mk argsL.toArray X₁ hg hsize hdg hW (X₁.named hnamed) (hpre vm₁ X₁.warmed) with ⟨v, B, X', hpost, hsteps⟩ | ⟨q, B, X', hpost, hsteps⟩
  · exact Or.inl ⟨v, vm₁, B, X₁.warmed, X', hpost, fun target h => hstep₁ _ fun acts => by rw [doInvoke_state]; exact hsteps.trans h⟩
  · exact Or.inr ⟨q, vm₁, B, X₁.warmed, X', hpost, hstep₁ _ fun acts => by rw [doInvoke_state]; exact hsteps⟩
theorem vx_runVN {y : MethodName} {bytes cc : ByteArray} {maxL nL mc ms n index : Nat} {ret : Option FieldType} {ws : List Cond} {rm : Room} {Pc : Array Value → State → Prop} {Qc : Array Value → State → Outcome → State → Prop} {XC : String → State → State → Prop} {free : Addr → Prop} {Ts : List Cond} {own C host : String} {b : Addr} {As rest : List Value} {g : JFrame}
    (S : CallFix p m c cc nL s args Ts own) (hM : vx_Met l y ws rm Pc Qc XC mc ms free) (cw : va_CN R s args own index y host bytes maxL ret ws rm mc ms n ∧ (Cond.instanceMethod y).before args s = true ∧ (Cond.selects C y y).before args s = true) (hp : PreV s H C b Pc As)
    (hg : g.method = m) (hn : As.length = n) (hsize : g.locals.size = nL) (hstack : g.stack = As.reverse ++ .ref b :: rest) (hW : 2 * g.monitorRoom + (rest.map fun v => v.category).sum ≤ 8) (hdg : decode cc g.pc = .ok (.invokevirtual index, 3)) (hf : cells + mc ≤ R.cells ∧ slots + ms ≤ R.slots) :
    vx_Run p l e R s m args below meth c H locs cells slots mc ms g rest (Qc (Value.ref b :: As).toArray) XC free := by
  obtain ⟨⟨⟨hrc, hrs, hfr, hlo, hws, hcw⟩, hcode, hini, hy, hlen, hl⟩, hx1, hx2⟩ := cw
  have hK : vx_Back l R p e below s args y 3 8 (PreOf R mc ms Pc) (PostOf Qc mc ms free) (vx_Post XC mc ms free) := vx_back (bytes := bytes) (maxL := maxL) (ret := ret) hM hp.1 hrc hrs hfr hlo hws hcw (fun a' U hW => word_at hW (Or.inl (by first | rfl | simp [Cond.onTables, Cond.keeps, Cond.steady])) hini)
  obtain ⟨hx, hb, hml, ho, -⟩ := S
  obtain ⟨-, ⟨cellB, hcB, hoB, hclB⟩, hPc⟩ := hp
  intro T hT X
  rcases vx_callVN X hx (C := C) (bytes := bytes) (maxL := maxL) (ret := ret) ho hl hx1 hx2 hcode hy hK (by rw [hT]; exact hcB) hoB hclB hg (hsize.trans hml.symm) (argsL := As) (rest := rest) (fun sig h => hn.trans (hlen sig h)) hstack hW (by rw [hb]; exact hdg)
    (fun vm₁ hW₁ => ⟨hf.1, hf.2, hPc (T.setVm vm₁) hT hW₁⟩) with ⟨v, vm₁, ⟨U', l2, c2, s2⟩, hW₁, X', ⟨g', mk, t, L, e1, e2, hq, h1, hL, h2, h3⟩, st⟩ | ⟨q, vm₁, ⟨U', l2, c2, s2⟩, hW₁, X', ⟨g', mk, t, L, E, ce, e1, e2, hq, hce, hcv, hcl, h1, hL, h2, h3⟩, st⟩
  · dsimp only [Pt.U, Pt.locs, Pt.cells, Pt.slots] at X' e1 e2 h1 h2 h3 st
    subst h1; subst h2; subst h3
    exact Or.inl ⟨v, (T.setVm vm₁).calling g' mk (Value.ref b :: As).toArray, t, U', L, hT, X', hL, e1, e2, hq, st⟩
  · dsimp only [Pt.U, Pt.locs, Pt.cells, Pt.slots] at X' e1 e2 h1 h2 h3 st hcl
    subst h1; subst h2; subst h3
    exact Or.inr ⟨q, (T.setVm vm₁).calling g' mk (Value.ref b :: As).toArray, t, U', L, E, ce, hT, X', hL, e1, e2, hq, hce, hcv, vx_cls hW₁ hcl, st⟩
theorem vx_runSN {y : MethodName} {bytes cc : ByteArray} {maxL nL mc ms n index : Nat} {ret : Option FieldType} {ws : List Cond} {rm : Room} {Pc : Array Value → State → Prop} {Qc : Array Value → State → Outcome → State → Prop} {XC : String → State → State → Prop} {free : Addr → Prop} {Ts : List Cond} {own host : String} {As rest : List Value} {g : JFrame}
    (S : CallFix p m c cc nL s args Ts own) (hM : vx_Met l y ws rm Pc Qc XC mc ms free) (cw : va_CN R s args own index y host bytes maxL ret ws rm mc ms n ∧ (Cond.static y).before args s = true ∧ True) (hp : PreS s H Pc As)
    (hg : g.method = m) (hn : As.length = n) (hsize : g.locals.size = nL) (hstack : g.stack = As.reverse ++ rest) (hW : 2 * g.monitorRoom + (rest.map fun v => v.category).sum ≤ 8) (hdg : decode cc g.pc = .ok (.invokestatic index, 3)) (hf : cells + mc ≤ R.cells ∧ slots + ms ≤ R.slots) :
    vx_Run p l e R s m args below meth c H locs cells slots mc ms g rest (Qc As.toArray) XC free := by
  obtain ⟨⟨⟨hrc, hrs, hfr, hlo, hws, hcw⟩, hcode, hini, hy, hlen, hl⟩, hx1, hx2⟩ := cw
  have hK : vx_Back l R p e below s args y 3 8 (PreOf R mc ms Pc) (PostOf Qc mc ms free) (vx_Post XC mc ms free) := vx_back (bytes := bytes) (maxL := maxL) (ret := ret) hM hp.1 hrc hrs hfr hlo hws hcw (fun a' U hW => word_at hW (Or.inl (by first | rfl | simp [Cond.onTables, Cond.keeps, Cond.steady])) hini)
  obtain ⟨hx, hb, hml, ho, -⟩ := S
  have hPc := hp.2
  intro T hT X
  rcases vx_callSN X hx (bytes := bytes) (maxL := maxL) (ret := ret) ho hl hx1 hini hcode hy hK hg (hsize.trans hml.symm) (argsL := As) (rest := rest) (fun sig h => hn.trans (hlen sig h)) hstack hW (by rw [hb]; exact hdg)
    (fun vm₁ hW₁ => ⟨hf.1, hf.2, hPc (T.setVm vm₁) hT hW₁⟩) with ⟨v, vm₁, ⟨U', l2, c2, s2⟩, hW₁, X', ⟨g', mk, t, L, e1, e2, hq, h1, hL, h2, h3⟩, st⟩ | ⟨q, vm₁, ⟨U', l2, c2, s2⟩, hW₁, X', ⟨g', mk, t, L, E, ce, e1, e2, hq, hce, hcv, hcl, h1, hL, h2, h3⟩, st⟩
  · dsimp only [Pt.U, Pt.locs, Pt.cells, Pt.slots] at X' e1 e2 h1 h2 h3 st
    subst h1; subst h2; subst h3
    exact Or.inl ⟨v, (T.setVm vm₁).calling g' mk As.toArray, t, U', L, hT, X', hL, e1, e2, hq, st⟩
  · dsimp only [Pt.U, Pt.locs, Pt.cells, Pt.slots] at X' e1 e2 h1 h2 h3 st hcl
    subst h1; subst h2; subst h3
    exact Or.inr ⟨q, (T.setVm vm₁).calling g' mk As.toArray, t, U', L, E, ce, hT, X', hL, e1, e2, hq, hce, hcv, vx_cls hW₁ hcl, st⟩
end
/-! ===== END ===== -/
end
section
/-! A CONSTRUCTOR OF AN EXCEPTION WITH A POOL ENTRY OF ITS OWN (NoSuchElementException's calls its superclass by 13, not by 7): nx_ctor and nx_throwS follow ctorThrowS of the library and vx_throwS of the kit, with the first constructor's bytes and entry as arguments -/
def nx_chain (X : String) (ix : Nat) (rx : ByteArray) : List String → List Cond
  | [] => Bundle.passSAtoms X Bundle.tN ix rx
  | Y :: r => Bundle.passSAtoms X Y ix rx ++ Bundle.chainSAtoms Y r
def nx_atoms (own : String) (ic : Nat) (X : String) (ix : Nat) (rx : ByteArray) (names : List String) : List Cond :=
  Bundle.throwableAtoms ++ Bundle.throwableSAtoms ++ nx_chain X ix rx names ++
  [.methodLink own ic (Bundle.initS X), .instantiable X 6, .castable X X, .selects X Bundle.tFill0 Bundle.tFill0, .selects X Bundle.tFill Bundle.tFill,
   .lays X Bundle.tN "cause" "Ljava/lang/Throwable;", .lays X Bundle.tN "stackTrace" Bundle.steD, .lays X Bundle.tN "suppressedExceptions" Bundle.listD, .lays X Bundle.tN "detailMessage" "Ljava/lang/String;",
   .isRef (.static Bundle.tN "UNASSIGNED_STACK" Bundle.steD), .isRef (.static Bundle.tN "SUPPRESSED_SENTINEL" Bundle.listD),
   .fieldLink Bundle.tN 198 Bundle.tN "backtrace" "Ljava/lang/Object;", .lays Bundle.tN Bundle.tN "backtrace" "Ljava/lang/Object;", .lays X Bundle.tN "backtrace" "Ljava/lang/Object;"]
def nx_at (own : String) (ic : Nat) (X : String) (ix : Nat) (rx : ByteArray) (names : List String) : List Cond := (nx_atoms own ic X ix rx names).filter vx_no
theorem nx_chainS {args : Array Value} {s : State} {pl : Platform} (hpl : pl.magicAccessors = ({} : Platform).magicAccessors) {top : MethodId} (htop : s.methodNamed? (Bundle.initS Bundle.tN) = some top)
    {ix : Nat} {rx : ByteArray} (x0 : decode rx 0 = .ok (.aload_n 0, 1)) (x1 : decode rx 1 = .ok (.aload_n 1, 1)) (x2 : decode rx 2 = .ok (.invokespecial ix, 3)) (x5 : decode rx 5 = .ok (.return_, 1)) (names : List String) (X : String) (hX : Bundle.fit X = true) (hn : ∀ n ∈ names, Bundle.fit n = true) (h : ∀ c ∈ nx_chain X ix rx names, c.before args s = true) :
    ∃ (P1 : PassC) (Ps : List PassC), Ps.length = names.length ∧ P1.LinksS pl s ∧ (∀ P, P ∈ Ps → P.LinksS pl s) ∧ s.methodNamed? (Bundle.initS X) = some P1.m ∧ P1.sup = firstOf top (Ps.map (·.toPassT)) ∧ PassesOn top (Ps.map (·.toPassT)) := by
  cases names with
  | nil =>
    obtain ⟨P, L, hm, hs⟩ := PassC.ofS_atoms (args := args) (s := s) hpl (X := X) (Y := Bundle.tN) (Bundle.fit_spec hX).1 (by decide) x0 x1 x2 x5 h
    exact ⟨P, [], rfl, L, (fun _ hP => by cases hP), hm, Option.some.inj (hs.symm.trans htop), trivial⟩
  | cons Y r =>
    obtain ⟨P, L, hm, hs⟩ := PassC.ofS_atoms (args := args) (s := s) hpl (X := X) (Y := Y) (Bundle.fit_spec hX).1 (Bundle.fit_spec (hn Y List.mem_cons_self)).2 x0 x1 x2 x5
      (fun c hc => h c (by simp only [nx_chain, List.mem_append]; exact Or.inl hc))
    obtain ⟨P', Ps, hlen, L', hL, hm', hsup, hpass⟩ := Bundle.chainS (args := args) hpl htop r Y (hn Y List.mem_cons_self) (fun n hn' => hn n (List.mem_cons_of_mem _ hn')) (fun c hc => h c (by simp only [nx_chain, List.mem_append]; exact Or.inr hc))
    refine ⟨P, P' :: Ps, by simp [hlen], L, ?_, hm, Option.some.inj (hs.symm.trans hm'), hsup, hpass⟩
    intro Q hQ
    rcases List.mem_cons.mp hQ with rfl | hQ
    · exact L'
    · exact hL Q hQ
section NXC
variable {p : Program} {l : Launch} {e : Env} {R : Room} {s : State} {m₀ : MethodId} {args : Array Value} {below : List Frame} {meth : Method} {c : Code} {W : State} {locs : List Loc} {cells slots : Nat}
set_option maxHeartbeats 1000000 in
theorem nx_ctor (X : Stand p l e R s m₀ args below meth c W locs cells slots) (hexec : p.tables.exec = Jvm.exec) (htr : e.platform.stackTraces = false) {own cls : String} {names : List String} {ic : Nat} {ix : Nat} {rx : ByteArray} (x0 : decode rx 0 = .ok (.aload_n 0, 1)) (x1 : decode rx 1 = .ok (.aload_n 1, 1)) (x2 : decode rx 2 = .ok (.invokespecial ix, 3)) (x5 : decode rx 5 = .ok (.return_, 1))
    (hown : s.vm.findClass own = some m₀.cls) (hcls : Bundle.fit cls = true) (hnames : ∀ n ∈ names, Bundle.fit n = true)
    (h : ∀ a ∈ nx_atoms own ic cls ix rx names, a.before args s = true)
    (hlocs : ∀ x ∈ locs, ∀ cell, s.heap[x.base]? = some cell → cell.vm.isStatics = false)
    {a : Addr} {cX : ClassId} {kX : Class} (hfoundX : s.vm.findClass cls = some cX) (hkX : s.vm.classes[cX]? = some kX) (hcell : W.heap[a]? = some (freshCell cX kX)) (hnew : s.heap.size ≤ a)
    {msg : Value} (hmsg : msg.isRef = true)
    {g : JFrame} (hg : g.method = m₀) (hsize : g.locals.size = c.maxLocals) (hlocked : g.locked = none) (hentered : g.entered = []) {rest : List Value} (hstack : g.stack = msg :: .ref a :: .ref a :: rest)
    (hd6 : decode c.code g.pc = .ok (.invokespecial ic, 3)) (hd9 : decode c.code (g.pc + 3) = .ok (.athrow, 1)) (hout : ∀ x ∈ c.exceptionTable.toList, covers x (g.pc + 3) = false)
    (hRframes : names.length + 3 < R.frames) (hRlocals : 2 * g.monitorRoom + ((Value.ref a :: rest).map fun v => v.category).sum + (13 * (names.length + 1) + 42) ≤ R.locals) (hlocks : meth.locks = false := by first | assumption | exact BodyLoose.notSynchronized (by assumption) | exact Body.notSynchronized (by assumption)) :
    ∃ U : State, Steps p.tables e below (W.setTop g) U ∧ U.status = .running ∧ Ended U below (.threw a) ∧ s.WarmedH U.vm ∧ s.sameButNew ({ U with vm := s.vm } : State) locs cells slots ∧
      ∃ ce, U.heap[a]? = some ce ∧ s.vm.findClass cls = some ce.cls ∧ ce.vm = .none := by
  have howns : e.platform.frameOwnsMonitors = true := by rw [X.admits.platform]
  have hfin : e.platform.finalization = false := by rw [X.admits.platform]
  have hpl : e.platform.magicAccessors = ({} : Platform).magicAccessors := by rw [X.admits.platform]
  have a' : ∀ x, x ∈ nx_atoms own ic cls ix rx names → x.holds args s none s [] = true := fun x hx => h x hx
  obtain ⟨T, Z0, L, -, Y⟩ := ThrowableC.of_atoms (args := args) howns hfin hpl (fun x hx => h x (by simp [nx_atoms, hx]))
  obtain ⟨Z, M, LZ, LM, hnZ⟩ := Init0T.ofS_atoms (args := args) hpl L Y (fun x hx => h x (by simp [nx_atoms, hx]))
  obtain ⟨P1, Ps, hlen, L1, hL, hP1m, hlink1, hlink⟩ := nx_chainS (args := args) hpl hnZ x0 x1 x2 x5 names cls hcls hnames (fun x hx => h x (by simp [nx_atoms, hx]))
  have hfound : s.vm.findClass cls = some P1.m.cls := findClass_of_methodNamed hP1m
  cases Option.some.inj (hfoundX.symm.trans hfound)
  obtain ⟨c1, kX', hc1, hk, hord, -, -, hn6⟩ := Cond.instantiable_spec (a' (.instantiable cls 6) (by simp [nx_atoms]))
  cases Option.some.inj (hc1.symm.trans hfound)
  cases Option.some.inj (hkX.symm.trans hk)
  have hsel0 : selectMethod e.platform s.vm P1.m.cls T.fill0 = .method T.fill0 := by
    obtain ⟨c2, r2, m2, q1, q2, q3, q4, -⟩ := Cond.selects_spec (a' (.selects cls Bundle.tFill0 Bundle.tFill0) (by simp [nx_atoms]))
    cases Option.some.inj (q1.symm.trans hfound)
    cases Option.some.inj (q2.symm.trans (State.methodFound?_of_named Y.fill0 (by decide)))
    cases Option.some.inj (q3.symm.trans Y.fill0)
    rw [Launch.admits_selectMethod X.admits]; exact q4
  have hselF : selectMethod e.platform s.vm P1.m.cls T.fill = .method T.fill := by
    obtain ⟨c2, r2, m2, q1, q2, q3, q4, -⟩ := Cond.selects_spec (a' (.selects cls Bundle.tFill Bundle.tFill) (by simp [nx_atoms]))
    cases Option.some.inj (q1.symm.trans hfound)
    cases Option.some.inj (q2.symm.trans (State.methodFound?_of_named Y.fill (by decide)))
    cases Option.some.inj (q3.symm.trans Y.fill)
    rw [Launch.admits_selectMethod X.admits]; exact q4
  obtain ⟨cellS0, hcS0, hiss⟩ := Y.statics
  obtain ⟨u0, hu0⟩ := Cond.staticRefV Y.unassigned L.unassignedStatic L.statics hcS0 hiss (a' (.isRef (.static Bundle.tN "UNASSIGNED_STACK" Bundle.steD)) (by simp [nx_atoms]))
  obtain ⟨sen, hsen⟩ := Cond.staticRefV Y.sentinel L.sentinelStatic L.statics hcS0 hiss (a' (.isRef (.static Bundle.tN "SUPPRESSED_SENTINEL" Bundle.listD)) (by simp [nx_atoms]))
  obtain ⟨ci198, i198, fB, hk198, hg198, ha198, hsB, -, hnB, htB, hffB⟩ := Cond.ownField (t := .object "java/lang/Object") Y.found L.cls (by decide +kernel) (a' (.fieldLink Bundle.tN 198 Bundle.tN "backtrace" "Ljava/lang/Object;") (by simp [nx_atoms])) (a' (.lays Bundle.tN Bundle.tN "backtrace" "Ljava/lang/Object;") (by simp [nx_atoms])) e.platform hpl
  obtain ⟨cellS, hcS', heS, -, hkeep⟩ := X.same.2.2.2.2.2 T.aS cellS0 hcS0
  have hcellS : W.heap[T.aS]? = some cellS := hcS'
  have hout' : ∀ i, (⟨T.aS, i⟩ : Loc) ∉ locs := fun i hmem => by
    have := hlocs _ hmem cellS0 hcS0
    rw [hiss] at this; cases this
  have hknownS : cellS.vm ≠ .unknown := by
    rw [heS]; intro hu
    rw [show cellS0.vm = .unknown from hu] at hiss
    cases hiss
  have hneS : T.aS ≠ a := Nat.ne_of_lt (Nat.lt_of_lt_of_le (Array.getElem?_eq_some_iff.mp hcS0).1 hnew)
  obtain ⟨iM, hffM⟩ := Y.msg
  obtain ⟨tyC, dC, hdC, hdnC⟩ := Cond.laysAt hfound hk Y.cause (a' (.lays cls Bundle.tN "cause" "Ljava/lang/Throwable;") (by simp [nx_atoms]))
  obtain ⟨tyS, dS, hdS, hdnS⟩ := Cond.laysAt hfound hk Y.stack (a' (.lays cls Bundle.tN "stackTrace" Bundle.steD) (by simp [nx_atoms]))
  obtain ⟨tyP, dP, hdP, hdnP⟩ := Cond.laysAt hfound hk Y.supp (a' (.lays cls Bundle.tN "suppressedExceptions" Bundle.listD) (by simp [nx_atoms]))
  obtain ⟨tyM, dM, hdM, hdnM⟩ := Cond.laysAt hfound hk hffM (a' (.lays cls Bundle.tN "detailMessage" "Ljava/lang/String;") (by simp [nx_atoms]))
  obtain ⟨tyB, dB, hdB, hdnB⟩ := Cond.laysAt hfound hk hffB (a' (.lays cls Bundle.tN "backtrace" "Ljava/lang/Object;") (by simp [nx_atoms]))
  have bC := Cond.laysApart hdB hdC hdnB hdnC (by rw [hnB, Y.causeName]; decide)
  have bS := Cond.laysApart hdB hdS hdnB hdnS (by rw [hnB, Y.stackName]; decide)
  have bP := Cond.laysApart hdB hdP hdnB hdnP (by rw [hnB, Y.suppName]; decide)
  have hskip : SkipFacts T e.platform s (fun u => u) u0 ((preparedCellV T.toThrowableT (freshCell P1.m.cls kX) a u0 sen).withEntry W.cur) :=
    ⟨{ ci198 := ci198, i198 := i198, fBack := fB }, ⟨hk198, hg198, ha198, hsB⟩, by
      have := fresh_default (c := P1.m.cls) tyB
      rw [htB] at this
      simpa [preparedCellV, Cell.setSlot, Cell.withEntry, Array.getElem?_setIfInBounds, bC, bS, bP, bC.symm, bS.symm, bP.symm, defaultValue] using this, fun _ _ => rfl⟩
  obtain ⟨tm, methC, cdC, kC, vm₁, hnC, -, -, -, -, -, -, -, hW₁, st1⟩ := Steps.initColdS (tb := p.tables) (e := e) (below := below) (s := s) (U := W) X.here hexec X.warmed hpl hown (t := Bundle.initS cls) rfl rfl (Bundle.fit_spec hcls).2
    (a' (.methodLink own ic (Bundle.initS cls)) (by simp [nx_atoms])) (h (.instanceMethod (Bundle.initS cls)) (by cases names <;> simp [nx_atoms, nx_chain, Bundle.passSAtoms])) (bytes := rx) (maxL := 2) (h (.code (Bundle.initS cls) rx 2 none) (by cases names <;> simp [nx_atoms, nx_chain, Bundle.passSAtoms]))
    (f := g) hg (a := a) (msg := msg) (rest := .ref a :: rest) hstack hd6
  cases Option.some.inj (hnC.symm.trans hP1m)
  have X₁ := X.noted hW₁
  obtain ⟨vm₂, X₂, st2⟩ := X₁.ctorMessageOffV hexec (g := { g with stack := .ref a :: rest }) hg hsize T L Z LZ M LM (P1 :: Ps)
    (fun P hP => by rcases List.mem_cons.mp hP with rfl | hP; exact L1; exact hL P hP) ⟨hlink1, hlink⟩ (u0 := u0) (sen := sen) (self := a) hmsg (cell := freshCell P1.m.cls kX) (cellS := cellS)
    hcell (fun _ => by simp) (by simp) rfl rfl hsel0 hselF hcellS hneS hknownS (by rw [hkeep _ (hout' _)]; exact hu0) (by rw [hkeep _ (hout' _)]; exact hsen)
    (Takes.of_laid hk hord tyC (by rw [Y.causeType]; rfl)) (Takes.of_laid hk hord tyS (by rw [Y.stackType]; exact fits_refV_array _ u0)) (Takes.of_laid hk hord tyP (by rw [Y.suppType]; exact fits_refV_object _ sen))
    (Takes.of_laid hk hord tyM (by rw [Y.msgType]; exact fits_refV_object _ ⟨msg, hmsg⟩)) Y.objLocals hskip htr [] hd6
    (by simp only [List.length_cons, hlen]; omega) (by simp only [List.length_cons, hlen]; exact hRlocals)
  obtain ⟨hwalk, hrun, hended, hWU, hsame⟩ := X₂.athrowLeaves hexec (g := { g with stack := .ref a :: rest, pc := g.pc + 3 }) hg hlocked hentered hout (a := a) (rest := rest) rfl hd9
  obtain ⟨c3, c4, hc3, hc4, hasg⟩ := Cond.castable_spec (a' (.castable cls cls) (by simp [nx_atoms]))
  cases Option.some.inj (hc3.symm.trans hfound)
  cases Option.some.inj (hc4.symm.trans hfound)
  have hlt : a < ((W.setVm vm₁).setVm vm₂).heap.size := (Array.getElem?_eq_some_iff.mp hcell).1
  have hU := heapAt_setCell_self (s := (W.setVm vm₁).setVm vm₂) (plainBareV T.toThrowableT (freshCell P1.m.cls kX) a u0 sen msg) hlt
  have hnM : T.fMsg.name = "detailMessage" := (State.fieldFound?_type hffM (t := .object "java/lang/String") (by decide +kernel)).1
  have nCS := Cond.laysApart hdC hdS hdnC hdnS (by rw [Y.causeName, Y.stackName]; decide)
  have nCP := Cond.laysApart hdC hdP hdnC hdnP (by rw [Y.causeName, Y.suppName]; decide)
  have nCM := Cond.laysApart hdC hdM hdnC hdnM (by rw [Y.causeName, hnM]; decide)
  have nSP := Cond.laysApart hdS hdP hdnS hdnP (by rw [Y.stackName, Y.suppName]; decide)
  have nSM := Cond.laysApart hdS hdM hdnS hdnM (by rw [Y.stackName, hnM]; decide)
  have nPM := Cond.laysApart hdP hdM hdnP hdnM (by rw [Y.suppName, hnM]; decide)
  have lC : T.fCause.slot < kX.instanceTypes.size := (Array.getElem?_eq_some_iff.mp tyC).1
  have lS : T.fStack.slot < kX.instanceTypes.size := (Array.getElem?_eq_some_iff.mp tyS).1
  have lP : T.fSupp.slot < kX.instanceTypes.size := (Array.getElem?_eq_some_iff.mp tyP).1
  have lM : T.fMsg.slot < kX.instanceTypes.size := (Array.getElem?_eq_some_iff.mp tyM).1
  have evU : ∀ o, (Term.static Bundle.tN "UNASSIGNED_STACK" Bundle.steD).eval args s o [] s = some u0.v := by
    intro o
    simp [Term.eval, State.fieldNamed?, Y.unassigned, L.unassignedStatic, L.statics, hcS0, hiss, hu0]
  have evS : ∀ o, (Term.static Bundle.tN "SUPPRESSED_SENTINEL" Bundle.listD).eval args s o [] s = some sen.v := by
    intro o
    simp [Term.eval, State.fieldNamed?, Y.sentinel, L.sentinelStatic, L.statics, hcS0, hiss, hsen]
  refine ⟨_, st1 _ (fun acts => ?_), hrun, hended, hWU, hsame.weaken (fun y hy hlt' => ?_) (Nat.le_refl _) (Nat.le_refl _), _, hU, ?_⟩
  · rw [doInvoke_state]
    exact st2 _ hwalk
  · rcases List.mem_append.mp hy with h1 | h1
    · exact h1
    · exfalso
      have hb : y.base = a := by
        simp only [List.mem_cons, List.not_mem_nil, or_false] at h1
        rcases h1 with rfl | rfl | rfl | rfl | rfl <;> rfl
      rw [hb] at hlt'
      exact Nat.not_lt.mpr hnew hlt'
  · exact ⟨hfound, rfl⟩
end NXC
section NXE
variable {p : Program} {l : Launch} {e : Env} {R : Room} {s : State} {m : MethodId} {args : Array Value} {below : List Frame} {meth : Method} {c : Code} {H : Heap} {locs : List Loc} {cells slots : Nat} {Q : State → Prop}
variable {mc ms : Nat} {free : Addr → Prop} {A0 A1 : Nat → Prop} {H0 : Heap} {a : Array Value} {ls : Array Slot} {st0 rest : List Value}
variable {Qc : Array Value → State → Outcome → State → Prop} {XC : String → State → State → Prop}
/-- 'throw new E("text")': new; dup; ldc; invokespecial; athrow -/
theorem nx_throwS {cc : ByteArray} {pc : Nat} (hexec : p.tables.exec = Jvm.exec) (hb : c.code = cc) (hl : l.stackTraces = false) {own cls text : String} {names : List String} {ik is ic mc ms sa : Nat} {ix : Nat} {rx : ByteArray} (x0 : decode rx 0 = .ok (.aload_n 0, 1)) (x1 : decode rx 1 = .ok (.aload_n 1, 1)) (x2 : decode rx 2 = .ok (.invokespecial ix, 3)) (x5 : decode rx 5 = .ok (.return_, 1)) {A : Nat → Prop}
    (hown : s.vm.findClass own = some m.cls) (hcls : Bundle.fit cls = true) (hnames : ∀ n ∈ names, Bundle.fit n = true)
    (hk : (Cond.classLink own ik cls).before args s = true) (hini : (Cond.initialized cls).before args s = true) (hstr : vk_R own is text sa s) (hat : ∀ w ∈ nx_at own ic cls ix rx names, w.before args s = true)
    (hgood : ∀ w ∈ Cond.classLink own ik cls :: Cond.initialized cls :: nx_at own ic cls ix rx names, vx_ot w = true)
    (hU : vx_Zq Bundle.tN "UNASSIGNED_STACK" Bundle.steD A s s.heap) (hN : vx_Zq Bundle.tN "SUPPRESSED_SENTINEL" Bundle.listD A s s.heap) (hS : va_S A s.heap H locs) (hsize : ls.size = c.maxLocals)
    (d0 : decode cc pc = .ok (.new ik, 3)) (d3 : decode cc (pc + 3) = .ok (.dup, 1)) (d4 : decode cc (pc + 4) = .ok (.ldc is, 2)) (d6 : decode cc (pc + 6) = .ok (.invokespecial ic, 3)) (d9 : decode cc (pc + 9) = .ok (.athrow, 1))
    (hout : ∀ x ∈ c.exceptionTable.toList, covers x (pc + 9) = false)
    (hRframes : names.length + 3 < R.frames) (hRlocals : (rest.map fun v => v.category).sum + (13 * (names.length + 1) + 43) ≤ R.locals) (hRcells : cells + 1 ≤ R.cells) (hRslots : slots + 6 ≤ R.slots) (hlocks : meth.locks = false)
    (hx : ∀ t : State, s.vm.Alike t.vm → H.size ≤ t.heap.size → (∀ q : Nat, q < H.size → t.heap[q]? = H[q]?) → XC cls s t)
    (hf : ∀ z ∈ locs, free z.base) (hc : cells + 1 ≤ mc) (hs : slots + 6 ≤ ms) :
    W p l e R s m args below meth c H locs cells slots (vx_MQ below Qc XC args s mc ms free) (F0 m pc ls rest) := by
  intro T hT X
  have htr : e.platform.stackTraces = false := (show e.platform.stackTraces = l.stackTraces by rw [X.admits.platform]).trans hl
  have Y := vx_rebase X (R' := { frames := R.frames, locals := R.locals, cells := 1, slots := 6 }) (Nat.le_refl _) (Nat.le_refl _) hRcells hRslots
  obtain ⟨s', hA⟩ : ∃ z, z = (T.setVm s.vm).setFrames (.invoking m args :: below) := ⟨_, rfl⟩
  rw [← hA] at Y
  have hvm : s'.vm = s.vm := by rw [hA]; rfl
  have hhp : s'.heap = H := by rw [hA]; exact hT
  have hW0 : s.WarmedH s'.vm := by rw [hvm]; exact State.WarmedH.refl s
  have hat' : ∀ w ∈ nx_at own ic cls ix rx names, w.before args s' = true := fun w hw => vx_ot_at hW0 hvm.symm (hgood w (List.mem_cons_of_mem _ (List.mem_cons_of_mem _ hw))) (hat w hw)
  have hk' : (Cond.classLink own ik cls).before args s' = true := vx_ot_at hW0 hvm.symm (hgood _ List.mem_cons_self) hk
  have hini' : (Cond.initialized cls).before args s' = true := vx_ot_at hW0 hvm.symm (hgood _ (List.mem_cons_of_mem _ List.mem_cons_self)) hini
  have hU' : vx_Zq Bundle.tN "UNASSIGNED_STACK" Bundle.steD A s' s'.heap := by rw [hhp]; exact vx_Zq.moved hW0.alike (hU.kept hS.2.1)
  have hN' : vx_Zq Bundle.tN "SUPPRESSED_SENTINEL" Bundle.listD A s' s'.heap := by rw [hhp]; exact vx_Zq.moved hW0.alike (hN.kept hS.2.1)
  have h : ∀ w ∈ nx_atoms own ic cls ix rx names, w.before args s' = true := vx_own hat' (vx_isRefq hU'.1) (vx_isRefq hN'.1) hU'.2.word hN'.2.word
  have hown' : s'.vm.findClass own = some m.cls := by rw [hvm]; exact hown
  have hins : (Cond.instantiable cls 6).before args s' = true := h _ (by simp [nx_atoms])
  obtain ⟨vm₁, cX, kX, hfX, hkX, -, -, X₁, st1⟩ := Y.newCold hexec (own := own) (C := cls) (index := ik) (n := 6) hown' hk' hins hini'
    (g := F0 m pc ls rest) rfl (by rw [hb]; exact d0) (Nat.le_refl _) (Nat.le_refl _)
  generalize hT1 : (T.setVm vm₁).pushCell { cls := cX, slots := kX.instanceTypes.map defaultValue, vm := .none } = T1 at X₁ st1
  have hcat : (Value.ref T.heap.size).category = 1 := rfl
  have hcellA : T1.heap[T.heap.size]? = some (freshCell cX kX) := by rw [← hT1]; exact State.heap_pushCell_size _ _
  have d3' : decode c.code (pc + 3) = .ok (.dup, 1) := by rw [hb]; exact d3
  have d4' : decode c.code (pc + 4) = .ok (.ldc is, 2) := by rw [hb]; exact d4
  have hstr' : vk_R own is text sa s' := vk_R.warm hW0 hstr
  obtain ⟨U, hsteps, hrun, hend, hW, hsame, ce, hce, hO⟩ := nx_ctor X₁ hexec htr (own := own) (cls := cls) (names := names) (ic := ic) x0 x1 x2 x5 hown' hcls hnames h (fun x hx => nomatch hx) hfX hkX hcellA (by rw [hhp, hT]; exact Nat.le_refl _) (msg := .ref sa) rfl
    (g := { method := m, pc := pc + 6, locals := ls, stack := .ref sa :: .ref T.heap.size :: .ref T.heap.size :: rest, locked := none }) rfl hsize rfl rfl (rest := rest) rfl
    (by rw [hb]; exact d6) (by rw [hb]; exact d9) hout hRframes (by simp only [List.map_cons, List.sum_cons, hcat]; omega) hlocks
  obtain ⟨f1, f2⟩ := vx_frame hsame
  rw [hhp] at f1 f2
  have hWs : s.WarmedH U.vm := State.WarmedH.trans hW0 hW
  have hcl : s.vm.findClass cls = some ce.cls := by
    have h9 := hO.1
    rw [hvm] at h9
    exact h9
  have hall : s.sameButNew ({ U with vm := s.vm } : State) locs mc ms := by
    subst hA
    obtain ⟨e1, e2⟩ := hsame
    rw [State.setFrames_setFrames] at e1
    have h2 : (T.setVm s.vm).sameButNew ({ U with vm := s.vm } : State) [] (0 + 1) (0 + 6) := ⟨e1, e2⟩
    have h3 := X.same.trans h2
    rw [List.append_nil] at h3
    exact h3.mono hc hs
  refine ⟨U, ?_, .threw T.heap.size, hrun, hend, Or.inr ⟨T.heap.size, rfl, cls, ce, locs, hx U hWs.alike f1 (fun q hq => f2 q hq (fun z hz => nomatch hz)), hce, hO.2, hcl, hWs, hall, hf⟩⟩
  refine st1 _ ?_
  show Steps p.tables e below (T1.setTop { method := m, pc := pc + 3, locals := ls, stack := .ref T.heap.size :: rest, locked := none }) _
  jvm_step X₁.here [X₁.here.top, hexec, d3', Value.category]
  exact X₁.ldcString hexec (own := own) (text := text) (index := is) (a := sa) hown' hstr'.1 hstr'.2
    (g := { method := m, pc := pc + 4, locals := ls, stack := .ref T.heap.size :: .ref T.heap.size :: rest, locked := none }) rfl d4' _ hsteps
/-- 'throw new E("text")', the text by a wide index -/
theorem nx_throwSW {cc : ByteArray} {pc : Nat} (hexec : p.tables.exec = Jvm.exec) (hb : c.code = cc) (hl : l.stackTraces = false) {own cls text : String} {names : List String} {ik is ic mc ms sa : Nat} {ix : Nat} {rx : ByteArray} (x0 : decode rx 0 = .ok (.aload_n 0, 1)) (x1 : decode rx 1 = .ok (.aload_n 1, 1)) (x2 : decode rx 2 = .ok (.invokespecial ix, 3)) (x5 : decode rx 5 = .ok (.return_, 1)) {A : Nat → Prop}
    (hown : s.vm.findClass own = some m.cls) (hcls : Bundle.fit cls = true) (hnames : ∀ n ∈ names, Bundle.fit n = true)
    (hk : (Cond.classLink own ik cls).before args s = true) (hini : (Cond.initialized cls).before args s = true) (hstr : vk_R own is text sa s) (hat : ∀ w ∈ nx_at own ic cls ix rx names, w.before args s = true)
    (hgood : ∀ w ∈ Cond.classLink own ik cls :: Cond.initialized cls :: nx_at own ic cls ix rx names, vx_ot w = true)
    (hU : vx_Zq Bundle.tN "UNASSIGNED_STACK" Bundle.steD A s s.heap) (hN : vx_Zq Bundle.tN "SUPPRESSED_SENTINEL" Bundle.listD A s s.heap) (hS : va_S A s.heap H locs) (hsize : ls.size = c.maxLocals)
    (d0 : decode cc pc = .ok (.new ik, 3)) (d3 : decode cc (pc + 3) = .ok (.dup, 1)) (d4 : decode cc (pc + 4) = .ok (.ldc_w is, 3)) (d7 : decode cc (pc + 7) = .ok (.invokespecial ic, 3)) (d10 : decode cc (pc + 10) = .ok (.athrow, 1))
    (hout : ∀ x ∈ c.exceptionTable.toList, covers x (pc + 10) = false)
    (hRframes : names.length + 3 < R.frames) (hRlocals : (rest.map fun v => v.category).sum + (13 * (names.length + 1) + 43) ≤ R.locals) (hRcells : cells + 1 ≤ R.cells) (hRslots : slots + 6 ≤ R.slots) (hlocks : meth.locks = false)
    (hx : ∀ t : State, s.vm.Alike t.vm → H.size ≤ t.heap.size → (∀ q : Nat, q < H.size → t.heap[q]? = H[q]?) → XC cls s t)
    (hf : ∀ z ∈ locs, free z.base) (hc : cells + 1 ≤ mc) (hs : slots + 6 ≤ ms) :
    W p l e R s m args below meth c H locs cells slots (vx_MQ below Qc XC args s mc ms free) (F0 m pc ls rest) := by
  intro T hT X
  have htr : e.platform.stackTraces = false := (show e.platform.stackTraces = l.stackTraces by rw [X.admits.platform]).trans hl
  have Y := vx_rebase X (R' := { frames := R.frames, locals := R.locals, cells := 1, slots := 6 }) (Nat.le_refl _) (Nat.le_refl _) hRcells hRslots
  obtain ⟨s', hA⟩ : ∃ z, z = (T.setVm s.vm).setFrames (.invoking m args :: below) := ⟨_, rfl⟩
  rw [← hA] at Y
  have hvm : s'.vm = s.vm := by rw [hA]; rfl
  have hhp : s'.heap = H := by rw [hA]; exact hT
  have hW0 : s.WarmedH s'.vm := by rw [hvm]; exact State.WarmedH.refl s
  have hat' : ∀ w ∈ nx_at own ic cls ix rx names, w.before args s' = true := fun w hw => vx_ot_at hW0 hvm.symm (hgood w (List.mem_cons_of_mem _ (List.mem_cons_of_mem _ hw))) (hat w hw)
  have hk' : (Cond.classLink own ik cls).before args s' = true := vx_ot_at hW0 hvm.symm (hgood _ List.mem_cons_self) hk
  have hini' : (Cond.initialized cls).before args s' = true := vx_ot_at hW0 hvm.symm (hgood _ (List.mem_cons_of_mem _ List.mem_cons_self)) hini
  have hU' : vx_Zq Bundle.tN "UNASSIGNED_STACK" Bundle.steD A s' s'.heap := by rw [hhp]; exact vx_Zq.moved hW0.alike (hU.kept hS.2.1)
  have hN' : vx_Zq Bundle.tN "SUPPRESSED_SENTINEL" Bundle.listD A s' s'.heap := by rw [hhp]; exact vx_Zq.moved hW0.alike (hN.kept hS.2.1)
  have h : ∀ w ∈ nx_atoms own ic cls ix rx names, w.before args s' = true := vx_own hat' (vx_isRefq hU'.1) (vx_isRefq hN'.1) hU'.2.word hN'.2.word
  have hown' : s'.vm.findClass own = some m.cls := by rw [hvm]; exact hown
  have hins : (Cond.instantiable cls 6).before args s' = true := h _ (by simp [nx_atoms])
  obtain ⟨vm₁, cX, kX, hfX, hkX, -, -, X₁, st1⟩ := Y.newCold hexec (own := own) (C := cls) (index := ik) (n := 6) hown' hk' hins hini'
    (g := F0 m pc ls rest) rfl (by rw [hb]; exact d0) (Nat.le_refl _) (Nat.le_refl _)
  generalize hT1 : (T.setVm vm₁).pushCell { cls := cX, slots := kX.instanceTypes.map defaultValue, vm := .none } = T1 at X₁ st1
  have hcat : (Value.ref T.heap.size).category = 1 := rfl
  have hcellA : T1.heap[T.heap.size]? = some (freshCell cX kX) := by rw [← hT1]; exact State.heap_pushCell_size _ _
  have d3' : decode c.code (pc + 3) = .ok (.dup, 1) := by rw [hb]; exact d3
  have d4' : decode c.code (pc + 4) = .ok (.ldc_w is, 3) := by rw [hb]; exact d4
  have hstr' : vk_R own is text sa s' := vk_R.warm hW0 hstr
  obtain ⟨U, hsteps, hrun, hend, hW, hsame, ce, hce, hO⟩ := nx_ctor X₁ hexec htr (own := own) (cls := cls) (names := names) (ic := ic) x0 x1 x2 x5 hown' hcls hnames h (fun x hx => nomatch hx) hfX hkX hcellA (by rw [hhp, hT]; exact Nat.le_refl _) (msg := .ref sa) rfl
    (g := { method := m, pc := pc + 7, locals := ls, stack := .ref sa :: .ref T.heap.size :: .ref T.heap.size :: rest, locked := none }) rfl hsize rfl rfl (rest := rest) rfl
    (by rw [hb]; exact d7) (by rw [hb]; exact d10) hout hRframes (by simp only [List.map_cons, List.sum_cons, hcat]; omega) hlocks
  obtain ⟨f1, f2⟩ := vx_frame hsame
  rw [hhp] at f1 f2
  have hWs : s.WarmedH U.vm := State.WarmedH.trans hW0 hW
  have hcl : s.vm.findClass cls = some ce.cls := by
    have h9 := hO.1
    rw [hvm] at h9
    exact h9
  have hall : s.sameButNew ({ U with vm := s.vm } : State) locs mc ms := by
    subst hA
    obtain ⟨e1, e2⟩ := hsame
    rw [State.setFrames_setFrames] at e1
    have h2 : (T.setVm s.vm).sameButNew ({ U with vm := s.vm } : State) [] (0 + 1) (0 + 6) := ⟨e1, e2⟩
    have h3 := X.same.trans h2
    rw [List.append_nil] at h3
    exact h3.mono hc hs
  refine ⟨U, ?_, .threw T.heap.size, hrun, hend, Or.inr ⟨T.heap.size, rfl, cls, ce, locs, hx U hWs.alike f1 (fun q hq => f2 q hq (fun z hz => nomatch hz)), hce, hO.2, hcl, hWs, hall, hf⟩⟩
  refine st1 _ ?_
  show Steps p.tables e below (T1.setTop { method := m, pc := pc + 3, locals := ls, stack := .ref T.heap.size :: rest, locked := none }) _
  jvm_step X₁.here [X₁.here.top, hexec, d3', Value.category]
  exact X₁.ldcStringW hexec (own := own) (text := text) (index := is) (a := sa) hown' hstr'.1 hstr'.2
    (g := { method := m, pc := pc + 4, locals := ls, stack := .ref T.heap.size :: .ref T.heap.size :: rest, locked := none }) rfl d4' _ hsteps
end NXE
end
section
/-! ===== BEGIN printed: names, fields, word lists, decode rows ===== -/
def RX0 : String := "SpatialPoints$Cursor"
def TX0 : u_T := fun k => match k with
  | 0 => ("SpatialPoints$Cursor", "tree", "LSpatialPoints$Tree;", true)
  | 1 => ("SpatialPoints$Cursor", "ids", "LSpatialPoints$Numbers;", true)
  | 2 => ("SpatialPoints$Cursor", "waiting", "LSpatialPoints$Numbers;", true)
  | 3 => ("SpatialPoints$Cursor", "position", "I", false)
  | _ => ("SpatialPoints$Cursor", "isValid", "Z", false)
def tyX0 : Nat → FieldType := fun k => match k with
  | 0 => .object "SpatialPoints$Tree"
  | 1 => .object "SpatialPoints$Numbers"
  | 2 => .object "SpatialPoints$Numbers"
  | 3 => .int
  | _ => .boolean
abbrev wsX00 : List Cond := u_ws RX0 TX0 5
theorem nmX0 : ∀ a, a < 5 → ∀ b, b < 5 → a ≠ b → (TX0 a).2.1 ≠ (TX0 b).2.1 := by decide +kernel
theorem tyX0_ok : ∀ k, k < 5 → parseFieldDescriptor (TX0 k).2.2.1 = some (tyX0 k) := by decide +kernel
abbrev cX0_init : ByteArray := prog_2_method_1_code
def yX0_init : MethodName := ⟨RX0, "<init>", "(LSpatialPoints$Tree;)V"⟩
abbrev cX0_invalidate : ByteArray := prog_2_method_2_code
def yX0_invalidate : MethodName := ⟨RX0, "invalidate", "()V"⟩
abbrev cX0_hasMore : ByteArray := prog_2_method_3_code
def yX0_hasMore : MethodName := ⟨RX0, "hasMore", "()Z"⟩
abbrev cX0_advance : ByteArray := prog_2_method_4_code
def yX0_advance : MethodName := ⟨RX0, "advance", "()I"⟩
abbrev cX0_start : ByteArray := prog_2_method_5_code
def yX0_start : MethodName := ⟨RX0, "start", "(I)I"⟩
abbrev cX0_addIfAlive : ByteArray := prog_2_method_6_code
def yX0_addIfAlive : MethodName := ⟨RX0, "addIfAlive", "(I)V"⟩
abbrev cX0_listPreorder : ByteArray := prog_2_method_7_code
def yX0_listPreorder : MethodName := ⟨RX0, "listPreorder", "()V"⟩
abbrev cX0_listInorder : ByteArray := prog_2_method_8_code
def yX0_listInorder : MethodName := ⟨RX0, "listInorder", "()V"⟩
abbrev cX0_waitLeftwards : ByteArray := prog_2_method_9_code
def yX0_waitLeftwards : MethodName := ⟨RX0, "waitLeftwards", "(I)V"⟩
abbrev cX0_listLevels : ByteArray := prog_2_method_10_code
def yX0_listLevels : MethodName := ⟨RX0, "listLevels", "()V"⟩
def RX1 : String := "SpatialPoints$Numbers"
def TX1 : u_T := fun k => match k with
  | 0 => ("SpatialPoints$Numbers", "row", "[I", true)
  | _ => ("SpatialPoints$Numbers", "count", "I", false)
def tyX1 : Nat → FieldType := fun k => match k with
  | 0 => .array .int
  | _ => .int
abbrev wsX10 : List Cond := u_ws RX1 TX1 2
theorem nmX1 : ∀ a, a < 2 → ∀ b, b < 2 → a ≠ b → (TX1 a).2.1 ≠ (TX1 b).2.1 := by decide +kernel
theorem tyX1_ok : ∀ k, k < 2 → parseFieldDescriptor (TX1 k).2.2.1 = some (tyX1 k) := by decide +kernel
abbrev cX1_init : ByteArray := prog_3_method_1_code
def yX1_init : MethodName := ⟨RX1, "<init>", "()V"⟩
abbrev cX1_clear : ByteArray := prog_3_method_2_code
def yX1_clear : MethodName := ⟨RX1, "clear", "()V"⟩
abbrev cX1_at : ByteArray := prog_3_method_3_code
def yX1_at : MethodName := ⟨RX1, "at", "(I)I"⟩
abbrev cX1_add : ByteArray := prog_3_method_4_code
def yX1_add : MethodName := ⟨RX1, "add", "(I)V"⟩
abbrev cX1_addUnlessNone : ByteArray := prog_3_method_5_code
def yX1_addUnlessNone : MethodName := ⟨RX1, "addUnlessNone", "(I)V"⟩
abbrev cX1_takeLast : ByteArray := prog_3_method_6_code
def yX1_takeLast : MethodName := ⟨RX1, "takeLast", "()I"⟩
def RX2 : String := "SpatialPoints$Points"
def TX2 : u_T := fun k => match k with
  | 0 => ("SpatialPoints$Points", "coordinates", "[I", true)
  | 1 => ("SpatialPoints$Points", "weights", "[I", true)
  | 2 => ("SpatialPoints$Points", "tags", "[I", true)
  | 3 => ("SpatialPoints$Points", "lives", "[I", true)
  | 4 => ("SpatialPoints$Points", "created", "I", false)
  | _ => ("SpatialPoints$Points", "liveCount", "I", false)
def tyX2 : Nat → FieldType := fun k => match k with
  | 0 => .array .int
  | 1 => .array .int
  | 2 => .array .int
  | 3 => .array .int
  | 4 => .int
  | _ => .int
abbrev wsX20 : List Cond := u_ws RX2 TX2 6
theorem nmX2 : ∀ a, a < 6 → ∀ b, b < 6 → a ≠ b → (TX2 a).2.1 ≠ (TX2 b).2.1 := by decide +kernel
theorem tyX2_ok : ∀ k, k < 6 → parseFieldDescriptor (TX2 k).2.2.1 = some (tyX2 k) := by decide +kernel
abbrev cX2_init : ByteArray := prog_4_method_1_code
def yX2_init : MethodName := ⟨RX2, "<init>", "()V"⟩
abbrev cX2_exists : ByteArray := prog_4_method_2_code
def yX2_exists : MethodName := ⟨RX2, "exists", "(I)Z"⟩
abbrev cX2_isAlive : ByteArray := prog_4_method_3_code
def yX2_isAlive : MethodName := ⟨RX2, "isAlive", "(I)Z"⟩
abbrev cX2_hasRoomFor : ByteArray := prog_4_method_4_code
def yX2_hasRoomFor : MethodName := ⟨RX2, "hasRoomFor", "(I)Z"⟩
abbrev cX2_coordinateOf : ByteArray := prog_4_method_5_code
def yX2_coordinateOf : MethodName := ⟨RX2, "coordinateOf", "(II)I"⟩
abbrev cX2_isBefore : ByteArray := prog_4_method_6_code
def yX2_isBefore : MethodName := ⟨RX2, "isBefore", "(III)Z"⟩
abbrev cX2_addPoint : ByteArray := prog_4_method_7_code
def yX2_addPoint : MethodName := ⟨RX2, "addPoint", "(IIIII)I"⟩
abbrev cX2_kill : ByteArray := prog_4_method_8_code
def yX2_kill : MethodName := ⟨RX2, "kill", "(I)V"⟩
abbrev cX2_moveOn : ByteArray := prog_4_method_9_code
def yX2_moveOn : MethodName := ⟨RX2, "moveOn", "(III)V"⟩
abbrev cX2_copyFrom : ByteArray := prog_4_method_10_code
def yX2_copyFrom : MethodName := ⟨RX2, "copyFrom", "(LSpatialPoints$Points;)V"⟩
def RX3 : String := "SpatialPoints$Rebuilder"
def TX3 : u_T := fun k => match k with
  | 0 => ("SpatialPoints$Rebuilder", "points", "LSpatialPoints$Points;", true)
  | 1 => ("SpatialPoints$Rebuilder", "tree", "LSpatialPoints$Tree;", true)
  | 2 => ("SpatialPoints$Rebuilder", "statistics", "[I", true)
  | 3 => ("SpatialPoints$Rebuilder", "members", "LSpatialPoints$Numbers;", true)
  | 4 => ("SpatialPoints$Rebuilder", "taskFroms", "[I", true)
  | 5 => ("SpatialPoints$Rebuilder", "taskEnds", "[I", true)
  | 6 => ("SpatialPoints$Rebuilder", "taskDepths", "[I", true)
  | 7 => ("SpatialPoints$Rebuilder", "taskSlots", "[I", true)
  | _ => ("SpatialPoints$Rebuilder", "taskCount", "I", false)
def tyX3 : Nat → FieldType := fun k => match k with
  | 0 => .object "SpatialPoints$Points"
  | 1 => .object "SpatialPoints$Tree"
  | 2 => .array .int
  | 3 => .object "SpatialPoints$Numbers"
  | 4 => .array .int
  | 5 => .array .int
  | 6 => .array .int
  | 7 => .array .int
  | _ => .int
abbrev wsX30 : List Cond := u_ws RX3 TX3 9
theorem nmX3 : ∀ a, a < 9 → ∀ b, b < 9 → a ≠ b → (TX3 a).2.1 ≠ (TX3 b).2.1 := by decide +kernel
theorem tyX3_ok : ∀ k, k < 9 → parseFieldDescriptor (TX3 k).2.2.1 = some (tyX3 k) := by decide +kernel
abbrev cX3_init : ByteArray := prog_5_method_1_code
def yX3_init : MethodName := ⟨RX3, "<init>", "(LSpatialPoints$Points;LSpatialPoints$Tree;)V"⟩
abbrev cX3_rebuildAt : ByteArray := prog_5_method_2_code
def yX3_rebuildAt : MethodName := ⟨RX3, "rebuildAt", "(II)V"⟩
abbrev cX3_gatherMembers : ByteArray := prog_5_method_3_code
def yX3_gatherMembers : MethodName := ⟨RX3, "gatherMembers", "(I)V"⟩
abbrev cX3_addTask : ByteArray := prog_5_method_4_code
def yX3_addTask : MethodName := ⟨RX3, "addTask", "(IIII)V"⟩
abbrev cX3_doTask : ByteArray := prog_5_method_5_code
def yX3_doTask : MethodName := ⟨RX3, "doTask", "(I)V"⟩
abbrev cX3_sortMembers : ByteArray := prog_5_method_6_code
def yX3_sortMembers : MethodName := ⟨RX3, "sortMembers", "(III)V"⟩
abbrev cX3_copyFrom : ByteArray := prog_5_method_7_code
def yX3_copyFrom : MethodName := ⟨RX3, "copyFrom", "(LSpatialPoints$Rebuilder;)V"⟩
def RX4 : String := "SpatialPoints$Search"
def TX4 : u_T := fun k => match k with
  | 0 => ("SpatialPoints$Search", "points", "LSpatialPoints$Points;", true)
  | 1 => ("SpatialPoints$Search", "tree", "LSpatialPoints$Tree;", true)
  | 2 => ("SpatialPoints$Search", "settings", "LSpatialPoints$Settings;", true)
  | 3 => ("SpatialPoints$Search", "found", "LSpatialPoints$Numbers;", true)
  | 4 => ("SpatialPoints$Search", "distances", "[I", true)
  | 5 => ("SpatialPoints$Search", "labels", "[I", true)
  | 6 => ("SpatialPoints$Search", "waiting", "LSpatialPoints$Numbers;", true)
  | 7 => ("SpatialPoints$Search", "pairFirst", "I", false)
  | 8 => ("SpatialPoints$Search", "pairSecond", "I", false)
  | _ => ("SpatialPoints$Search", "pairDistance", "I", false)
def tyX4 : Nat → FieldType := fun k => match k with
  | 0 => .object "SpatialPoints$Points"
  | 1 => .object "SpatialPoints$Tree"
  | 2 => .object "SpatialPoints$Settings"
  | 3 => .object "SpatialPoints$Numbers"
  | 4 => .array .int
  | 5 => .array .int
  | 6 => .object "SpatialPoints$Numbers"
  | 7 => .int
  | 8 => .int
  | _ => .int
abbrev wsX40 : List Cond := u_ws RX4 TX4 10
theorem nmX4 : ∀ a, a < 10 → ∀ b, b < 10 → a ≠ b → (TX4 a).2.1 ≠ (TX4 b).2.1 := by decide +kernel
theorem tyX4_ok : ∀ k, k < 10 → parseFieldDescriptor (TX4 k).2.2.1 = some (tyX4 k) := by decide +kernel
abbrev cX4_init : ByteArray := prog_6_method_1_code
def yX4_init : MethodName := ⟨RX4, "<init>", "(LSpatialPoints$State;)V"⟩
abbrev cX4_isVisible : ByteArray := prog_6_method_2_code
def yX4_isVisible : MethodName := ⟨RX4, "isVisible", "(I)Z"⟩
abbrev cX4_countVisible : ByteArray := prog_6_method_3_code
def yX4_countVisible : MethodName := ⟨RX4, "countVisible", "()I"⟩
abbrev cX4_between : ByteArray := prog_6_method_4_code
def yX4_between : MethodName := ⟨RX4, "between", "(II)I"⟩
abbrev cX4_fromQuery : ByteArray := prog_6_method_5_code
def yX4_fromQuery : MethodName := ⟨RX4, "fromQuery", "(I)I"⟩
abbrev cX4_fromQueryToBox : ByteArray := prog_6_method_6_code
def yX4_fromQueryToBox : MethodName := ⟨RX4, "fromQueryToBox", "(I)I"⟩
abbrev cX4_gapOn : ByteArray := prog_6_method_7_code
def yX4_gapOn : MethodName := ⟨RX4, "gapOn", "(II)I"⟩
abbrev cX4_measureVisible : ByteArray := prog_6_method_8_code
def yX4_measureVisible : MethodName := ⟨RX4, "measureVisible", "()V"⟩
abbrev cX4_nearestAt : ByteArray := prog_6_method_9_code
def yX4_nearestAt : MethodName := ⟨RX4, "nearestAt", "(I)I"⟩
abbrev cX4_rankOf : ByteArray := prog_6_method_10_code
def yX4_rankOf : MethodName := ⟨RX4, "rankOf", "(I)I"⟩
abbrev cX4_farthestPoint : ByteArray := prog_6_method_11_code
def yX4_farthestPoint : MethodName := ⟨RX4, "farthestPoint", "()I"⟩
abbrev cX4_countWithin : ByteArray := prog_6_method_12_code
def yX4_countWithin : MethodName := ⟨RX4, "countWithin", "(I)I"⟩
abbrev cX4_influenceWithin : ByteArray := prog_6_method_13_code
def yX4_influenceWithin : MethodName := ⟨RX4, "influenceWithin", "(I)D"⟩
abbrev cX4_findClosestPair : ByteArray := prog_6_method_14_code
def yX4_findClosestPair : MethodName := ⟨RX4, "findClosestPair", "()V"⟩
abbrev cX4_offerPair : ByteArray := prog_6_method_15_code
def yX4_offerPair : MethodName := ⟨RX4, "offerPair", "(II)V"⟩
abbrev cX4_countFollowers : ByteArray := prog_6_method_16_code
def yX4_countFollowers : MethodName := ⟨RX4, "countFollowers", "(I)I"⟩
abbrev cX4_nearestOther : ByteArray := prog_6_method_17_code
def yX4_nearestOther : MethodName := ⟨RX4, "nearestOther", "(I)I"⟩
abbrev cX4_labelClusters : ByteArray := prog_6_method_18_code
def yX4_labelClusters : MethodName := ⟨RX4, "labelClusters", "(I)I"⟩
abbrev cX4_spreadLabel : ByteArray := prog_6_method_19_code
def yX4_spreadLabel : MethodName := ⟨RX4, "spreadLabel", "(II)V"⟩
abbrev cX4_labelNeighbours : ByteArray := prog_6_method_20_code
def yX4_labelNeighbours : MethodName := ⟨RX4, "labelNeighbours", "(III)V"⟩
abbrev cX4_firstOfCluster : ByteArray := prog_6_method_21_code
def yX4_firstOfCluster : MethodName := ⟨RX4, "firstOfCluster", "(I)I"⟩
abbrev cX4_gatherBox : ByteArray := prog_6_method_22_code
def yX4_gatherBox : MethodName := ⟨RX4, "gatherBox", "()I"⟩
abbrev cX4_isInBox : ByteArray := prog_6_method_23_code
def yX4_isInBox : MethodName := ⟨RX4, "isInBox", "(I)Z"⟩
abbrev cX4_weightOfFound : ByteArray := prog_6_method_24_code
def yX4_weightOfFound : MethodName := ⟨RX4, "weightOfFound", "()I"⟩
abbrev cX4_momentOfFound : ByteArray := prog_6_method_25_code
def yX4_momentOfFound : MethodName := ⟨RX4, "momentOfFound", "(I)I"⟩
abbrev cX4_countVisits : ByteArray := prog_6_method_26_code
def yX4_countVisits : MethodName := ⟨RX4, "countVisits", "()I"⟩
abbrev cX4_meetsBox : ByteArray := prog_6_method_27_code
def yX4_meetsBox : MethodName := ⟨RX4, "meetsBox", "(I)Z"⟩
def RX5 : String := "SpatialPoints$Settings"
def TX5 : u_T := fun k => match k with
  | 0 => ("SpatialPoints$Settings", "options", "[I", true)
  | 1 => ("SpatialPoints$Settings", "queryPoint", "[I", true)
  | 2 => ("SpatialPoints$Settings", "lowerCorner", "[I", true)
  | 3 => ("SpatialPoints$Settings", "upperCorner", "[I", true)
  | _ => ("SpatialPoints$Settings", "exclusions", "[I", true)
def tyX5 : Nat → FieldType := fun k => match k with
  | 0 => .array .int
  | 1 => .array .int
  | 2 => .array .int
  | 3 => .array .int
  | _ => .array .int
abbrev wsX50 : List Cond := u_ws RX5 TX5 5
theorem nmX5 : ∀ a, a < 5 → ∀ b, b < 5 → a ≠ b → (TX5 a).2.1 ≠ (TX5 b).2.1 := by decide +kernel
theorem tyX5_ok : ∀ k, k < 5 → parseFieldDescriptor (TX5 k).2.2.1 = some (tyX5 k) := by decide +kernel
abbrev cX5_init : ByteArray := prog_7_method_1_code
def yX5_init : MethodName := ⟨RX5, "<init>", "()V"⟩
abbrev cX5_optionValue : ByteArray := prog_7_method_2_code
def yX5_optionValue : MethodName := ⟨RX5, "optionValue", "(I)I"⟩
abbrev cX5_isExcluded : ByteArray := prog_7_method_3_code
def yX5_isExcluded : MethodName := ⟨RX5, "isExcluded", "(I)Z"⟩
abbrev cX5_metricOf : ByteArray := prog_7_method_4_code
def yX5_metricOf : MethodName := ⟨RX5, "metricOf", "(III)I"⟩
abbrev cX5_copyFrom : ByteArray := prog_7_method_5_code
def yX5_copyFrom : MethodName := ⟨RX5, "copyFrom", "(LSpatialPoints$Settings;)V"⟩
def RX6 : String := "SpatialPoints$State"
def TX6 : u_T := fun k => match k with
  | 0 => ("SpatialPoints$State", "points", "LSpatialPoints$Points;", true)
  | 1 => ("SpatialPoints$State", "tree", "LSpatialPoints$Tree;", true)
  | 2 => ("SpatialPoints$State", "rebuilder", "LSpatialPoints$Rebuilder;", true)
  | _ => ("SpatialPoints$State", "settings", "LSpatialPoints$Settings;", true)
def tyX6 : Nat → FieldType := fun k => match k with
  | 0 => .object "SpatialPoints$Points"
  | 1 => .object "SpatialPoints$Tree"
  | 2 => .object "SpatialPoints$Rebuilder"
  | _ => .object "SpatialPoints$Settings"
abbrev wsX60 : List Cond := u_ws RX6 TX6 4
theorem nmX6 : ∀ a, a < 4 → ∀ b, b < 4 → a ≠ b → (TX6 a).2.1 ≠ (TX6 b).2.1 := by decide +kernel
theorem tyX6_ok : ∀ k, k < 4 → parseFieldDescriptor (TX6 k).2.2.1 = some (tyX6 k) := by decide +kernel
abbrev cX6_init : ByteArray := prog_8_method_1_code
def yX6_init : MethodName := ⟨RX6, "<init>", "()V"⟩
abbrev cX6_createPoint : ByteArray := prog_8_method_2_code
def yX6_createPoint : MethodName := ⟨RX6, "createPoint", "(IIIII)I"⟩
abbrev cX6_highestUnbalanced : ByteArray := prog_8_method_3_code
def yX6_highestUnbalanced : MethodName := ⟨RX6, "highestUnbalanced", "(I)I"⟩
abbrev cX6_isUnbalanced : ByteArray := prog_8_method_4_code
def yX6_isUnbalanced : MethodName := ⟨RX6, "isUnbalanced", "(I)Z"⟩
abbrev cX6_removePoint : ByteArray := prog_8_method_5_code
def yX6_removePoint : MethodName := ⟨RX6, "removePoint", "(I)V"⟩
abbrev cX6_copyFrom : ByteArray := prog_8_method_6_code
def yX6_copyFrom : MethodName := ⟨RX6, "copyFrom", "(LSpatialPoints$State;)V"⟩
def RX7 : String := "SpatialPoints$Text"
def TX7 : u_T := fun k => match k with
  | 0 => ("SpatialPoints$Text", "signs", "[C", true)
  | 1 => ("SpatialPoints$Text", "parts", "[I", true)
  | 2 => ("SpatialPoints$Text", "length", "I", false)
  | 3 => ("SpatialPoints$Text", "position", "I", false)
  | 4 => ("SpatialPoints$Text", "described", "I", false)
  | 5 => ("SpatialPoints$Text", "fault", "I", false)
  | _ => ("SpatialPoints$Text", "isBeyond", "Z", false)
def tyX7 : Nat → FieldType := fun k => match k with
  | 0 => .array .char
  | 1 => .array .int
  | 2 => .int
  | 3 => .int
  | 4 => .int
  | 5 => .int
  | _ => .boolean
abbrev wsX70 : List Cond := u_ws RX7 TX7 7
theorem nmX7 : ∀ a, a < 7 → ∀ b, b < 7 → a ≠ b → (TX7 a).2.1 ≠ (TX7 b).2.1 := by decide +kernel
theorem tyX7_ok : ∀ k, k < 7 → parseFieldDescriptor (TX7 k).2.2.1 = some (tyX7 k) := by decide +kernel
abbrev cX7_init : ByteArray := prog_9_method_1_code
def yX7_init : MethodName := ⟨RX7, "<init>", "()V"⟩
abbrev cX7_addSign : ByteArray := prog_9_method_2_code
def yX7_addSign : MethodName := ⟨RX7, "addSign", "(C)V"⟩
abbrev cX7_partOf : ByteArray := prog_9_method_3_code
def yX7_partOf : MethodName := ⟨RX7, "partOf", "(II)I"⟩
abbrev cX7_parse : ByteArray := prog_9_method_4_code
def yX7_parse : MethodName := ⟨RX7, "parse", "()V"⟩
abbrev cX7_parseDescription : ByteArray := prog_9_method_5_code
def yX7_parseDescription : MethodName := ⟨RX7, "parseDescription", "()V"⟩
abbrev cX7_parseCoordinate : ByteArray := prog_9_method_6_code
def yX7_parseCoordinate : MethodName := ⟨RX7, "parseCoordinate", "(I)V"⟩
abbrev cX7_putPart : ByteArray := prog_9_method_7_code
def yX7_putPart : MethodName := ⟨RX7, "putPart", "(II)V"⟩
abbrev cX7_accepts : ByteArray := prog_9_method_8_code
def yX7_accepts : MethodName := ⟨RX7, "accepts", "(C)Z"⟩
abbrev cX7_demand : ByteArray := prog_9_method_9_code
def yX7_demand : MethodName := ⟨RX7, "demand", "(C)V"⟩
abbrev cX7_markFault : ByteArray := prog_9_method_10_code
def yX7_markFault : MethodName := ⟨RX7, "markFault", "()V"⟩
abbrev cX7_parseNumber : ByteArray := prog_9_method_11_code
def yX7_parseNumber : MethodName := ⟨RX7, "parseNumber", "(I)I"⟩
abbrev cX7_hasDigit : ByteArray := prog_9_method_12_code
def yX7_hasDigit : MethodName := ⟨RX7, "hasDigit", "()Z"⟩
abbrev cX7_hasSign : ByteArray := prog_9_method_13_code
def yX7_hasSign : MethodName := ⟨RX7, "hasSign", "()Z"⟩
def RX8 : String := "SpatialPoints$Tree"
def TX8 : u_T := fun k => match k with
  | 0 => ("SpatialPoints$Tree", "points", "LSpatialPoints$Points;", true)
  | 1 => ("SpatialPoints$Tree", "links", "[I", true)
  | 2 => ("SpatialPoints$Tree", "parents", "[I", true)
  | 3 => ("SpatialPoints$Tree", "depths", "[I", true)
  | 4 => ("SpatialPoints$Tree", "sizes", "[I", true)
  | 5 => ("SpatialPoints$Tree", "liveSizes", "[I", true)
  | 6 => ("SpatialPoints$Tree", "lows", "[I", true)
  | 7 => ("SpatialPoints$Tree", "highs", "[I", true)
  | 8 => ("SpatialPoints$Tree", "positions", "[I", true)
  | 9 => ("SpatialPoints$Tree", "preorder", "LSpatialPoints$Numbers;", true)
  | 10 => ("SpatialPoints$Tree", "waiting", "LSpatialPoints$Numbers;", true)
  | _ => ("SpatialPoints$Tree", "top", "I", false)
def tyX8 : Nat → FieldType := fun k => match k with
  | 0 => .object "SpatialPoints$Points"
  | 1 => .array .int
  | 2 => .array .int
  | 3 => .array .int
  | 4 => .array .int
  | 5 => .array .int
  | 6 => .array .int
  | 7 => .array .int
  | 8 => .array .int
  | 9 => .object "SpatialPoints$Numbers"
  | 10 => .object "SpatialPoints$Numbers"
  | _ => .int
abbrev wsX80 : List Cond := u_ws RX8 TX8 12
theorem nmX8 : ∀ a, a < 12 → ∀ b, b < 12 → a ≠ b → (TX8 a).2.1 ≠ (TX8 b).2.1 := by decide +kernel
theorem tyX8_ok : ∀ k, k < 12 → parseFieldDescriptor (TX8 k).2.2.1 = some (tyX8 k) := by decide +kernel
abbrev cX8_init : ByteArray := prog_10_method_1_code
def yX8_init : MethodName := ⟨RX8, "<init>", "(LSpatialPoints$Points;)V"⟩
abbrev cX8_contains : ByteArray := prog_10_method_2_code
def yX8_contains : MethodName := ⟨RX8, "contains", "(I)Z"⟩
abbrev cX8_childOf : ByteArray := prog_10_method_3_code
def yX8_childOf : MethodName := ⟨RX8, "childOf", "(II)I"⟩
abbrev cX8_sizeOf : ByteArray := prog_10_method_4_code
def yX8_sizeOf : MethodName := ⟨RX8, "sizeOf", "(I)I"⟩
abbrev cX8_liveSizeOf : ByteArray := prog_10_method_5_code
def yX8_liveSizeOf : MethodName := ⟨RX8, "liveSizeOf", "(I)I"⟩
abbrev cX8_lowOf : ByteArray := prog_10_method_6_code
def yX8_lowOf : MethodName := ⟨RX8, "lowOf", "(II)I"⟩
abbrev cX8_highOf : ByteArray := prog_10_method_7_code
def yX8_highOf : MethodName := ⟨RX8, "highOf", "(II)I"⟩
abbrev cX8_greatestDepth : ByteArray := prog_10_method_8_code
def yX8_greatestDepth : MethodName := ⟨RX8, "greatestDepth", "()I"⟩
abbrev cX8_slotOf : ByteArray := prog_10_method_9_code
def yX8_slotOf : MethodName := ⟨RX8, "slotOf", "(I)I"⟩
abbrev cX8_hang : ByteArray := prog_10_method_10_code
def yX8_hang : MethodName := ⟨RX8, "hang", "(II)V"⟩
abbrev cX8_addLeaf : ByteArray := prog_10_method_11_code
def yX8_addLeaf : MethodName := ⟨RX8, "addLeaf", "(I)V"⟩
abbrev cX8_canMove : ByteArray := prog_10_method_12_code
def yX8_canMove : MethodName := ⟨RX8, "canMove", "(III)Z"⟩
abbrev cX8_move : ByteArray := prog_10_method_13_code
def yX8_move : MethodName := ⟨RX8, "move", "(III)V"⟩
abbrev cX8_refresh : ByteArray := prog_10_method_14_code
def yX8_refresh : MethodName := ⟨RX8, "refresh", "()V"⟩
abbrev cX8_listPreorder : ByteArray := prog_10_method_15_code
def yX8_listPreorder : MethodName := ⟨RX8, "listPreorder", "()V"⟩
abbrev cX8_reach : ByteArray := prog_10_method_16_code
def yX8_reach : MethodName := ⟨RX8, "reach", "(II)V"⟩
abbrev cX8_summarise : ByteArray := prog_10_method_17_code
def yX8_summarise : MethodName := ⟨RX8, "summarise", "(I)V"⟩
abbrev cX8_copyFrom : ByteArray := prog_10_method_18_code
def yX8_copyFrom : MethodName := ⟨RX8, "copyFrom", "(LSpatialPoints$Tree;)V"⟩
def RX9 : String := "SpatialPoints"
def TX9 : u_T := fun k => match k with
  | 0 => ("SpatialPoints", "state", "LSpatialPoints$State;", true)
  | 1 => ("SpatialPoints", "snapshot", "LSpatialPoints$State;", true)
  | 2 => ("SpatialPoints", "search", "LSpatialPoints$Search;", true)
  | 3 => ("SpatialPoints", "cursor", "LSpatialPoints$Cursor;", true)
  | 4 => ("SpatialPoints", "text", "LSpatialPoints$Text;", true)
  | _ => ("SpatialPoints", "saved", "Z", false)
def tyX9 : Nat → FieldType := fun k => match k with
  | 0 => .object "SpatialPoints$State"
  | 1 => .object "SpatialPoints$State"
  | 2 => .object "SpatialPoints$Search"
  | 3 => .object "SpatialPoints$Cursor"
  | 4 => .object "SpatialPoints$Text"
  | _ => .boolean
abbrev wsX90 : List Cond := u_ws RX9 TX9 6
theorem nmX9 : ∀ a, a < 6 → ∀ b, b < 6 → a ≠ b → (TX9 a).2.1 ≠ (TX9 b).2.1 := by decide +kernel
theorem tyX9_ok : ∀ k, k < 6 → parseFieldDescriptor (TX9 k).2.2.1 = some (tyX9 k) := by decide +kernel
abbrev cX9_init : ByteArray := prog_1_method_1_code
def yX9_init : MethodName := ⟨RX9, "<init>", "()V"⟩
abbrev cX9_insert : ByteArray := prog_1_method_2_code
def yX9_insert : MethodName := ⟨RX9, "insert", "(IIIII)I"⟩
abbrev cX9_remove : ByteArray := prog_1_method_3_code
def yX9_remove : MethodName := ⟨RX9, "remove", "(I)I"⟩
abbrev cX9_isLive : ByteArray := prog_1_method_4_code
def yX9_isLive : MethodName := ⟨RX9, "isLive", "(I)Z"⟩
abbrev cX9_coordinate : ByteArray := prog_1_method_5_code
def yX9_coordinate : MethodName := ⟨RX9, "coordinate", "(II)I"⟩
abbrev cX9_weight : ByteArray := prog_1_method_6_code
def yX9_weight : MethodName := ⟨RX9, "weight", "(I)I"⟩
abbrev cX9_tag : ByteArray := prog_1_method_7_code
def yX9_tag : MethodName := ⟨RX9, "tag", "(I)I"⟩
abbrev cX9_label : ByteArray := prog_1_method_8_code
def yX9_label : MethodName := ⟨RX9, "label", "(III)I"⟩
abbrev cX9_shift : ByteArray := prog_1_method_9_code
def yX9_shift : MethodName := ⟨RX9, "shift", "(III)I"⟩
abbrev cX9_root : ByteArray := prog_1_method_10_code
def yX9_root : MethodName := ⟨RX9, "root", "()I"⟩
abbrev cX9_child : ByteArray := prog_1_method_11_code
def yX9_child : MethodName := ⟨RX9, "child", "(II)I"⟩
abbrev cX9_parent : ByteArray := prog_1_method_12_code
def yX9_parent : MethodName := ⟨RX9, "parent", "(I)I"⟩
abbrev cX9_depth : ByteArray := prog_1_method_13_code
def yX9_depth : MethodName := ⟨RX9, "depth", "(I)I"⟩
abbrev cX9_height : ByteArray := prog_1_method_14_code
def yX9_height : MethodName := ⟨RX9, "height", "()I"⟩
abbrev cX9_subtree : ByteArray := prog_1_method_15_code
def yX9_subtree : MethodName := ⟨RX9, "subtree", "(II)I"⟩
abbrev cX9_count : ByteArray := prog_1_method_16_code
def yX9_count : MethodName := ⟨RX9, "count", "(I)I"⟩
abbrev cX9_bound : ByteArray := prog_1_method_17_code
def yX9_bound : MethodName := ⟨RX9, "bound", "(III)I"⟩
abbrev cX9_setOption : ByteArray := prog_1_method_18_code
def yX9_setOption : MethodName := ⟨RX9, "setOption", "(II)I"⟩
abbrev cX9_rebuild : ByteArray := prog_1_method_19_code
def yX9_rebuild : MethodName := ⟨RX9, "rebuild", "()I"⟩
abbrev cX9_rebuilds : ByteArray := prog_1_method_20_code
def yX9_rebuilds : MethodName := ⟨RX9, "rebuilds", "(I)I"⟩
abbrev cX9_query : ByteArray := prog_1_method_21_code
def yX9_query : MethodName := ⟨RX9, "query", "(III)V"⟩
abbrev cX9_exclude : ByteArray := prog_1_method_22_code
def yX9_exclude : MethodName := ⟨RX9, "exclude", "(IZ)Z"⟩
abbrev cX9_distance : ByteArray := prog_1_method_23_code
def yX9_distance : MethodName := ⟨RX9, "distance", "(I)I"⟩
abbrev cX9_boxDistance : ByteArray := prog_1_method_24_code
def yX9_boxDistance : MethodName := ⟨RX9, "boxDistance", "(I)I"⟩
abbrev cX9_nearest : ByteArray := prog_1_method_25_code
def yX9_nearest : MethodName := ⟨RX9, "nearest", "(I)I"⟩
abbrev cX9_farthest : ByteArray := prog_1_method_26_code
def yX9_farthest : MethodName := ⟨RX9, "farthest", "()I"⟩
abbrev cX9_within : ByteArray := prog_1_method_27_code
def yX9_within : MethodName := ⟨RX9, "within", "(I)I"⟩
abbrev cX9_influence : ByteArray := prog_1_method_28_code
def yX9_influence : MethodName := ⟨RX9, "influence", "(I)D"⟩
abbrev cX9_closestPair : ByteArray := prog_1_method_29_code
def yX9_closestPair : MethodName := ⟨RX9, "closestPair", "(I)I"⟩
abbrev cX9_followers : ByteArray := prog_1_method_30_code
def yX9_followers : MethodName := ⟨RX9, "followers", "(I)I"⟩
abbrev cX9_clusters : ByteArray := prog_1_method_31_code
def yX9_clusters : MethodName := ⟨RX9, "clusters", "(I)I"⟩
abbrev cX9_clusterOf : ByteArray := prog_1_method_32_code
def yX9_clusterOf : MethodName := ⟨RX9, "clusterOf", "(II)I"⟩
abbrev cX9_corner : ByteArray := prog_1_method_33_code
def yX9_corner : MethodName := ⟨RX9, "corner", "(IIII)V"⟩
abbrev cX9_inBox : ByteArray := prog_1_method_34_code
def yX9_inBox : MethodName := ⟨RX9, "inBox", "()I"⟩
abbrev cX9_boxPoint : ByteArray := prog_1_method_35_code
def yX9_boxPoint : MethodName := ⟨RX9, "boxPoint", "(I)I"⟩
abbrev cX9_boxWeight : ByteArray := prog_1_method_36_code
def yX9_boxWeight : MethodName := ⟨RX9, "boxWeight", "()I"⟩
abbrev cX9_center : ByteArray := prog_1_method_37_code
def yX9_center : MethodName := ⟨RX9, "center", "(I)D"⟩
abbrev cX9_visits : ByteArray := prog_1_method_38_code
def yX9_visits : MethodName := ⟨RX9, "visits", "()I"⟩
abbrev cX9_open : ByteArray := prog_1_method_39_code
def yX9_open : MethodName := ⟨RX9, "open", "(I)I"⟩
abbrev cX9_hasNext : ByteArray := prog_1_method_40_code
def yX9_hasNext : MethodName := ⟨RX9, "hasNext", "()Z"⟩
abbrev cX9_next : ByteArray := prog_1_method_41_code
def yX9_next : MethodName := ⟨RX9, "next", "()I"⟩
abbrev cX9_append : ByteArray := prog_1_method_42_code
def yX9_append : MethodName := ⟨RX9, "append", "(C)V"⟩
abbrev cX9_read : ByteArray := prog_1_method_43_code
def yX9_read : MethodName := ⟨RX9, "read", "()I"⟩
abbrev cX9_faultPosition : ByteArray := prog_1_method_44_code
def yX9_faultPosition : MethodName := ⟨RX9, "faultPosition", "()I"⟩
abbrev cX9_save : ByteArray := prog_1_method_45_code
def yX9_save : MethodName := ⟨RX9, "save", "()V"⟩
abbrev cX9_restore : ByteArray := prog_1_method_46_code
def yX9_restore : MethodName := ⟨RX9, "restore", "()V"⟩
abbrev cX9_requirePoint : ByteArray := prog_1_method_47_code
def yX9_requirePoint : MethodName := ⟨RX9, "requirePoint", "(I)V"⟩
abbrev cX9_requireNode : ByteArray := prog_1_method_48_code
def yX9_requireNode : MethodName := ⟨RX9, "requireNode", "(I)V"⟩
abbrev cX9_requireBox : ByteArray := prog_1_method_49_code
def yX9_requireBox : MethodName := ⟨RX9, "requireBox", "(I)V"⟩
abbrev cX9_requireVisible : ByteArray := prog_1_method_50_code
def yX9_requireVisible : MethodName := ⟨RX9, "requireVisible", "(I)V"⟩
abbrev cX9_requireAxis : ByteArray := prog_1_method_51_code
def yX9_requireAxis : MethodName := ⟨RX9, "requireAxis", "(I)V"⟩
abbrev cX9_requireCursor : ByteArray := prog_1_method_52_code
def yX9_requireCursor : MethodName := ⟨RX9, "requireCursor", "()V"⟩
abbrev cX9_isWithin : ByteArray := prog_1_method_53_code
def yX9_isWithin : MethodName := ⟨RX9, "isWithin", "(II)Z"⟩
abbrev cX9_isPlace : ByteArray := prog_1_method_54_code
def yX9_isPlace : MethodName := ⟨RX9, "isPlace", "(III)Z"⟩
abbrev cX9_isLabel : ByteArray := prog_1_method_55_code
def yX9_isLabel : MethodName := ⟨RX9, "isLabel", "(II)Z"⟩
abbrev cX9_valueAt : ByteArray := prog_1_method_56_code
def yX9_valueAt : MethodName := ⟨RX9, "valueAt", "([II)I"⟩
abbrev cX9_put : ByteArray := prog_1_method_57_code
def yX9_put : MethodName := ⟨RX9, "put", "([III)V"⟩
abbrev cX9_putPlace : ByteArray := prog_1_method_58_code
def yX9_putPlace : MethodName := ⟨RX9, "putPlace", "([IIII)V"⟩
abbrev cX9_copyRow : ByteArray := prog_1_method_59_code
def yX9_copyRow : MethodName := ⟨RX9, "copyRow", "([I[I)V"⟩
def RX10 : String := "SpatialPointsModel"
def TX10 : u_T := fun k => match k with
  | 0 => ("SpatialPointsModel", "g", "[I", true)
  | 1 => ("SpatialPointsModel", "kept", "[I", true)
  | 2 => ("SpatialPointsModel", "hasKept", "Z", false)
  | 3 => ("SpatialPointsModel", "thrown", "I", false)
  | 4 => ("SpatialPointsModel", "row", "[I", true)
  | 5 => ("SpatialPointsModel", "rows", "I", false)
  | 6 => ("SpatialPointsModel", "cluster", "[I", true)
  | 7 => ("SpatialPointsModel", "shown", "[I", true)
  | 8 => ("SpatialPointsModel", "isCursor", "Z", false)
  | 9 => ("SpatialPointsModel", "goes", "[I", true)
  | 10 => ("SpatialPointsModel", "many", "I", false)
  | 11 => ("SpatialPointsModel", "at", "I", false)
  | 12 => ("SpatialPointsModel", "text", "[I", true)
  | 13 => ("SpatialPointsModel", "length", "I", false)
  | 14 => ("SpatialPointsModel", "spot", "I", false)
  | 15 => ("SpatialPointsModel", "value", "I", false)
  | 16 => ("SpatialPointsModel", "fault", "I", false)
  | 17 => ("SpatialPointsModel", "told", "[I", true)
  | _ => ("SpatialPointsModel", "tolds", "I", false)
def tyX10 : Nat → FieldType := fun k => match k with
  | 0 => .array .int
  | 1 => .array .int
  | 2 => .boolean
  | 3 => .int
  | 4 => .array .int
  | 5 => .int
  | 6 => .array .int
  | 7 => .array .int
  | 8 => .boolean
  | 9 => .array .int
  | 10 => .int
  | 11 => .int
  | 12 => .array .int
  | 13 => .int
  | 14 => .int
  | 15 => .int
  | 16 => .int
  | 17 => .array .int
  | _ => .int
abbrev wsX100 : List Cond := u_ws RX10 TX10 19
theorem nmX10 : ∀ a, a < 19 → ∀ b, b < 19 → a ≠ b → (TX10 a).2.1 ≠ (TX10 b).2.1 := by decide +kernel
theorem tyX10_ok : ∀ k, k < 19 → parseFieldDescriptor (TX10 k).2.2.1 = some (tyX10 k) := by decide +kernel
abbrev cX10_init : ByteArray := prog_12_method_1_code
def yX10_init : MethodName := ⟨RX10, "<init>", "()V"⟩
abbrev cX10_thrown : ByteArray := prog_12_method_2_code
def yX10_thrown : MethodName := ⟨RX10, "thrown", "()I"⟩
abbrev cX10_fails : ByteArray := prog_12_method_3_code
def yX10_fails : MethodName := ⟨RX10, "fails", "(I)I"⟩
abbrev cX10_in : ByteArray := prog_12_method_4_code
def yX10_in : MethodName := ⟨RX10, "in", "(III)Z"⟩
abbrev cX10_isAxis : ByteArray := prog_12_method_5_code
def yX10_isAxis : MethodName := ⟨RX10, "isAxis", "(I)Z"⟩
abbrev cX10_isPlace : ByteArray := prog_12_method_6_code
def yX10_isPlace : MethodName := ⟨RX10, "isPlace", "(III)Z"⟩
abbrev cX10_isPoint : ByteArray := prog_12_method_7_code
def yX10_isPoint : MethodName := ⟨RX10, "isPoint", "(I)Z"⟩
abbrev cX10_isAlive : ByteArray := prog_12_method_8_code
def yX10_isAlive : MethodName := ⟨RX10, "isAlive", "(I)Z"⟩
abbrev cX10_isThere : ByteArray := prog_12_method_9_code
def yX10_isThere : MethodName := ⟨RX10, "isThere", "(I)Z"⟩
abbrev cX10_isSeen : ByteArray := prog_12_method_10_code
def yX10_isSeen : MethodName := ⟨RX10, "isSeen", "(I)Z"⟩
abbrev cX10_lives : ByteArray := prog_12_method_11_code
def yX10_lives : MethodName := ⟨RX10, "lives", "()I"⟩
abbrev cX10_nodes : ByteArray := prog_12_method_12_code
def yX10_nodes : MethodName := ⟨RX10, "nodes", "()I"⟩
abbrev cX10_deadNodes : ByteArray := prog_12_method_13_code
def yX10_deadNodes : MethodName := ⟨RX10, "deadNodes", "()I"⟩
abbrev cX10_seen : ByteArray := prog_12_method_14_code
def yX10_seen : MethodName := ⟨RX10, "seen", "()I"⟩
abbrev cX10_isBefore : ByteArray := prog_12_method_15_code
def yX10_isBefore : MethodName := ⟨RX10, "isBefore", "(III)Z"⟩
abbrev cX10_sizeOf : ByteArray := prog_12_method_16_code
def yX10_sizeOf : MethodName := ⟨RX10, "sizeOf", "(I)I"⟩
abbrev cX10_livesOf : ByteArray := prog_12_method_17_code
def yX10_livesOf : MethodName := ⟨RX10, "livesOf", "(I)I"⟩
abbrev cX10_depthOf : ByteArray := prog_12_method_18_code
def yX10_depthOf : MethodName := ⟨RX10, "depthOf", "(I)I"⟩
abbrev cX10_heightOf : ByteArray := prog_12_method_19_code
def yX10_heightOf : MethodName := ⟨RX10, "heightOf", "(I)I"⟩
abbrev cX10_gathers : ByteArray := prog_12_method_20_code
def yX10_gathers : MethodName := ⟨RX10, "gathers", "(I)V"⟩
abbrev cX10_sorts : ByteArray := prog_12_method_21_code
def yX10_sorts : MethodName := ⟨RX10, "sorts", "(III)V"⟩
abbrev cX10_builds : ByteArray := prog_12_method_22_code
def yX10_builds : MethodName := ⟨RX10, "builds", "(IIII)I"⟩
abbrev cX10_anew : ByteArray := prog_12_method_23_code
def yX10_anew : MethodName := ⟨RX10, "anew", "(I)V"⟩
abbrev cX10_isUneven : ByteArray := prog_12_method_24_code
def yX10_isUneven : MethodName := ⟨RX10, "isUneven", "(I)Z"⟩
abbrev cX10_next : ByteArray := prog_12_method_25_code
def yX10_next : MethodName := ⟨RX10, "next", "(III)I"⟩
abbrev cX10_hangs : ByteArray := prog_12_method_26_code
def yX10_hangs : MethodName := ⟨RX10, "hangs", "(I)V"⟩
abbrev cX10_comes : ByteArray := prog_12_method_27_code
def yX10_comes : MethodName := ⟨RX10, "comes", "(IIIII)I"⟩
abbrev cX10_insert : ByteArray := prog_12_method_28_code
def yX10_insert : MethodName := ⟨RX10, "insert", "(IIIII)I"⟩
abbrev cX10_remove : ByteArray := prog_12_method_29_code
def yX10_remove : MethodName := ⟨RX10, "remove", "(I)I"⟩
abbrev cX10_isLive : ByteArray := prog_12_method_30_code
def yX10_isLive : MethodName := ⟨RX10, "isLive", "(I)Z"⟩
abbrev cX10_coordinate : ByteArray := prog_12_method_31_code
def yX10_coordinate : MethodName := ⟨RX10, "coordinate", "(II)I"⟩
abbrev cX10_weight : ByteArray := prog_12_method_32_code
def yX10_weight : MethodName := ⟨RX10, "weight", "(I)I"⟩
abbrev cX10_tag : ByteArray := prog_12_method_33_code
def yX10_tag : MethodName := ⟨RX10, "tag", "(I)I"⟩
abbrev cX10_label : ByteArray := prog_12_method_34_code
def yX10_label : MethodName := ⟨RX10, "label", "(III)I"⟩
abbrev cX10_mayShift : ByteArray := prog_12_method_35_code
def yX10_mayShift : MethodName := ⟨RX10, "mayShift", "(IIII)Z"⟩
abbrev cX10_shift : ByteArray := prog_12_method_36_code
def yX10_shift : MethodName := ⟨RX10, "shift", "(III)I"⟩
abbrev cX10_root : ByteArray := prog_12_method_37_code
def yX10_root : MethodName := ⟨RX10, "root", "()I"⟩
abbrev cX10_child : ByteArray := prog_12_method_38_code
def yX10_child : MethodName := ⟨RX10, "child", "(II)I"⟩
abbrev cX10_parent : ByteArray := prog_12_method_39_code
def yX10_parent : MethodName := ⟨RX10, "parent", "(I)I"⟩
abbrev cX10_depth : ByteArray := prog_12_method_40_code
def yX10_depth : MethodName := ⟨RX10, "depth", "(I)I"⟩
abbrev cX10_height : ByteArray := prog_12_method_41_code
def yX10_height : MethodName := ⟨RX10, "height", "()I"⟩
abbrev cX10_subtree : ByteArray := prog_12_method_42_code
def yX10_subtree : MethodName := ⟨RX10, "subtree", "(II)I"⟩
abbrev cX10_count : ByteArray := prog_12_method_43_code
def yX10_count : MethodName := ⟨RX10, "count", "(I)I"⟩
abbrev cX10_less : ByteArray := prog_12_method_44_code
def yX10_less : MethodName := ⟨RX10, "less", "(II)I"⟩
abbrev cX10_more : ByteArray := prog_12_method_45_code
def yX10_more : MethodName := ⟨RX10, "more", "(II)I"⟩
abbrev cX10_lowOf : ByteArray := prog_12_method_46_code
def yX10_lowOf : MethodName := ⟨RX10, "lowOf", "(II)I"⟩
abbrev cX10_highOf : ByteArray := prog_12_method_47_code
def yX10_highOf : MethodName := ⟨RX10, "highOf", "(II)I"⟩
abbrev cX10_bound : ByteArray := prog_12_method_48_code
def yX10_bound : MethodName := ⟨RX10, "bound", "(III)I"⟩
abbrev cX10_mayBe : ByteArray := prog_12_method_49_code
def yX10_mayBe : MethodName := ⟨RX10, "mayBe", "(II)Z"⟩
abbrev cX10_setOption : ByteArray := prog_12_method_50_code
def yX10_setOption : MethodName := ⟨RX10, "setOption", "(II)I"⟩
abbrev cX10_rebuild : ByteArray := prog_12_method_51_code
def yX10_rebuild : MethodName := ⟨RX10, "rebuild", "()I"⟩
abbrev cX10_rebuilds : ByteArray := prog_12_method_52_code
def yX10_rebuilds : MethodName := ⟨RX10, "rebuilds", "(I)I"⟩
abbrev cX10_apart : ByteArray := prog_12_method_53_code
def yX10_apart : MethodName := ⟨RX10, "apart", "(II)I"⟩
abbrev cX10_by : ByteArray := prog_12_method_54_code
def yX10_by : MethodName := ⟨RX10, "by", "(III)I"⟩
abbrev cX10_far : ByteArray := prog_12_method_55_code
def yX10_far : MethodName := ⟨RX10, "far", "(I)I"⟩
abbrev cX10_between : ByteArray := prog_12_method_56_code
def yX10_between : MethodName := ⟨RX10, "between", "(II)I"⟩
abbrev cX10_query : ByteArray := prog_12_method_57_code
def yX10_query : MethodName := ⟨RX10, "query", "(III)V"⟩
abbrev cX10_exclude : ByteArray := prog_12_method_58_code
def yX10_exclude : MethodName := ⟨RX10, "exclude", "(IZ)Z"⟩
abbrev cX10_distance : ByteArray := prog_12_method_59_code
def yX10_distance : MethodName := ⟨RX10, "distance", "(I)I"⟩
abbrev cX10_beside : ByteArray := prog_12_method_60_code
def yX10_beside : MethodName := ⟨RX10, "beside", "(II)I"⟩
abbrev cX10_boxDistance : ByteArray := prog_12_method_61_code
def yX10_boxDistance : MethodName := ⟨RX10, "boxDistance", "(I)I"⟩
abbrev cX10_ahead : ByteArray := prog_12_method_62_code
def yX10_ahead : MethodName := ⟨RX10, "ahead", "(I)I"⟩
abbrev cX10_nearest : ByteArray := prog_12_method_63_code
def yX10_nearest : MethodName := ⟨RX10, "nearest", "(I)I"⟩
abbrev cX10_farthest : ByteArray := prog_12_method_64_code
def yX10_farthest : MethodName := ⟨RX10, "farthest", "()I"⟩
abbrev cX10_within : ByteArray := prog_12_method_65_code
def yX10_within : MethodName := ⟨RX10, "within", "(I)I"⟩
abbrev cX10_influence : ByteArray := prog_12_method_66_code
def yX10_influence : MethodName := ⟨RX10, "influence", "(I)D"⟩
abbrev cX10_closestPair : ByteArray := prog_12_method_67_code
def yX10_closestPair : MethodName := ⟨RX10, "closestPair", "(I)I"⟩
abbrev cX10_closestTo : ByteArray := prog_12_method_68_code
def yX10_closestTo : MethodName := ⟨RX10, "closestTo", "(I)I"⟩
abbrev cX10_followers : ByteArray := prog_12_method_69_code
def yX10_followers : MethodName := ⟨RX10, "followers", "(I)I"⟩
abbrev cX10_clustersBy : ByteArray := prog_12_method_70_code
def yX10_clustersBy : MethodName := ⟨RX10, "clustersBy", "(I)I"⟩
abbrev cX10_clusters : ByteArray := prog_12_method_71_code
def yX10_clusters : MethodName := ⟨RX10, "clusters", "(I)I"⟩
abbrev cX10_clusterOf : ByteArray := prog_12_method_72_code
def yX10_clusterOf : MethodName := ⟨RX10, "clusterOf", "(II)I"⟩
abbrev cX10_corner : ByteArray := prog_12_method_73_code
def yX10_corner : MethodName := ⟨RX10, "corner", "(IIII)V"⟩
abbrev cX10_isInBox : ByteArray := prog_12_method_74_code
def yX10_isInBox : MethodName := ⟨RX10, "isInBox", "(I)Z"⟩
abbrev cX10_boxed : ByteArray := prog_12_method_75_code
def yX10_boxed : MethodName := ⟨RX10, "boxed", "(I)I"⟩
abbrev cX10_inBox : ByteArray := prog_12_method_76_code
def yX10_inBox : MethodName := ⟨RX10, "inBox", "()I"⟩
abbrev cX10_boxPoint : ByteArray := prog_12_method_77_code
def yX10_boxPoint : MethodName := ⟨RX10, "boxPoint", "(I)I"⟩
abbrev cX10_weightInBox : ByteArray := prog_12_method_78_code
def yX10_weightInBox : MethodName := ⟨RX10, "weightInBox", "()I"⟩
abbrev cX10_boxWeight : ByteArray := prog_12_method_79_code
def yX10_boxWeight : MethodName := ⟨RX10, "boxWeight", "()I"⟩
abbrev cX10_center : ByteArray := prog_12_method_80_code
def yX10_center : MethodName := ⟨RX10, "center", "(I)D"⟩
abbrev cX10_meetsBox : ByteArray := prog_12_method_81_code
def yX10_meetsBox : MethodName := ⟨RX10, "meetsBox", "(I)Z"⟩
abbrev cX10_visitsFrom : ByteArray := prog_12_method_82_code
def yX10_visitsFrom : MethodName := ⟨RX10, "visitsFrom", "(I)I"⟩
abbrev cX10_visits : ByteArray := prog_12_method_83_code
def yX10_visits : MethodName := ⟨RX10, "visits", "()I"⟩
abbrev cX10_takes : ByteArray := prog_12_method_84_code
def yX10_takes : MethodName := ⟨RX10, "takes", "(I)V"⟩
abbrev cX10_goesBefore : ByteArray := prog_12_method_85_code
def yX10_goesBefore : MethodName := ⟨RX10, "goesBefore", "(I)V"⟩
abbrev cX10_goesBetween : ByteArray := prog_12_method_86_code
def yX10_goesBetween : MethodName := ⟨RX10, "goesBetween", "(I)V"⟩
abbrev cX10_goesLevel : ByteArray := prog_12_method_87_code
def yX10_goesLevel : MethodName := ⟨RX10, "goesLevel", "(II)V"⟩
abbrev cX10_open : ByteArray := prog_12_method_88_code
def yX10_open : MethodName := ⟨RX10, "open", "(I)I"⟩
abbrev cX10_hasNext : ByteArray := prog_12_method_89_code
def yX10_hasNext : MethodName := ⟨RX10, "hasNext", "()Z"⟩
abbrev cX10_next_ : ByteArray := prog_12_method_90_code
def yX10_next_ : MethodName := ⟨RX10, "next", "()I"⟩
abbrev cX10_append : ByteArray := prog_12_method_91_code
def yX10_append : MethodName := ⟨RX10, "append", "(C)V"⟩
abbrev cX10_here : ByteArray := prog_12_method_92_code
def yX10_here : MethodName := ⟨RX10, "here", "()I"⟩
abbrev cX10_skips : ByteArray := prog_12_method_93_code
def yX10_skips : MethodName := ⟨RX10, "skips", "(I)Z"⟩
abbrev cX10_isDigit : ByteArray := prog_12_method_94_code
def yX10_isDigit : MethodName := ⟨RX10, "isDigit", "()Z"⟩
abbrev cX10_digits : ByteArray := prog_12_method_95_code
def yX10_digits : MethodName := ⟨RX10, "digits", "(I)Z"⟩
abbrev cX10_coordinates : ByteArray := prog_12_method_96_code
def yX10_coordinates : MethodName := ⟨RX10, "coordinates", "()Z"⟩
abbrev cX10_describes : ByteArray := prog_12_method_97_code
def yX10_describes : MethodName := ⟨RX10, "describes", "()Z"⟩
abbrev cX10_faultOf : ByteArray := prog_12_method_98_code
def yX10_faultOf : MethodName := ⟨RX10, "faultOf", "()I"⟩
abbrev cX10_areInvalid : ByteArray := prog_12_method_99_code
def yX10_areInvalid : MethodName := ⟨RX10, "areInvalid", "()Z"⟩
abbrev cX10_read : ByteArray := prog_12_method_100_code
def yX10_read : MethodName := ⟨RX10, "read", "()I"⟩
abbrev cX10_faultPosition : ByteArray := prog_12_method_101_code
def yX10_faultPosition : MethodName := ⟨RX10, "faultPosition", "()I"⟩
abbrev cX10_save : ByteArray := prog_12_method_102_code
def yX10_save : MethodName := ⟨RX10, "save", "()V"⟩
abbrev cX10_restore : ByteArray := prog_12_method_103_code
def yX10_restore : MethodName := ⟨RX10, "restore", "()V"⟩
def RJx145de : String := "java/io/Serializable"
def TJx145de : u_T := fun k => match k with
  | _ => ("", "", "", false)
def tyJx145de : Nat → FieldType := fun k => match k with
  | _ => .int
abbrev wsJx145de0 : List Cond := u_ws RJx145de TJx145de 0
theorem nmJx145de : ∀ a, a < 0 → ∀ b, b < 0 → a ≠ b → (TJx145de a).2.1 ≠ (TJx145de b).2.1 := by decide +kernel
theorem tyJx145de_ok : ∀ k, k < 0 → parseFieldDescriptor (TJx145de k).2.2.1 = some (tyJx145de k) := by decide +kernel
def RJx00060 : String := "java/lang/ArrayIndexOutOfBoundsException"
def TJx00060 : u_T := fun k => match k with
  | 0 => ("java/lang/Throwable", "backtrace", "Ljava/lang/Object;", false)
  | 1 => ("java/lang/Throwable", "detailMessage", "Ljava/lang/String;", false)
  | 2 => ("java/lang/Throwable", "cause", "Ljava/lang/Throwable;", false)
  | 3 => ("java/lang/Throwable", "stackTrace", "[Ljava/lang/StackTraceElement;", false)
  | 4 => ("java/lang/Throwable", "depth", "I", false)
  | _ => ("java/lang/Throwable", "suppressedExceptions", "Ljava/util/List;", false)
def tyJx00060 : Nat → FieldType := fun k => match k with
  | 0 => .object "java/lang/Object"
  | 1 => .object "java/lang/String"
  | 2 => .object "java/lang/Throwable"
  | 3 => .array (.object "java/lang/StackTraceElement")
  | 4 => .int
  | _ => .object "java/util/List"
abbrev wsJx000600 : List Cond := u_ws RJx00060 TJx00060 6
theorem nmJx00060 : ∀ a, a < 6 → ∀ b, b < 6 → a ≠ b → (TJx00060 a).2.1 ≠ (TJx00060 b).2.1 := by decide +kernel
theorem tyJx00060_ok : ∀ k, k < 6 → parseFieldDescriptor (TJx00060 k).2.2.1 = some (tyJx00060 k) := by decide +kernel
abbrev cJx00060_init_a7421 : ByteArray := prog_15_method_2_code
def yJx00060_init_a7421 : MethodName := ⟨RJx00060, "<init>", "(Ljava/lang/String;)V"⟩
def RJx8e188 : String := "java/lang/Cloneable"
def TJx8e188 : u_T := fun k => match k with
  | _ => ("", "", "", false)
def tyJx8e188 : Nat → FieldType := fun k => match k with
  | _ => .int
abbrev wsJx8e1880 : List Cond := u_ws RJx8e188 TJx8e188 0
theorem nmJx8e188 : ∀ a, a < 0 → ∀ b, b < 0 → a ≠ b → (TJx8e188 a).2.1 ≠ (TJx8e188 b).2.1 := by decide +kernel
theorem tyJx8e188_ok : ∀ k, k < 0 → parseFieldDescriptor (TJx8e188 k).2.2.1 = some (tyJx8e188 k) := by decide +kernel
def RJ9 : String := "java/lang/Math"
def TJ9 : u_T := fun k => match k with
  | _ => ("", "", "", false)
def tyJ9 : Nat → FieldType := fun k => match k with
  | _ => .int
abbrev wsJ90 : List Cond := u_ws RJ9 TJ9 0
theorem nmJ9 : ∀ a, a < 0 → ∀ b, b < 0 → a ≠ b → (TJ9 a).2.1 ≠ (TJ9 b).2.1 := by decide +kernel
theorem tyJ9_ok : ∀ k, k < 0 → parseFieldDescriptor (TJ9 k).2.2.1 = some (tyJ9 k) := by decide +kernel
abbrev cJ9_abs_0f7a4 : ByteArray := prog_21_method_59_code
def yJ9_abs_0f7a4 : MethodName := ⟨RJ9, "abs", "(I)I"⟩
abbrev cJ9_max_7cf53 : ByteArray := prog_21_method_65_code
def yJ9_max_7cf53 : MethodName := ⟨RJ9, "max", "(II)I"⟩
abbrev cJ9_min_7cf53 : ByteArray := prog_21_method_69_code
def yJ9_min_7cf53 : MethodName := ⟨RJ9, "min", "(II)I"⟩
def RJ0 : String := "java/lang/String"
def TJ0 : u_T := fun k => match k with
  | 0 => ("java/lang/String", "value", "[B", true)
  | _ => ("java/lang/String", "coder", "B", true)
def tyJ0 : Nat → FieldType := fun k => match k with
  | 0 => .array .byte
  | _ => .byte
abbrev wsJ00 : List Cond := u_ws RJ0 TJ0 2
theorem nmJ0 : ∀ a, a < 2 → ∀ b, b < 2 → a ≠ b → (TJ0 a).2.1 ≠ (TJ0 b).2.1 := by decide +kernel
theorem tyJ0_ok : ∀ k, k < 2 → parseFieldDescriptor (TJ0 k).2.2.1 = some (tyJ0 k) := by decide +kernel
def RJ10 : String := "java/lang/System"
def TJ10 : u_T := fun k => match k with
  | _ => ("", "", "", false)
def tyJ10 : Nat → FieldType := fun k => match k with
  | _ => .int
abbrev wsJ100 : List Cond := u_ws RJ10 TJ10 0
theorem nmJ10 : ∀ a, a < 0 → ∀ b, b < 0 → a ≠ b → (TJ10 a).2.1 ≠ (TJ10 b).2.1 := by decide +kernel
theorem tyJ10_ok : ∀ k, k < 0 → parseFieldDescriptor (TJ10 k).2.2.1 = some (tyJ10 k) := by decide +kernel
def RJ7 : String := "java/util/Arrays"
def TJ7 : u_T := fun k => match k with
  | _ => ("", "", "", false)
def tyJ7 : Nat → FieldType := fun k => match k with
  | _ => .int
abbrev wsJ70 : List Cond := u_ws RJ7 TJ7 0
theorem nmJ7 : ∀ a, a < 0 → ∀ b, b < 0 → a ≠ b → (TJ7 a).2.1 ≠ (TJ7 b).2.1 := by decide +kernel
theorem tyJ7_ok : ∀ k, k < 0 → parseFieldDescriptor (TJ7 k).2.2.1 = some (tyJ7 k) := by decide +kernel
abbrev cJ7_fill_53178 : ByteArray := prog_26_method_103_code
def yJ7_fill_53178 : MethodName := ⟨RJ7, "fill", "([II)V"⟩
def RL : String := "SpatialPointsLaw"
abbrev cL_insert : ByteArray := method_3_code
def yL_insert : MethodName := ⟨RL, "insert", "(LSpatialPoints;IIIII[J)I"⟩
abbrev cL_remove : ByteArray := method_4_code
def yL_remove : MethodName := ⟨RL, "remove", "(LSpatialPoints;I[J)I"⟩
abbrev cL_coordinate : ByteArray := method_5_code
def yL_coordinate : MethodName := ⟨RL, "coordinate", "(LSpatialPoints;II[J)I"⟩
abbrev cL_weight : ByteArray := method_6_code
def yL_weight : MethodName := ⟨RL, "weight", "(LSpatialPoints;I[J)I"⟩
abbrev cL_tag : ByteArray := method_7_code
def yL_tag : MethodName := ⟨RL, "tag", "(LSpatialPoints;I[J)I"⟩
abbrev cL_label : ByteArray := method_8_code
def yL_label : MethodName := ⟨RL, "label", "(LSpatialPoints;III[J)I"⟩
abbrev cL_shift : ByteArray := method_9_code
def yL_shift : MethodName := ⟨RL, "shift", "(LSpatialPoints;III[J)I"⟩
abbrev cL_root : ByteArray := method_10_code
def yL_root : MethodName := ⟨RL, "root", "(LSpatialPoints;[J)I"⟩
abbrev cL_child : ByteArray := method_11_code
def yL_child : MethodName := ⟨RL, "child", "(LSpatialPoints;II[J)I"⟩
abbrev cL_parent : ByteArray := method_12_code
def yL_parent : MethodName := ⟨RL, "parent", "(LSpatialPoints;I[J)I"⟩
abbrev cL_depth : ByteArray := method_13_code
def yL_depth : MethodName := ⟨RL, "depth", "(LSpatialPoints;I[J)I"⟩
abbrev cL_subtree : ByteArray := method_14_code
def yL_subtree : MethodName := ⟨RL, "subtree", "(LSpatialPoints;II[J)I"⟩
abbrev cL_count : ByteArray := method_15_code
def yL_count : MethodName := ⟨RL, "count", "(LSpatialPoints;I[J)I"⟩
abbrev cL_bound : ByteArray := method_16_code
def yL_bound : MethodName := ⟨RL, "bound", "(LSpatialPoints;III[J)I"⟩
abbrev cL_setOption : ByteArray := method_17_code
def yL_setOption : MethodName := ⟨RL, "setOption", "(LSpatialPoints;II[J)I"⟩
abbrev cL_rebuilds : ByteArray := method_18_code
def yL_rebuilds : MethodName := ⟨RL, "rebuilds", "(LSpatialPoints;I[J)I"⟩
abbrev cL_query : ByteArray := method_19_code
def yL_query : MethodName := ⟨RL, "query", "(LSpatialPoints;III)I"⟩
abbrev cL_exclude : ByteArray := method_20_code
def yL_exclude : MethodName := ⟨RL, "exclude", "(LSpatialPoints;IZ[J)I"⟩
abbrev cL_distance : ByteArray := method_21_code
def yL_distance : MethodName := ⟨RL, "distance", "(LSpatialPoints;I[J)I"⟩
abbrev cL_boxDistance : ByteArray := method_22_code
def yL_boxDistance : MethodName := ⟨RL, "boxDistance", "(LSpatialPoints;I[J)I"⟩
abbrev cL_nearest : ByteArray := method_23_code
def yL_nearest : MethodName := ⟨RL, "nearest", "(LSpatialPoints;I[J)I"⟩
abbrev cL_farthest : ByteArray := method_24_code
def yL_farthest : MethodName := ⟨RL, "farthest", "(LSpatialPoints;[J)I"⟩
abbrev cL_closestPair : ByteArray := method_25_code
def yL_closestPair : MethodName := ⟨RL, "closestPair", "(LSpatialPoints;I[J)I"⟩
abbrev cL_followers : ByteArray := method_26_code
def yL_followers : MethodName := ⟨RL, "followers", "(LSpatialPoints;I[J)I"⟩
abbrev cL_clusterOf : ByteArray := method_27_code
def yL_clusterOf : MethodName := ⟨RL, "clusterOf", "(LSpatialPoints;II[J)I"⟩
abbrev cL_corner : ByteArray := method_28_code
def yL_corner : MethodName := ⟨RL, "corner", "(LSpatialPoints;IIII)I"⟩
abbrev cL_boxPoint : ByteArray := method_29_code
def yL_boxPoint : MethodName := ⟨RL, "boxPoint", "(LSpatialPoints;I[J)I"⟩
abbrev cL_center : ByteArray := method_30_code
def yL_center : MethodName := ⟨RL, "center", "(LSpatialPoints;I[D)I"⟩
abbrev cL_open : ByteArray := method_31_code
def yL_open : MethodName := ⟨RL, "open", "(LSpatialPoints;I[J)I"⟩
abbrev cL_hasNext : ByteArray := method_32_code
def yL_hasNext : MethodName := ⟨RL, "hasNext", "(LSpatialPoints;[J)I"⟩
abbrev cL_next : ByteArray := method_33_code
def yL_next : MethodName := ⟨RL, "next", "(LSpatialPoints;[J)I"⟩
abbrev cL_append : ByteArray := method_34_code
def yL_append : MethodName := ⟨RL, "append", "(LSpatialPoints;C)I"⟩
abbrev cL_read : ByteArray := method_35_code
def yL_read : MethodName := ⟨RL, "read", "(LSpatialPoints;[J)I"⟩
abbrev cL_restore : ByteArray := method_36_code
def yL_restore : MethodName := ⟨RL, "restore", "(LSpatialPoints;)I"⟩
abbrev cL_law : ByteArray := code
def yL_law : MethodName := ⟨RL, "law", "([I)Z"⟩
def wsX1_init : List Cond := .code yX1_init cX1_init 1 none :: ([.methodLink RX1 3 objectInit, .instanceMethod objectInit, .code objectInit ⟨#[0xb1]⟩ 1 none, .arrayClass .int, .fieldLink RX1 9 "SpatialPoints$Numbers" "row" "[I", .fieldLink RX1 15 "SpatialPoints$Numbers" "count" "I"] ++ wsX10)
def wsX0_init : List Cond := .code yX0_init cX0_init 2 none :: ([.methodLink RX0 3 objectInit, .instanceMethod objectInit, .code objectInit ⟨#[0xb1]⟩ 1 none, .classLink RX0 9 RX1, .instantiable RX1 2, .initialized RX1, .fieldLink RX0 12 "SpatialPoints$Cursor" "ids" "LSpatialPoints$Numbers;", .fieldLink RX0 18 "SpatialPoints$Cursor" "waiting" "LSpatialPoints$Numbers;", .fieldLink RX0 21 "SpatialPoints$Cursor" "position" "I", .fieldLink RX0 25 "SpatialPoints$Cursor" "isValid" "Z", .fieldLink RX0 29 "SpatialPoints$Cursor" "tree" "LSpatialPoints$Tree;", .instanceMethod yX1_init, .code yX1_init cX1_init 1 none, .methodLink RX1 3 objectInit, .arrayClass .int, .fieldLink RX1 9 "SpatialPoints$Numbers" "row" "[I", .fieldLink RX1 15 "SpatialPoints$Numbers" "count" "I"] ++ wsX10 ++ wsX00)
def wsX0_invalidate : List Cond := .code yX0_invalidate cX0_invalidate 1 none :: ([.fieldLink RX0 25 "SpatialPoints$Cursor" "isValid" "Z"] ++ wsX00)
def wsX0_hasMore : List Cond := .code yX0_hasMore cX0_hasMore 1 (some .boolean) :: ([.fieldLink RX0 21 "SpatialPoints$Cursor" "position" "I", .fieldLink RX0 12 "SpatialPoints$Cursor" "ids" "LSpatialPoints$Numbers;", .fieldLink RX0 33 "SpatialPoints$Numbers" "count" "I"] ++ wsX00 ++ wsX10)
/-! ===== END printed: names ===== -/
end
section
/-! THE SMALL MACHINE: whole numbers, cells by number; a method's blocks; its runs as a function -/
abbrev mV : Type := Int ⊕ (Option Nat) ⊕ Int ⊕ UInt64 ⊕ Unit
abbrev vi (x : Int) : mV := .inl x
abbrev vr (k : Nat) : mV := .inr (.inl (some k))
abbrev vn : mV := .inr (.inl none)
abbrev vl (x : Int) : mV := .inr (.inr (.inl x))
abbrev vd (x : UInt64) : mV := .inr (.inr (.inr (.inl x)))
abbrev vj : mV := .inr (.inr (.inr (.inr ())))
/-- a cell's shape: kind (0 a thing of a made type, 1 ints, 2 chars, 3 longs, 4 doubles, 5 ints that nobody writes, 6 the script), number (of the type; length), fields (none: a number) -/
abbrev mSh : Type := Nat × Nat × List (Option (Option Nat))
abbrev mM : Type := Nat → Nat → Int
abbrev mS : Type := List mSh × mM
abbrev mSt : Type := List mV × List mV × mS
/-- kind, instruction, a, b, place of its word, more -/
abbrev mI : Type := Nat × Instr × Nat × Nat × Nat × List Nat
abbrev mB : Type := Nat × List Bool × List mI
abbrev mO : Type := Option mV ⊕ Nat
abbrev mR : Type := Option (mO × mS)
def wr (x : Int) : Int := Int.bmod x 4294967296
def mset (M : mM) (k j : Nat) (x : Int) : mM := fun a b => if a = k ∧ b = j then x else M a b
def c2 : mV → Bool
  | .inr (.inr (.inl _)) => true
  | .inr (.inr (.inr (.inl _))) => true
  | _ => false
def c2sum (S : List mV) : Nat := (S.map fun v => match c2 v with
  | true => 2
  | false => 1).sum
def c2at (L : List mV) (n : Nat) : Bool := match n with
  | 0 => false
  | k + 1 => match L[k]? with
    | some v => c2 v
    | none => false
def stI (L : List mV) (n : Nat) (v : mV) : Option (List mV) := match decide (n < L.length) && !(c2at L n) with
  | true => some (L.set n v)
  | false => none
def stD (L : List mV) (n : Nat) (v : mV) : Option (List mV) := match decide (n + 1 < L.length) && !(c2at L n) with
  | true => some ((L.set n v).set (n + 1) vj)
  | false => none
def ldn (L : List mV) (S : List mV) (σ : mS) (n : Nat) : Option mSt := match L[n]? with
  | some (.inl x) => some (L, vi x :: S, σ)
  | _ => none
def lda (L : List mV) (S : List mV) (σ : mS) (n : Nat) : Option mSt := match L[n]? with
  | some (.inr (.inl r)) => some (L, (.inr (.inl r)) :: S, σ)
  | _ => none
def ldd (L : List mV) (S : List mV) (σ : mS) (n : Nat) : Option mSt := match L[n]? with
  | some (.inr (.inr (.inr (.inl x)))) => some (L, vd x :: S, σ)
  | _ => none
def sti (L : List mV) (S : List mV) (σ : mS) (n : Nat) : Option mSt := match S with
  | .inl x :: r => (stI L n (vi x)).map fun L' => (L', r, σ)
  | _ => none
def sta (L : List mV) (S : List mV) (σ : mS) (n : Nat) : Option mSt := match S with
  | .inr (.inl t) :: r => (stI L n (.inr (.inl t))).map fun L' => (L', r, σ)
  | .inr (.inr (.inr (.inr ()))) :: r => (stI L n vj).map fun L' => (L', r, σ)
  | _ => none
def std (L : List mV) (S : List mV) (σ : mS) (n : Nat) : Option mSt := match S with
  | .inr (.inr (.inr (.inl x))) :: r => (stD L n (vd x)).map fun L' => (L', r, σ)
  | _ => none
def gtf (L : List mV) (S : List mV) (σ : mS) (a b : Nat) : Option mSt := match S with
  | .inr (.inl (some k)) :: r => match σ.1[k]? with
    | some (0, ci, fs) => match ci == a with
      | true => match fs[b]? with
        | some none => some (L, vi (σ.2 k b) :: r, σ)
        | some (some t) => some (L, (.inr (.inl t)) :: r, σ)
        | none => none
      | false => none
    | _ => none
  | _ => none
def bit? (x : Int) : Bool := decide (x = 0) || decide (x = 1)
/-- kd: 0 an int, 1 a boolean, 2 a reference -/
def ptf (L : List mV) (S : List mV) (σ : mS) (a b kd : Nat) : Option mSt := match S with
  | v :: .inr (.inl (some k)) :: r => match σ.1[k]? with
    | some (0, ci, fs) => match ci == a with
      | true => match fs[b]?, v, kd with
        | some none, .inl x, 0 => some (L, r, (σ.1, mset σ.2 k b x))
        | some none, .inl x, 1 => match bit? x with
          | true => some (L, r, (σ.1, mset σ.2 k b x))
          | false => none
        | some (some _), .inr (.inl t), 2 => some (L, r, (σ.1.set k (0, ci, fs.set b (some t)), σ.2))
        | _, _, _ => none
      | false => none
    | _ => none
  | _ => none
def ar2 (L : List mV) (S : List mV) (σ : mS) (f : Int → Int → Int) : Option mSt := match S with
  | .inl y :: .inl x :: r => some (L, vi (f x y) :: r, σ)
  | _ => none
def arp (L : List mV) (S : List mV) (σ : mS) (f : Int → Int → Int) : Option mSt := match S with
  | .inl y :: .inl x :: r => match decide (0 < y) with
    | true => some (L, vi (f x y) :: r, σ)
    | false => none
  | _ => none
def cmpL (x y : Int) : Int := if x < y then -1 else if x = y then 0 else 1
/-- the straight instructions -/
def sem (i : Instr) (a b kd : Nat) (L S : List mV) (σ : mS) : Option mSt := match i with
  | .iconst n => some (L, vi n :: S, σ)
  | .bipush n => some (L, vi n :: S, σ)
  | .sipush n => some (L, vi n :: S, σ)
  | .lconst n => some (L, vl (n.val : Int) :: S, σ)
  | .dconst n => match n with
    | 0 => some (L, vd FP.dconst0 :: S, σ)
    | _ => none
  | .iload_n n => ldn L S σ n.val
  | .iload n => ldn L S σ n
  | .aload_n n => lda L S σ n.val
  | .aload n => lda L S σ n
  | .dload_n n => ldd L S σ n.val
  | .dload n => ldd L S σ n
  | .istore_n n => sti L S σ n.val
  | .istore n => sti L S σ n
  | .astore_n n => sta L S σ n.val
  | .astore n => sta L S σ n
  | .dstore_n n => std L S σ n.val
  | .dstore n => std L S σ n
  | .iinc n k => match L[n]? with
    | some (.inl x) => (stI L n (vi (wr (x + k)))).map fun L' => (L', S, σ)
    | _ => none
  | .iadd => ar2 L S σ fun x y => wr (x + y)
  | .isub => ar2 L S σ fun x y => wr (x - y)
  | .imul => ar2 L S σ fun x y => wr (x * y)
  | .ineg => match S with
    | .inl x :: r => some (L, vi (wr (-x)) :: r, σ)
    | _ => none
  | .irem => arp L S σ Int.tmod
  | .idiv => arp L S σ Int.tdiv
  | .iand => match S with
    | .inl y :: .inl x :: r => match decide (y = 63) with
      | true => some (L, vi (x % 64) :: r, σ)
      | false => none
    | _ => none
  | .i2l => match S with
    | .inl x :: r => some (L, vl x :: r, σ)
    | _ => none
  | .i2c => match S with
    | .inl x :: r => some (L, vi (x % 65536) :: r, σ)
    | _ => none
  | .i2d => match S with
    | .inl x :: r => some (L, vd (FP.i2d (Int32.ofInt x)) :: r, σ)
    | _ => none
  | .lcmp => match S with
    | .inr (.inr (.inl y)) :: .inr (.inr (.inl x)) :: r => some (L, vi (cmpL x y) :: r, σ)
    | _ => none
  | .dcmp op => match S with
    | .inr (.inr (.inr (.inl y))) :: .inr (.inr (.inr (.inl x))) :: r => some (L, vi (Op.cmpValue (FP.dcmp x y) op).toInt :: r, σ)
    | _ => none
  | .dup => match S with
    | v :: r => match c2 v with
      | false => some (L, v :: v :: r, σ)
      | true => none
    | _ => none
  | .pop => match S with
    | v :: r => match c2 v with
      | false => some (L, r, σ)
      | true => none
    | _ => none
  | .dup2 => match S with
    | v :: w :: r => match c2 v || c2 w with
      | false => some (L, v :: w :: v :: w :: r, σ)
      | true => none
    | _ => none
  | .dup_x1 => match S with
    | v :: w :: r => match c2 v || c2 w with
      | false => some (L, v :: w :: v :: r, σ)
      | true => none
    | _ => none
  | .getfield _ => gtf L S σ a b
  | .putfield _ => ptf L S σ a b kd
  | .getstatic _ => some (L, vr a :: S, σ)
  | .invokestatic _ => match decide (S.length ≤ 20), a with
    | true, 1 => ar2 L S σ fun x y => if x < y then y else x
    | true, 2 => ar2 L S σ fun x y => if y < x then y else x
    | true, 3 => match S with
      | .inl x :: r => some (L, vi (wr (x.natAbs : Int)) :: r, σ)
      | _ => none
    | _, _ => none
  | .invokespecial _ => match decide (S.length ≤ 20), S with
    | true, .inr (.inl (some _)) :: r => some (L, r, σ)
    | _, _ => none
  | _ => none
def runS : List mI → mSt → Option (mSt × mI)
  | [], _ => none
  | i :: r, st => match i.1 with
    | 0 => match sem i.2.1 i.2.2.1 i.2.2.2.1 (i.2.2.2.2.2.headD 0) st.1 st.2.1 st.2.2 with
      | some st' => runS r st'
      | none => none
    | _ => some (st, i)
/-- an array that is read by iaload: its length; else 0 -/
def alI (σ : mS) (k : Nat) : Int := match σ.1[k]? with
  | some (1, n, _) => n
  | some (5, n, _) => n
  | _ => 0
def alK (σ : mS) (kd k : Nat) : Int := match σ.1[k]? with
  | some (q, n, _) => if q = kd then n else 0
  | _ => 0
def isScr (k : Nat) : Bool := k == 3
def cmpI (c : ClassFile.Cond) (x y : Int) : Prop := match c with
  | .eq => x = y
  | .ne => x ≠ y
  | .lt => x < y
  | .ge => y ≤ x
  | .gt => y < x
  | .le => x ≤ y
def msk : List Bool → List mV → List mV
  | b :: bs, v :: vs => (match b with | true => v | false => vj) :: msk bs vs
  | _, _ => []
def swT (lo : Int) (ts : List Nat) (df : Nat) (x : Int) : Nat := if x < lo then df else ts.getD (x - lo).toNat df
def alA (σ : mS) (k : Nat) : Int := match σ.1[k]? with
  | some (0, _, _) => 0
  | some (6, _, _) => 0
  | some (_, n, _) => n
  | none => 0
def psh (v : Option mV) (r : List mV) : List mV := match v with
  | none => r
  | some x => x :: r
def nj : mV → Bool
  | .inr (.inr _) => false
  | _ => true
def rcvOk (σ : mS) (as : List mV) (rc : Nat) : Bool := match rc, as with
  | 0, _ => true
  | ci + 1, .inr (.inl (some k)) :: _ => match σ.1[k]? with
    | some (0, c, _) => c == ci
    | _ => false
  | _, _ => false
def callK (r : mR) (k : Option mV → mS → mR) (x : Nat → mS → mR) : mR := match r with
  | none => none
  | some (.inl v, σ) => k v σ
  | some (.inr e, σ) => x e σ
def mcpy (M : mM) (ks kd n : Nat) : mM := fun a j => if a = kd ∧ j < n then M ks j else M a j
def mzero (M : mM) (k : Nat) : mM := fun a j => if a = k then 0 else M a j
def mclone (M : mM) (ks k : Nat) : mM := fun a j => if a = k then M ks j else M a j
def nn64 (r : UInt64) : Bool := decide (r &&& 0x7fffffffffffffff ≤ 0x7ff0000000000000)
abbrev mJ : Type := Nat → Nat → List mV → List mV → mS → mR
abbrev mC : Type := Nat → List mV → mS → mR
def goCmp (J : mJ) (u a b : Nat) (L r : List mV) (σ : mS) (c : ClassFile.Cond) (x y : Int) : mR := match c with
  | .eq => if x = y then J u a L r σ else J u b L r σ
  | .ne => if x = y then J u b L r σ else J u a L r σ
  | .lt => if x < y then J u a L r σ else J u b L r σ
  | .ge => if x < y then J u b L r σ else J u a L r σ
  | .gt => if y < x then J u a L r σ else J u b L r σ
  | .le => if y < x then J u b L r σ else J u a L r σ
def goRet (S : List mV) (σ : mS) (rt : Nat) : mR := match rt, S with
  | 0, [] => some (.inl none, σ)
  | 1, [.inl x] => some (.inl (some (vi x)), σ)
  | 2, [.inl x] => if bit? x = true then some (.inl (some (vi x)), σ) else none
  | 3, [.inr (.inr (.inr (.inl x)))] => some (.inl (some (vd x)), σ)
  | _, _ => none
def goRd (J : mJ) (u a : Nat) (L S : List mV) (σ : mS) (i : Instr) (scr : Nat) : mR := match i, S with
  | .iaload, .inl x :: .inr (.inl (some k)) :: r => match scr with
    | 0 => if 0 ≤ x ∧ x < alI σ k then J u a L (vi (σ.2 k x.toNat) :: r) σ else none
    | _ => match k with
      | 3 => if 0 ≤ x ∧ x < σ.2 4 0 then J u a L (vi (σ.2 3 x.toNat) :: r) σ else none
      | _ => none
  | .caload, .inl x :: .inr (.inl (some k)) :: r => if 0 ≤ x ∧ x < alK σ 2 k then J u a L (vi (σ.2 k x.toNat) :: r) σ else none
  | .laload, .inl x :: .inr (.inl (some k)) :: r => if 0 ≤ x ∧ x < alK σ 3 k then J u a L (vl (σ.2 k x.toNat) :: r) σ else none
  | .daload, .inl x :: .inr (.inl (some k)) :: r => if 0 ≤ x ∧ x < alK σ 4 k then J u a L (vd (UInt64.ofNat (σ.2 k x.toNat).toNat) :: r) σ else none
  | .arraylength, .inr (.inl (some k)) :: r => match scr with
    | 0 => if 0 < alA σ k then J u a L (vi (alA σ k) :: r) σ else none
    | _ => match k with
      | 3 => J u a L (vi (σ.2 4 0) :: r) σ
      | _ => none
  | .dadd, .inr (.inr (.inr (.inl y))) :: .inr (.inr (.inr (.inl x))) :: r => if nn64 (FP.dadd x y) = true then J u a L (vd (FP.dadd x y) :: r) σ else none
  | .ddiv, .inr (.inr (.inr (.inl y))) :: .inr (.inr (.inr (.inl x))) :: r => if nn64 (FP.ddiv x y) = true then J u a L (vd (FP.ddiv x y) :: r) σ else none
  | _, _ => none
def goWr (J : mJ) (u a : Nat) (L S : List mV) (σ : mS) (i : Instr) : mR := match i, S with
  | .iastore, .inl v :: .inl x :: .inr (.inl (some k)) :: r => if 0 ≤ x ∧ x < alK σ 1 k then J u a L r (σ.1, mset σ.2 k x.toNat v) else none
  | .castore, .inl v :: .inl x :: .inr (.inl (some k)) :: r => if (0 ≤ x ∧ x < alK σ 2 k) ∧ 0 ≤ v ∧ v < 65536 then J u a L r (σ.1, mset σ.2 k x.toNat v) else none
  | .lastore, .inr (.inr (.inl v)) :: .inl x :: .inr (.inl (some k)) :: r => if 0 ≤ x ∧ x < alK σ 3 k then J u a L r (σ.1, mset σ.2 k x.toNat v) else none
  | .dastore, .inr (.inr (.inr (.inl v))) :: .inl x :: .inr (.inl (some k)) :: r => if 0 ≤ x ∧ x < alK σ 4 k then J u a L r (σ.1, mset σ.2 k x.toNat (v.toNat : Int)) else none
  | .invokestatic _, .inl n :: .inl dp :: .inr (.inl (some kd)) :: .inl sp :: .inr (.inl (some ks)) :: r => if (sp = 0 ∧ dp = 0 ∧ r.length ≤ 20) ∧ 0 < n ∧ n ≤ alK σ 1 ks ∧ n ≤ alK σ 1 kd then J u a L r (σ.1, mcpy σ.2 ks kd n.toNat) else none
  | _, _ => none
def goNw (J : mJ) (u a b : Nat) (L S : List mV) (σ : mS) (i : Instr) (cm q : Nat) (fs : List Nat) : mR := match i, S with
  | .new _, S => match decide (u + 1 ≤ cm) with
    | true => J (u + 1) a L (vr σ.1.length :: S) (σ.1 ++ [(0, b, fs.map fun z => match z with | 0 => none | _ => some none)], mzero σ.2 σ.1.length)
    | false => none
  | .newarray _, .inl n :: r => match decide (u + 1 ≤ cm) && (decide (0 ≤ n) && decide (n ≤ 2100)) with
    | true => J (u + 1) a L (vr σ.1.length :: r) (σ.1 ++ [(q, n.toNat, [])], mzero σ.2 σ.1.length)
    | false => none
  | .invokevirtual _, .inr (.inl (some k)) :: r => match decide (u + 1 ≤ cm) && decide (r.length ≤ 20), σ.1[k]? with
    | true, some (5, n, _) => J (u + 1) a L (vr σ.1.length :: r) (σ.1 ++ [(1, n, [])], mclone σ.2 k σ.1.length)
    | _, _ => none
  | _, _ => none
/-- behind a block's straight part -/
def goT (J : mJ) (C : mC) (u : Nat) (L S : List mV) (σ : mS) (i : mI) : mR := match i.1 with
  | 1 => J u i.2.2.1 L S σ
  | 2 => J u i.2.2.1 L S σ
  | 3 => match i.2.1, S with
    | .ifCond c _, .inl x :: r => goCmp J u i.2.2.1 i.2.2.2.1 L r σ c x 0
    | .if_icmp c _, .inl y :: .inl x :: r => goCmp J u i.2.2.1 i.2.2.2.1 L r σ c x y
    | _, _ => none
  | 4 => match S with
    | .inl x :: r => J u (swT i.2.2.2.1 i.2.2.2.2.2 i.2.2.1 x) L r σ
    | _ => none
  | 5 => goRet S σ i.2.2.1
  | 6 => match i.2.2.2.2.2 with
    | n :: cc :: cm :: rc :: hs => match ((decide (n ≤ S.length) && decide (c2sum (S.drop n) ≤ 8)) && decide (u + cc ≤ cm)) && ((S.take n).all nj && rcvOk σ (S.take n).reverse rc) with
      | true => callK (C i.2.2.1 (S.take n).reverse σ) (fun v σ1 => J (u + cc) i.2.2.2.1 L (psh v (S.drop n)) σ1) (fun e σ1 => match hs.getD e 1 with
        | 0 => some (.inr e, σ1)
        | 1 => none
        | t + 2 => J (u + cc) t L [vj] σ1)
      | false => none
    | _ => none
  | 7 => match i.2.2.2.2.2 with
    | cm :: _ => match decide (u + 1 ≤ cm) && decide (S.length ≤ 20) with
      | true => some (.inr i.2.2.1, σ)
      | false => none
    | _ => none
  | 8 => goRd J u i.2.2.1 L S σ i.2.1 i.2.2.2.1
  | 9 => goWr J u i.2.2.1 L S σ i.2.1
  | 10 => match i.2.2.2.2.2 with
    | cm :: q :: fs => goNw J u i.2.2.1 i.2.2.2.1 L S σ i.2.1 cm q fs
    | _ => none
  | _ => none
/-- a method: its name, bytes, locals, answer's type, cost, arguments, handlers; its blocks -/
abbrev mMt : Type := (MethodName × ByteArray × Nat × Option FieldType × Nat × Nat × List (Nat × Nat × Nat × Nat)) × List mB
abbrev mP : Type := Nat → mMt
def pMask (P : mP) (m b : Nat) : List Bool := match (P m).2[b]? with
  | some q => q.2.1
  | none => []
def pPad (P : mP) (m : Nat) (as : List mV) : List mV := as ++ List.replicate ((P m).1.2.2.1 - as.length) vj
def goB (J : mJ) (C : mC) (u : Nat) (code : List mI) (st : mSt) : mR := match runS code st with
  | none => none
  | some (st', i) => goT J C u st'.1 st'.2.1 st'.2.2 i
def goP (P : mP) (m : Nat) (J : mJ) (C : mC) (u b : Nat) (L S : List mV) (σ : mS) : mR := match (P m).2[b]? with
  | none => none
  | some q => goB (fun u' b' L1 S1 σ1 => J u' b' (msk (pMask P m b') L1) S1 σ1) C u q.2.2 (L, S, σ)
def dcas (d : Nat) (f : Nat → mC) : mC := match d with
  | 0 => fun _ _ _ => none
  | d' + 1 => f d'
def exec (P : mP) : Nat → Nat → Nat → mJ
  | 0, _, _ => fun _ _ _ _ _ => none
  | n + 1, d, m => fun u b L S σ => goP P m (exec P n d m) (dcas d fun d' a as σ1 => exec P n d' a 0 0 (pPad P a as) [] σ1) u b L S σ
noncomputable def ev (P : mP) (d m : Nat) : mJ := fun u b L S σ =>
  @dite mR (∃ n, (exec P n d m u b L S σ).isSome = true) (Classical.propDecidable _) (fun h => exec P (Classical.choose h) d m u b L S σ) (fun _ => none)
noncomputable def run (P : mP) (d m : Nat) (as : List mV) (σ : mS) : mR := ev P d m 0 0 (pPad P m as) [] σ
noncomputable def evC (P : mP) (d : Nat) : mC := dcas d fun d' a as σ => run P d' a as σ
/-! its laws -/
def leR (x y : mR) : Prop := ∀ r, x = some r → y = some r
theorem leR.rf (x : mR) : leR x x := fun _ h => h
theorem leR.none (x : mR) : leR none x := fun _ h => by cases h
theorem leR.ite {c : Prop} [Decidable c] {a a' b b' : mR} (h1 : leR a a') (h2 : leR b b') : leR (if c then a else b) (if c then a' else b') := by
  by_cases h : c
  · rw [if_pos h, if_pos h]; exact h1
  · rw [if_neg h, if_neg h]; exact h2
def leJ (J J' : mJ) : Prop := ∀ u b L S σ, leR (J u b L S σ) (J' u b L S σ)
def leC (C C' : mC) : Prop := ∀ a as σ, leR (C a as σ) (C' a as σ)
theorem callK_mono {x x' : mR} {k k' : Option mV → mS → mR} {z z' : Nat → mS → mR} (h : leR x x') (hk : ∀ v σ, leR (k v σ) (k' v σ)) (hz : ∀ e σ, leR (z e σ) (z' e σ)) : leR (callK x k z) (callK x' k' z') := by
  intro r hr
  cases x with
  | none => cases hr
  | some q =>
    have e := h q rfl
    rw [e]
    obtain ⟨o, σ⟩ := q
    cases o with
    | inl v => exact hk v σ r hr
    | inr v => exact hz v σ r hr
theorem goT_mono {J J' : mJ} {C C' : mC} (hJ : leJ J J') (hC : leC C C') (u : Nat) (L S : List mV) (σ : mS) (i : mI) : leR (goT J C u L S σ i) (goT J' C' u L S σ i) := by
  unfold goT
  split
  · exact hJ _ _ _ _ _
  · exact hJ _ _ _ _ _
  · split
    · unfold goCmp; split <;> exact leR.ite (hJ _ _ _ _ _) (hJ _ _ _ _ _)
    · unfold goCmp; split <;> exact leR.ite (hJ _ _ _ _ _) (hJ _ _ _ _ _)
    · exact leR.none _
  · split
    · exact hJ _ _ _ _ _
    · exact leR.none _
  · exact leR.rf _
  · split
    · split
      · refine callK_mono (hC _ _ _) (fun v σ => hJ _ _ _ _ _) (fun e σ => ?_)
        split
        · exact leR.rf _
        · exact leR.none _
        · exact hJ _ _ _ _ _
      · exact leR.none _
    · exact leR.none _
  · exact leR.rf _
  · unfold goRd
    split
    all_goals first
      | exact leR.none _
      | exact leR.ite (hJ _ _ _ _ _) (leR.none _)
      | (split <;> first
          | exact leR.ite (hJ _ _ _ _ _) (leR.none _)
          | exact hJ _ _ _ _ _
          | exact leR.none _
          | (split <;> first
              | exact leR.ite (hJ _ _ _ _ _) (leR.none _)
              | exact hJ _ _ _ _ _
              | exact leR.none _))
  · unfold goWr
    split
    all_goals first
      | exact leR.none _
      | exact leR.ite (hJ _ _ _ _ _) (leR.none _)
  · split
    · unfold goNw
      split
      all_goals first
        | exact leR.none _
        | (split <;> first
            | exact hJ _ _ _ _ _
            | exact leR.none _)
    · exact leR.none _
  · exact leR.none _
end
section
theorem goB_mono {J J' : mJ} {C C' : mC} (hJ : leJ J J') (hC : leC C C') (u : Nat) (code : List mI) (st : mSt) : leR (goB J C u code st) (goB J' C' u code st) := by
  unfold goB
  split
  · exact leR.none _
  · exact goT_mono hJ hC _ _ _ _ _
theorem goP_mono {P : mP} {m : Nat} {J J' : mJ} {C C' : mC} (hJ : leJ J J') (hC : leC C C') : leJ (goP P m J C) (goP P m J' C') := by
  intro u b L S σ
  unfold goP
  split
  · exact leR.none _
  · exact goB_mono (fun u' b' L1 S1 σ1 => hJ _ _ _ _ _) hC _ _ _
theorem exec_step (P : mP) : ∀ n d m, leJ (exec P n d m) (exec P (n + 1) d m) := by
  intro n
  induction n with
  | zero => intro d m u b L S σ; exact leR.none _
  | succ n ih =>
    intro d m
    show leJ (goP P m (exec P n d m) _) (goP P m (exec P (n + 1) d m) _)
    refine goP_mono (ih d m) ?_
    cases d with
    | zero => intro a as σ; exact leR.rf _
    | succ d => intro a as σ; exact ih d a _ _ _ _ _
theorem exec_le (P : mP) {n k : Nat} (h : n ≤ k) (d m : Nat) : leJ (exec P n d m) (exec P k d m) := by
  induction h with
  | refl => intro u b L S σ; exact leR.rf _
  | step _ ih => intro u b L S σ r hr; exact exec_step P _ d m u b L S σ r (ih u b L S σ r hr)
theorem ev_of {P : mP} {n d m u b : Nat} {L S : List mV} {σ : mS} {r : mO × mS} (h : exec P n d m u b L S σ = some r) : ev P d m u b L S σ = some r := by
  have hx : ∃ n, (exec P n d m u b L S σ).isSome = true := ⟨n, by rw [h]; rfl⟩
  have h1 : ev P d m u b L S σ = exec P (Classical.choose hx) d m u b L S σ := by
    show @dite mR _ (Classical.propDecidable _) _ _ = _
    rw [dif_pos hx]
  rw [h1]
  obtain ⟨q, hq⟩ := Option.isSome_iff_exists.mp (Classical.choose_spec hx)
  have e1 := exec_le P (Nat.le_max_left n (Classical.choose hx)) d m u b L S σ r h
  have e2 := exec_le P (Nat.le_max_right n (Classical.choose hx)) d m u b L S σ q hq
  rw [hq, ← e2, e1]
theorem ev_ex {P : mP} {d m u b : Nat} {L S : List mV} {σ : mS} {r : mO × mS} (h : ev P d m u b L S σ = some r) : ∃ n, exec P n d m u b L S σ = some r := by
  by_cases hx : ∃ n, (exec P n d m u b L S σ).isSome = true
  · have h1 : ev P d m u b L S σ = exec P (Classical.choose hx) d m u b L S σ := by
      show @dite mR _ (Classical.propDecidable _) _ _ = _
      rw [dif_pos hx]
    exact ⟨_, h1.symm.trans h⟩
  · have h1 : ev P d m u b L S σ = none := by
      show @dite mR _ (Classical.propDecidable _) _ _ = _
      rw [dif_neg hx]
    rw [h1] at h
    cases h
theorem goT_lim {J : mJ} {C : mC} (Jn : Nat → mJ) (Cn : Nat → mC) (mJn : ∀ n k, n ≤ k → leJ (Jn n) (Jn k)) (mCn : ∀ n k, n ≤ k → leC (Cn n) (Cn k))
    (hJ : ∀ u b L S σ r, J u b L S σ = some r → ∃ n, Jn n u b L S σ = some r) (hC : ∀ a as σ r, C a as σ = some r → ∃ n, Cn n a as σ = some r)
    (u : Nat) (L S : List mV) (σ : mS) (i : mI) (r : mO × mS) (h : goT J C u L S σ i = some r) : ∃ n, goT (Jn n) (Cn n) u L S σ i = some r := by
  have ite1 : ∀ {c : Prop} [Decidable c] {a b : mR} {f g : Nat → mR}, (if c then a else b) = some r → (a = some r → ∃ n, f n = some r) → (b = some r → ∃ n, g n = some r) → ∃ n, (if c then f n else g n) = some r := by
    intro c _ a b f g h ha hb
    by_cases hc : c
    · rw [if_pos hc] at h; obtain ⟨n, hn⟩ := ha h; exact ⟨n, by rw [if_pos hc]; exact hn⟩
    · rw [if_neg hc] at h; obtain ⟨n, hn⟩ := hb h; exact ⟨n, by rw [if_neg hc]; exact hn⟩
  have cmp : ∀ (c : ClassFile.Cond) (a b : Nat) (r1 : List mV) (x y : Int), goCmp J u a b L r1 σ c x y = some r → ∃ n, goCmp (Jn n) u a b L r1 σ c x y = some r := by
    intro c a b r1 x y h
    unfold goCmp at h ⊢
    cases c <;> exact ite1 h (hJ _ _ _ _ _ _) (hJ _ _ _ _ _ _)
  have nn : ∀ {f : Nat → mR}, (none : mR) = some r → ∃ n, f n = some r := fun h => by cases h
  unfold goT at h ⊢
  split at h
  · exact hJ _ _ _ _ _ _ h
  · exact hJ _ _ _ _ _ _ h
  · split at h
    · exact cmp _ _ _ _ _ _ h
    · exact cmp _ _ _ _ _ _ h
    · cases h
  · split at h
    · exact hJ _ _ _ _ _ _ h
    · cases h
  · exact ⟨0, h⟩
  · split at h
    · split at h
      · rename_i n cc cm rc hs _ _ hd
        cases hc : C i.2.2.1 (S.take n).reverse σ with
        | none => rw [hc] at h; cases h
        | some q =>
          obtain ⟨n1, h1⟩ := hC _ _ _ _ hc
          rw [hc] at h
          obtain ⟨o, σ1⟩ := q
          cases o with
          | inl v =>
            obtain ⟨n2, h2⟩ := hJ _ _ _ _ _ _ (show J _ _ _ _ _ = some r from h)
            refine ⟨max n1 n2, ?_⟩
            show callK (Cn (max n1 n2) _ _ _) _ _ = _
            rw [mCn _ _ (Nat.le_max_left n1 n2) _ _ _ _ h1]
            exact mJn _ _ (Nat.le_max_right n1 n2) _ _ _ _ _ _ h2
          | inr e =>
            have h' : (match hs.getD e 1 with
              | 0 => (some (.inr e, σ1) : mR)
              | 1 => none
              | t + 2 => J (u + cc) t L [vj] σ1) = some r := h
            cases ht : hs.getD e 1 with
            | zero =>
              rw [ht] at h'
              refine ⟨n1, ?_⟩
              show callK (Cn n1 _ _ _) _ _ = _
              rw [h1]
              show (match hs.getD e 1 with
              | 0 => (some (.inr e, σ1) : mR)
              | 1 => none
              | t + 2 => Jn n1 (u + cc) t L [vj] σ1) = some r
              rw [ht]
              exact h'
            | succ t =>
              rw [ht] at h'
              cases t with
              | zero => cases h'
              | succ t =>
              obtain ⟨n2, h2⟩ := hJ _ _ _ _ _ _ h'
              refine ⟨max n1 n2, ?_⟩
              show callK (Cn (max n1 n2) _ _ _) _ _ = _
              rw [mCn _ _ (Nat.le_max_left n1 n2) _ _ _ _ h1]
              show (match hs.getD e 1 with
              | 0 => (some (.inr e, σ1) : mR)
              | 1 => none
              | t + 2 => Jn (max n1 n2) (u + cc) t L [vj] σ1) = some r
              rw [ht]
              exact mJn _ _ (Nat.le_max_right n1 n2) _ _ _ _ _ _ h2
      · cases h
    · cases h
  · exact ⟨0, h⟩
  · unfold goRd at h ⊢
    split at h
    all_goals first
      | cases h; done
      | exact ite1 h (hJ _ _ _ _ _ _) nn
      | (split at h <;> first
          | exact ite1 h (hJ _ _ _ _ _ _) nn
          | exact hJ _ _ _ _ _ _ h
          | (cases h; done)
          | (split at h <;> first
              | exact ite1 h (hJ _ _ _ _ _ _) nn
              | exact hJ _ _ _ _ _ _ h
              | (cases h; done)))
  · unfold goWr at h ⊢
    split at h
    all_goals first
      | (cases h; done)
      | exact ite1 h (hJ _ _ _ _ _ _) nn
  · split at h
    · unfold goNw at h ⊢
      split at h
      all_goals first
        | (cases h; done)
        | (split at h <;> first
            | exact hJ _ _ _ _ _ _ h
            | (cases h; done))
    · cases h
  · cases h
theorem goP_lim {P : mP} {m : Nat} {J : mJ} {C : mC} (Jn : Nat → mJ) (Cn : Nat → mC) (mJn : ∀ n k, n ≤ k → leJ (Jn n) (Jn k)) (mCn : ∀ n k, n ≤ k → leC (Cn n) (Cn k))
    (hJ : ∀ u b L S σ r, J u b L S σ = some r → ∃ n, Jn n u b L S σ = some r) (hC : ∀ a as σ r, C a as σ = some r → ∃ n, Cn n a as σ = some r)
    (u b : Nat) (L S : List mV) (σ : mS) (r : mO × mS) (h : goP P m J C u b L S σ = some r) : ∃ n, goP P m (Jn n) (Cn n) u b L S σ = some r := by
  unfold goP at h ⊢
  split at h
  · cases h
  · unfold goB at h ⊢
    split at h
    · cases h
    · exact goT_lim (fun n u' b' L1 S1 σ1 => Jn n u' b' (msk (pMask P m b') L1) S1 σ1) Cn (fun n k h u b L S σ => mJn n k h _ _ _ _ _) mCn (fun u b L S σ r h => hJ _ _ _ _ _ _ h) hC _ _ _ _ _ _ h
theorem ev_eq (P : mP) (d m u b : Nat) (L S : List mV) (σ : mS) : ev P d m u b L S σ = goP P m (ev P d m) (evC P d) u b L S σ := by
  have h1 : leR (ev P d m u b L S σ) (goP P m (ev P d m) (evC P d) u b L S σ) := by
    intro r hr
    obtain ⟨n, hn⟩ := ev_ex hr
    cases n with
    | zero => cases hn
    | succ n =>
      refine goP_mono (J := exec P n d m) (fun u b L S σ r h => ev_of h) ?_ u b L S σ r hn
      cases d with
      | zero => intro a as σ; exact leR.none _
      | succ d => intro a as σ r h; exact ev_of h
  have h2 : leR (goP P m (ev P d m) (evC P d) u b L S σ) (ev P d m u b L S σ) := by
    intro r hr
    obtain ⟨n, hn⟩ := goP_lim (fun n => exec P n d m) (fun n => dcas d fun d' a as σ1 => exec P n d' a 0 0 (pPad P a as) [] σ1) (fun n k h => exec_le P h d m) (fun n k h => by
        cases d with
        | zero => intro a as σ; exact leR.rf _
        | succ d => intro a as σ; exact exec_le P h d a _ _ _ _ _) (fun u b L S σ r h => ev_ex h) (fun a as σ r h => by
        cases d with
        | zero => cases h
        | succ d => exact ev_ex h) u b L S σ r hr
    exact ev_of (n := n + 1) hn
  cases ha : ev P d m u b L S σ with
  | some r => exact (h1 r ha).symm
  | none =>
    cases hb : goP P m (ev P d m) (evC P d) u b L S σ with
    | none => rfl
    | some r => rw [h2 r hb] at ha; cases ha
end
section
def inR (x : Int) : Prop := -2147483648 ≤ x ∧ x < 2147483648
theorem wr_toInt (x : Int) : (Int32.ofInt x).toInt = wr x := by
  rw [Int32.toInt_ofInt]; rfl
theorem wr_inR (x : Int) : inR (wr x) := by
  unfold wr inR
  have h1 := @Int.le_bmod x 4294967296 (by decide)
  have h2 := @Int.bmod_lt x 4294967296 (by decide)
  exact ⟨by omega, by omega⟩
theorem wr_id {x : Int} (h : inR x) : wr x = x := by
  unfold wr inR at *
  rw [Int.bmod_eq_of_le] <;> omega
theorem ofI_toInt {x : Int} (h : inR x) : (Int32.ofInt x).toInt = x := by rw [wr_toInt, wr_id h]
theorem ofI_wr (x : Int) : Int32.ofInt (wr x) = Int32.ofInt x := by
  apply Int32.toInt_inj.mp
  rw [wr_toInt, wr_toInt, wr_id (wr_inR x)]
theorem toI_inR (x : Int32) : inR x.toInt := ⟨Int32.le_toInt x, Int32.toInt_lt x⟩
theorem ofI_of (x : Int32) : Int32.ofInt x.toInt = x := Int32.ofInt_toInt x
theorem ofI_add (x y : Int) : Int32.ofInt x + Int32.ofInt y = Int32.ofInt (wr (x + y)) := by rw [ofI_wr, Int32.ofInt_add]
theorem ofI_sub (x y : Int) : Int32.ofInt x - Int32.ofInt y = Int32.ofInt (wr (x - y)) := by rw [ofI_wr, Int32.ofInt_sub]
theorem ofI_mul (x y : Int) : Int32.ofInt x * Int32.ofInt y = Int32.ofInt (wr (x * y)) := by rw [ofI_wr, Int32.ofInt_mul]
theorem ofI_neg (x : Int) : -Int32.ofInt x = Int32.ofInt (wr (-x)) := by rw [ofI_wr, Int32.ofInt_neg]
theorem ofI_lt {x y : Int} (hx : inR x) (hy : inR y) : Int32.ofInt x < Int32.ofInt y ↔ x < y := by
  rw [Int32.lt_iff_toInt_lt, ofI_toInt hx, ofI_toInt hy]
theorem ofI_le {x y : Int} (hx : inR x) (hy : inR y) : Int32.ofInt x ≤ Int32.ofInt y ↔ x ≤ y := by
  rw [Int32.le_iff_toInt_le, ofI_toInt hx, ofI_toInt hy]
theorem ofI_eq {x y : Int} (hx : inR x) (hy : inR y) : Int32.ofInt x = Int32.ofInt y ↔ x = y := by
  rw [← Int32.toInt_inj, ofI_toInt hx, ofI_toInt hy]
theorem inR_0 : inR 0 := by unfold inR; omega
theorem ofI_0 : Int32.ofInt 0 = 0 := rfl
theorem ofI_clamp {x : Int} (h : inR x) : (Int32.ofInt x).toNatClampNeg = x.toNat := by
  show (Int32.ofInt x).toInt.toNat = _
  rw [ofI_toInt h]
theorem ofI_in {x : Int} {n : Nat} (h : inR x) (h0 : 0 ≤ x) (hn : x < n) : vp_in (Int32.ofInt x) n := by
  rw [vp_in_iff, ofI_toInt h]
  exact ⟨h0, hn⟩
theorem ofI_tdiv {x y : Int} (hx : inR x) (hy : inR y) (h0 : 0 < y) : Int32.ofInt x / Int32.ofInt y = Int32.ofInt (x.tdiv y) := by
  apply Int32.toInt_inj.mp
  have h2 : inR (x.tdiv y) := by
    have h3 := Int.natAbs_tdiv_le_natAbs x y
    by_cases hx0 : 0 ≤ x
    · have := Int.tdiv_nonneg hx0 (Int.le_of_lt h0)
      unfold inR at *; omega
    · have h5 : x.tdiv y ≤ 0 := by
        have h6 : 0 ≤ (-x).tdiv y := Int.tdiv_nonneg (by omega) (Int.le_of_lt h0)
        rw [Int.neg_tdiv] at h6
        omega
      unfold inR at *; omega
  rw [Int32.toInt_div, ofI_toInt hx, ofI_toInt hy, ofI_toInt h2]
  exact wr_id h2
theorem tdiv_inR {x y : Int} (hx : inR x) (h0 : 0 < y) : inR (x.tdiv y) := by
  have h3 := Int.natAbs_tdiv_le_natAbs x y
  by_cases hx0 : 0 ≤ x
  · have := Int.tdiv_nonneg hx0 (Int.le_of_lt h0)
    unfold inR at *; omega
  · have h5 : x.tdiv y ≤ 0 := by
      have h6 : 0 ≤ (-x).tdiv y := Int.tdiv_nonneg (by omega) (Int.le_of_lt h0)
      rw [Int.neg_tdiv] at h6
      omega
    unfold inR at *; omega
theorem tmod_inR {x y : Int} (hy : inR y) (h0 : 0 < y) : inR (x.tmod y) := by
  have h := tmod_bounds (a := x) h0
  unfold inR at *; omega
theorem ofI_tmod {x y : Int} (hx : inR x) (hy : inR y) (h0 : 0 < y) : Int32.ofInt x - Int32.ofInt x / Int32.ofInt y * Int32.ofInt y = Int32.ofInt (x.tmod y) := by
  rw [ofI_tdiv hx hy h0, ofI_mul, ofI_sub, ofI_wr]
  apply Int32.toInt_inj.mp
  rw [wr_toInt, wr_toInt]
  have h1 := Int.mul_tdiv_add_tmod x y
  have h2 : x - wr (x.tdiv y * y) = x.tmod y + (x.tdiv y * y - wr (x.tdiv y * y)) := by
    rw [Int.mul_comm] at h1
    omega
  rw [h2]
  unfold wr
  rw [show x.tmod y + (x.tdiv y * y - (x.tdiv y * y).bmod 4294967296) = x.tmod y + x.tdiv y * y - (x.tdiv y * y).bmod 4294967296 by omega]
  rw [Int.sub_bmod_bmod]
  congr 1
  omega
theorem ofI_max {x y : Int} (hx : inR x) (hy : inR y) : (if Int32.ofInt x < Int32.ofInt y then Int32.ofInt y else Int32.ofInt x) = Int32.ofInt (if x < y then y else x) := by
  by_cases h : x < y
  · rw [if_pos h, if_pos ((ofI_lt hx hy).mpr h)]
  · rw [if_neg h, if_neg (fun q => h ((ofI_lt hx hy).mp q))]
theorem ofI_min {x y : Int} (hx : inR x) (hy : inR y) : (if Int32.ofInt y < Int32.ofInt x then Int32.ofInt y else Int32.ofInt x) = Int32.ofInt (if y < x then y else x) := by
  by_cases h : y < x
  · rw [if_pos h, if_pos ((ofI_lt hy hx).mpr h)]
  · rw [if_neg h, if_neg (fun q => h ((ofI_lt hy hx).mp q))]
theorem ofI_abs {x : Int} (hx : inR x) : (if 0 ≤ Int32.ofInt x then Int32.ofInt x else 0 - Int32.ofInt x) = Int32.ofInt (wr (x.natAbs : Int)) := by
  have h0 : (0 ≤ Int32.ofInt x) ↔ 0 ≤ x := ofI_le (x := 0) inR_0 hx
  by_cases h : 0 ≤ x
  · rw [if_pos (h0.mpr h), ofI_wr]
    congr 1
    omega
  · rw [if_neg (fun q => h (h0.mp q)), show (0 : Int32) = Int32.ofInt 0 from rfl, ofI_sub, ofI_wr, ofI_wr]
    congr 1
    omega
theorem ofL_toInt {x : Int} (hx : inR x) : (Int64.ofInt x).toInt = x := by
  rw [Int64.toInt_ofInt]
  unfold inR at hx
  show Int.bmod x 18446744073709551616 = x
  rw [Int.bmod_eq_of_le] <;> omega
theorem ofI_i2l {x : Int} (hx : inR x) : (Int32.ofInt x).toInt64 = Int64.ofInt x := by
  apply Int64.toInt_inj.mp
  rw [Int32.toInt_toInt64, ofI_toInt hx, ofL_toInt hx]
theorem cmpL_inR (x y : Int) : inR (cmpL x y) := by
  unfold cmpL inR
  split
  · omega
  · split <;> omega
theorem ofL_cmp {x y : Int} (hx : inR x) (hy : inR y) : lg_cmp (Int64.ofInt x) (Int64.ofInt y) = Int32.ofInt (cmpL x y) := by
  unfold lg_cmp cmpL
  simp only [Int64.lt_iff_toInt_lt, ← Int64.toInt_inj, ofL_toInt hx, ofL_toInt hy]
  by_cases h1 : x < y
  · have h2 : ¬ y < x := by omega
    have h3 : ¬ x = y := by omega
    rw [if_neg h2, if_neg h3, if_pos h1]
    rfl
  · by_cases h2 : x = y
    · simp [h2]
    · have h3 : y < x := by omega
      simp [h1, h2, h3]
theorem bv_mod (X : Int32) : ∃ q : Int, X.toInt = (X.toBitVec.toNat : Int) + 4294967296 * q := by
  have h : X.toInt = X.toBitVec.toInt := rfl
  rw [h, BitVec.toInt_eq_toNat_cond]
  split
  · exact ⟨0, by omega⟩
  · exact ⟨-1, by omega⟩
theorem ofI_and63 {x : Int} (hx : inR x) : Int32.ofInt x &&& Int32.ofInt 63 = Int32.ofInt (x % 64) := by
  rw [pk_and (Int32.ofInt x) (m := Int32.ofInt 63) 6 (by decide)]
  obtain ⟨q, hq⟩ := bv_mod (Int32.ofInt x)
  rw [ofI_toInt hx] at hq
  show Int32.ofNat _ = _
  rw [← Int32.ofInt_eq_ofNat]
  congr 1
  omega
theorem ofI_i2c {x : Int} (hx : inR x) : ((Int32.ofInt x).toUInt32 % 65536).toInt32 = Int32.ofInt (x % 65536) := by
  rw [pk_char]
  obtain ⟨q, hq⟩ := bv_mod (Int32.ofInt x)
  rw [ofI_toInt hx] at hq
  show Int32.ofNat _ = _
  rw [← Int32.ofInt_eq_ofNat]
  congr 1
  omega
end
section
/-! THE SMALL MACHINE'S STATE IN THE HEAP -/
abbrev mcl : List vw_C := [(RX0, TX0, 5), (RX1, TX1, 2), (RX2, TX2, 6), (RX3, TX3, 9), (RX4, TX4, 10), (RX5, TX5, 5), (RX6, TX6, 4), (RX7, TX7, 7), (RX8, TX8, 12), (RX9, TX9, 6), (RX10, TX10, 19)]
def mty (k : Nat) : Nat → FieldType := match k with
  | 0 => tyX0
  | 1 => tyX1
  | 2 => tyX2
  | 3 => tyX3
  | 4 => tyX4
  | 5 => tyX5
  | 6 => tyX6
  | 7 => tyX7
  | 8 => tyX8
  | 9 => tyX9
  | _ => tyX10
def lw_gd : List Cond := lw_tbl.filter goodWord
def mNg (w : Cond) : Bool := match w with
  | .methodLinkNest .. => true
  | .fieldLinkNest .. => true
  | .declares .. => true
  | .castable .. => true
  | _ => false
def lw_ng : List Cond := lw_tbl.filter mNg
theorem gd_mem {w : Cond} {i : Nat} (h : lw_tbl[i]? = some w) (hg : goodWord w = true) : w ∈ lw_gd := List.mem_filter.mpr ⟨List.mem_of_getElem? h, hg⟩
theorem ng_mem {w : Cond} {i : Nat} (h : lw_tbl[i]? = some w) (hg : mNg w = true) : w ∈ lw_ng := List.mem_filter.mpr ⟨List.mem_of_getElem? h, hg⟩
theorem gd_good : ∀ w ∈ lw_gd, goodWord w = true := fun w h => (List.mem_filter.mp h).2
theorem gd_all {ws : List Cond} (h : ws.all (fun w => decide (w ∈ lw_tbl) && goodWord w) = true) : ∀ w ∈ ws, w ∈ lw_gd := fun w hw => by
  have h1 := List.all_eq_true.mp h w hw
  simp only [Bool.and_eq_true, decide_eq_true_eq] at h1
  exact List.mem_filter.mpr h1
theorem mcl_ws : ∀ (c : Nat) (q : vw_C), mcl[c]? = some q → ∀ w ∈ u_ws q.1 q.2.1 q.2.2, w ∈ lw_gd := by
  intro c q hq
  match c, hq with
  | 0, hq => cases hq; exact gd_all (by decide +kernel)
  | 1, hq => cases hq; exact gd_all (by decide +kernel)
  | 2, hq => cases hq; exact gd_all (by decide +kernel)
  | 3, hq => cases hq; exact gd_all (by decide +kernel)
  | 4, hq => cases hq; exact gd_all (by decide +kernel)
  | 5, hq => cases hq; exact gd_all (by decide +kernel)
  | 6, hq => cases hq; exact gd_all (by decide +kernel)
  | 7, hq => cases hq; exact gd_all (by decide +kernel)
  | 8, hq => cases hq; exact gd_all (by decide +kernel)
  | 9, hq => cases hq; exact gd_all (by decide +kernel)
  | 10, hq => cases hq; exact gd_all (by decide +kernel)
  | k + 11, hq => simp [mcl] at hq
theorem mcl_ty : ∀ (c : Nat) (q : vw_C), mcl[c]? = some q → (∀ k, k < q.2.2 → parseFieldDescriptor (q.2.1 k).2.2.1 = some (mty c k)) ∧ (∀ a, a < q.2.2 → ∀ b, b < q.2.2 → a ≠ b → (q.2.1 a).2.1 ≠ (q.2.1 b).2.1) := by
  intro c q hq
  match c, hq with
  | 0, hq => cases hq; exact ⟨tyX0_ok, nmX0⟩
  | 1, hq => cases hq; exact ⟨tyX1_ok, nmX1⟩
  | 2, hq => cases hq; exact ⟨tyX2_ok, nmX2⟩
  | 3, hq => cases hq; exact ⟨tyX3_ok, nmX3⟩
  | 4, hq => cases hq; exact ⟨tyX4_ok, nmX4⟩
  | 5, hq => cases hq; exact ⟨tyX5_ok, nmX5⟩
  | 6, hq => cases hq; exact ⟨tyX6_ok, nmX6⟩
  | 7, hq => cases hq; exact ⟨tyX7_ok, nmX7⟩
  | 8, hq => cases hq; exact ⟨tyX8_ok, nmX8⟩
  | 9, hq => cases hq; exact ⟨tyX9_ok, nmX9⟩
  | 10, hq => cases hq; exact ⟨tyX10_ok, nmX10⟩
  | k + 11, hq => simp [mcl] at hq
def vv (ad : Nat → Nat) : mV → Value
  | .inl x => .int (Int32.ofInt x)
  | .inr (.inl none) => .null
  | .inr (.inl (some k)) => .ref (ad k)
  | .inr (.inr (.inl x)) => .long (Int64.ofInt x)
  | .inr (.inr (.inr (.inl x))) => .double x
  | .inr (.inr (.inr (.inr ()))) => .null
def okV (n : Nat) : mV → Prop
  | .inl x => inR x
  | .inr (.inl (some k)) => k < n
  | .inr (.inr (.inl x)) => inR x
  | _ => True
theorem vv_cat (ad : Nat → Nat) (v : mV) : (vv ad v).category = match c2 v with
  | true => 2
  | false => 1 := by
  rcases v with x | (_ | k) | x | x | u <;> rfl
/-- on the stack: what isn't known is some reference -/
def sv (ad : Nat → Nat) (v : mV) (x : Value) : Prop := x = vv ad v ∨ (v = vj ∧ ∃ q, x = .ref q)
theorem sv_cat {ad : Nat → Nat} {v : mV} {x : Value} (h : sv ad v x) : x.category = match c2 v with
  | true => 2
  | false => 1 := by
  rcases h with h | ⟨h, q, hq⟩
  · rw [h]; exact vv_cat ad v
  · rw [h, hq]; rfl
def sR (ad : Nat → Nat) (n : Nat) : List mV → List Value → Prop
  | [], [] => True
  | v :: S, x :: st => (sv ad v x ∧ okV n v) ∧ sR ad n S st
  | _, _ => False
def lR (ad : Nat → Nat) (n : Nat) (L : List mV) (ls : Array Slot) (nL : Nat) : Prop :=
  L.length ≤ nL ∧ ∃ lv, lv_has ls nL lv ∧ ∀ (i : Nat) (v : mV), L[i]? = some v → v ≠ vj → okV n v ∧ (i, vv ad v) ∈ lv
def mE (aC : FieldType → ClassId) (ad : Nat → Nat) (sh : mSh) (f : Nat → Int) : va_E := match sh with
  | (0, ci, fs) => .inr (ci, (List.range fs.length).map fun j => match fs[j]? with
    | some (some t) => vv ad (.inr (.inl t))
    | _ => .int (Int32.ofInt (f j)))
  | (1, n, _) => .inl (aC .int, n, .inl fun j => Int32.ofInt (f j))
  | (2, n, _) => .inl (aC .char, n, .inl fun j => Int32.ofInt (f j))
  | (3, n, _) => .inl (aC .long, n, .inr (.inl fun j => Int64.ofInt (f j)))
  | (_, n, _) => .inl (aC .double, n, .inr (.inr (.inr (.inl fun j => UInt64.ofNat (f j).toNat))))
def mws (aC : FieldType → ClassId) (ad : Nat → Nat) (σ : mS) : va_W := (List.range (σ.1.length - 5)).map fun i => (ad (i + 5), mE aC ad (σ.1.getD (i + 5) (9, 0, [])) (σ.2 (i + 5)))
def mRo : List mSh := [(5, 6, []), (5, 6, []), (5, 6, []), (6, 0, []), (7, 0, [])]
def mShOk (n : Nat) (sh : mSh) : Prop := match sh with
  | (0, ci, fs) => (∃ q : vw_C, mcl[ci]? = some q ∧ q.2.2 = fs.length) ∧ ∀ t, some (some t) ∈ fs → t < n
  | (k, q, _) => k ≤ 4 ∧ q ≤ 2100
def mWf (σ : mS) : Prop := 5 ≤ σ.1.length ∧ σ.1.take 5 = mRo ∧ ∀ k sh, 5 ≤ k → σ.1[k]? = some sh → mShOk σ.1.length sh
def mRg (σ : mS) : Prop := ∀ k j, (∀ sh, σ.1[k]? = some sh → sh.1 ≠ 4) → inR (σ.2 k j)
def mWd (D : va_G) (aC : FieldType → ClassId) (ad : Nat → Nat) (σ : mS) (A : Nat → Prop) (H : Heap) : Prop :=
  va_P D mcl (mws aC ad σ) H ∧ va_D A (mws aC ad σ) ∧ mWf σ ∧ mRg σ
def mTy (aC : FieldType → ClassId) : List (ClassId × FieldType) := [(aC .int, .int), (aC .char, .char), (aC .long, .long), (aC .double, .double)]
/-- the five kinds of exceptions -/
def exN (e : Nat) : String := match e with
  | 0 => "java/lang/IllegalArgumentException"
  | 1 => "java/lang/IllegalStateException"
  | 2 => "java/util/NoSuchElementException"
  | 3 => "java/lang/IndexOutOfBoundsException"
  | _ => "java/lang/ArithmeticException"
def mKn (D : va_G) (aC : FieldType → ClassId) (U : State) : Prop :=
  va_K D mcl (mTy aC) U ∧ (∀ w ∈ lw_ng, va_Nw w U) ∧ (∀ own k tx, Cond.stringRef own k tx ∈ lw_tbl → ∃ a, vk_R own k tx a U) ∧ ∀ i j, i < 5 → j < 5 → i ≠ j → va_Nc (exN i) (exN j) U
/-- an array that nobody writes, as the Statement has it -/
def mT (t : Nat) (f : Nat → Int) (A : Nat → Prop) (U : State) (H : Heap) : Prop := va_T .int t 6 (fun j => .int (Int32.ofInt (f j))) A U H ∧ ∃ cell : Cell, H[t]? = some cell ∧ cell.slots.size = 6 ∧ U.vm.findClass "[I" = some cell.cls
def mSt0 (A : Nat → Prop) (ad : Nat → Nat) (M : mM) (U : State) (H : Heap) : Prop :=
  va_Z "SpatialPoints" "FIRST_VALUES" "[I" (.ref (ad 0)) A U H ∧ va_Z "SpatialPoints" "LEAST_VALUES" "[I" (.ref (ad 1)) A U H ∧ va_Z "SpatialPoints" "GREATEST_VALUES" "[I" (.ref (ad 2)) A U H ∧
  (∀ k, k < 3 → mT (ad k) (M k) A U H) ∧ vx_Zq Bundle.tN "UNASSIGNED_STACK" Bundle.steD A U H ∧ vx_Zq Bundle.tN "SUPPRESSED_SENTINEL" Bundle.listD A U H
end
section
theorem mws_of {aC : FieldType → ClassId} {ad : Nat → Nat} {σ : mS} {i : Nat} {q : Nat × va_E} (h : (mws aC ad σ)[i]? = some q) : ∃ sh, σ.1[i + 5]? = some sh ∧ q = (ad (i + 5), mE aC ad sh (σ.2 (i + 5))) := by
  unfold mws at h
  rw [List.getElem?_map] at h
  cases hr : (List.range (σ.1.length - 5))[i]? with
  | none => rw [hr] at h; cases h
  | some j =>
    rw [hr] at h
    have hi : i < σ.1.length - 5 := by
      have h1 := (List.getElem?_eq_some_iff.mp hr).1
      rwa [List.length_range] at h1
    rw [List.getElem?_range hi] at hr
    cases hr
    have h2 : i + 5 < σ.1.length := by omega
    refine ⟨σ.1[i + 5], List.getElem?_eq_getElem h2, ?_⟩
    have h3 : σ.1.getD (i + 5) (9, 0, []) = σ.1[i + 5] := by rw [List.getD_eq_getElem?_getD, List.getElem?_eq_getElem h2]; rfl
    have h : some (ad (i + 5), mE aC ad (σ.1.getD (i + 5) (9, 0, [])) (σ.2 (i + 5))) = some q := h
    rw [h3] at h
    exact (Option.some.inj h).symm
theorem mws_get {aC : FieldType → ClassId} {ad : Nat → Nat} {σ : mS} {k : Nat} {sh : mSh} (h : σ.1[k]? = some sh) (hk : 5 ≤ k) : (mws aC ad σ)[k - 5]? = some (ad k, mE aC ad sh (σ.2 k)) := by
  have hl := (List.getElem?_eq_some_iff.mp h).1
  unfold mws
  rw [List.getElem?_map, List.getElem?_range (by omega)]
  have h3 : σ.1.getD k (9, 0, []) = sh := by rw [List.getD_eq_getElem?_getD, h]; rfl
  show some (ad (k - 5 + 5), mE aC ad (σ.1.getD (k - 5 + 5) (9, 0, [])) (σ.2 (k - 5 + 5))) = _
  rw [show k - 5 + 5 = k by omega, h3]
theorem mws_len {aC : FieldType → ClassId} {ad : Nat → Nat} {σ : mS} : (mws aC ad σ).length = σ.1.length - 5 := by simp [mws]
theorem mws_none {aC : FieldType → ClassId} {ad : Nat → Nat} {σ : mS} {i : Nat} (h : σ.1[i + 5]? = none) : (mws aC ad σ)[i]? = none := by
  cases hx : (mws aC ad σ)[i]? with
  | none => rfl
  | some q =>
    obtain ⟨sh, h1, -⟩ := mws_of hx
    rw [h] at h1; cases h1
theorem mws_set {aC : FieldType → ClassId} {ad : Nat → Nat} {σ σ' : mS} {k : Nat} {sh : mSh} {E : va_E} (hk : 5 ≤ k) (hl : k < σ.1.length) (h : σ'.1[k]? = some sh) (hE : E = mE aC ad sh (σ'.2 k)) (hn : σ'.1.length = σ.1.length) (ho : ∀ j, j ≠ k → σ'.1[j]? = σ.1[j]?) (hM : ∀ j, j ≠ k → σ'.2 j = σ.2 j) :
    (mws aC ad σ).set (k - 5) (ad k, E) = mws aC ad σ' := by
  subst hE
  apply List.ext_getElem?
  intro i
  by_cases hi : i = k - 5
  · subst hi
    rw [List.getElem?_set_self (by rw [mws_len]; omega), mws_get h hk]
  · rw [List.getElem?_set_ne (Ne.symm hi)]
    have hne : i + 5 ≠ k := by omega
    cases hx : σ'.1[i + 5]? with
    | none => rw [mws_none hx, mws_none ((ho _ hne) ▸ hx)]
    | some sh2 =>
      have h1 := mws_get (aC := aC) (ad := ad) hx (by omega)
      have h2 := mws_get (aC := aC) (ad := ad) (σ := σ) ((ho _ hne) ▸ hx) (by omega)
      rw [show i + 5 - 5 = i by omega] at h1 h2
      rw [h1, h2, hM _ hne]
theorem mE_ad {aC : FieldType → ClassId} {ad ad' : Nat → Nat} {n : Nat} {sh : mSh} {f : Nat → Int} (h : mShOk n sh) (ha : ∀ k, k < n → ad' k = ad k) : mE aC ad' sh f = mE aC ad sh f := by
  obtain ⟨k, q, fs⟩ := sh
  cases k with
  | zero =>
    show (Sum.inr _ : va_E) = Sum.inr _
    congr 2
    apply List.map_congr_left
    intro j hj
    cases hx : fs[j]? with
    | none => rfl
    | some x =>
      cases x with
      | none => rfl
      | some t =>
        cases t with
        | none => rfl
        | some t =>
          show Value.ref (ad' t) = Value.ref (ad t)
          rw [ha t (h.2 t (List.mem_of_getElem? hx))]
  | succ k => rcases k with _ | _ | _ | k <;> rfl
theorem mws_ad {aC : FieldType → ClassId} {ad ad' : Nat → Nat} {σ : mS} (hw : mWf σ) (ha : ∀ k, k < σ.1.length → ad' k = ad k) : mws aC ad' σ = mws aC ad σ := by
  apply List.ext_getElem?
  intro i
  cases hx : σ.1[i + 5]? with
  | none => rw [mws_none hx, mws_none hx]
  | some sh =>
    have h1 := mws_get (aC := aC) (ad := ad) hx (by omega)
    have h2 := mws_get (aC := aC) (ad := ad') hx (by omega)
    rw [show i + 5 - 5 = i by omega] at h1 h2
    rw [h1, h2, mE_ad (hw.2.2 _ _ (by omega) hx) ha, ha _ (List.getElem?_eq_some_iff.mp hx).1]
/-- a new cell -/
theorem mws_push {aC : FieldType → ClassId} {ad : Nat → Nat} {σ : mS} {sh : mSh} {M' : mM} {q : Nat} (hw : mWf σ) (hM : ∀ j, j ≠ σ.1.length → M' j = σ.2 j) :
    mws aC ad σ ++ [(q, mE aC (fun j => if j = σ.1.length then q else ad j) sh (M' σ.1.length))] = mws aC (fun j => if j = σ.1.length then q else ad j) (σ.1 ++ [sh], M') := by
  have ha : ∀ k, k < σ.1.length → (fun j => if j = σ.1.length then q else ad j) k = ad k := fun k hk => if_neg (Nat.ne_of_lt hk)
  have h5 := hw.1
  rw [← mws_ad hw ha]
  apply List.ext_getElem?
  intro i
  by_cases hi : i < σ.1.length - 5
  · have hi5 : i + 5 < σ.1.length := by omega
    rw [List.getElem?_append_left (by rw [mws_len]; omega)]
    have e1 : (σ.1 ++ [sh])[i + 5]? = some σ.1[i + 5] := by rw [List.getElem?_append_left hi5, List.getElem?_eq_getElem hi5]
    have h1 := mws_get (aC := aC) (ad := fun j => if j = σ.1.length then q else ad j) (σ := (σ.1 ++ [sh], M')) e1 (by omega)
    have h2 := mws_get (aC := aC) (ad := fun j => if j = σ.1.length then q else ad j) (σ := σ) (List.getElem?_eq_getElem hi5) (by omega)
    rw [show i + 5 - 5 = i by omega] at h1 h2
    rw [h1, h2]
    show some (_, mE _ _ _ (σ.2 (i + 5))) = some (_, mE _ _ _ (M' (i + 5)))
    rw [hM _ (Nat.ne_of_lt hi5)]
  · rw [List.getElem?_append_right (by rw [mws_len]; omega), mws_len]
    by_cases he : i = σ.1.length - 5
    · have e1 : (σ.1 ++ [sh])[i + 5]? = some sh := by rw [he, show σ.1.length - 5 + 5 = σ.1.length by omega]; simp
      have h1 := mws_get (aC := aC) (ad := fun j => if j = σ.1.length then q else ad j) (σ := (σ.1 ++ [sh], M')) e1 (by omega)
      rw [show i + 5 - 5 = i by omega] at h1
      rw [h1, he, Nat.sub_self, show σ.1.length - 5 + 5 = σ.1.length by omega]
      simp
    · rw [mws_none (i := i) (by simp; omega)]
      rw [List.getElem?_eq_none (by simp; omega)]
theorem sR_ad {ad ad' : Nat → Nat} {n n' : Nat} (ha : ∀ k, k < n → ad' k = ad k) (hn : n ≤ n') : ∀ {S : List mV} {st : List Value}, sR ad n S st → sR ad' n' S st
  | [], [], _ => trivial
  | [], _ :: _, h => h.elim
  | _ :: _, [], h => h.elim
  | v :: S, x :: st, h => by
    refine ⟨?_, sR_ad ha hn h.2⟩
    obtain ⟨h1, h2⟩ := h.1
    rcases v with y | (_ | k) | y | y | u
    · exact ⟨h1, h2⟩
    · exact ⟨h1, h2⟩
    · have h2 : k < n := h2
      refine ⟨?_, (Nat.lt_of_lt_of_le h2 hn : k < n')⟩
      rcases h1 with h1 | h1
      · left
        rw [h1]
        show Value.ref (ad k) = Value.ref (ad' k)
        rw [ha k h2]
      · cases h1.1
    · exact ⟨h1, h2⟩
    · exact ⟨h1, h2⟩
    · exact ⟨h1, h2⟩
theorem okV_le {n n' : Nat} (hn : n ≤ n') {v : mV} (h : okV n v) : okV n' v := by
  rcases v with y | (_ | k) | y | y | u
  · exact h
  · exact h
  · exact Nat.lt_of_lt_of_le (h : k < n) hn
  · exact h
  · exact h
  · exact h
theorem vv_ad {ad ad' : Nat → Nat} {n : Nat} (ha : ∀ k, k < n → ad' k = ad k) {v : mV} (h : okV n v) : vv ad' v = vv ad v := by
  rcases v with y | (_ | k) | y | y | u
  · rfl
  · rfl
  · show Value.ref (ad' k) = Value.ref (ad k)
    rw [ha k h]
  · rfl
  · rfl
  · rfl
theorem lR_ad {ad ad' : Nat → Nat} {n n' nL : Nat} {L : List mV} {ls : Array Slot} (ha : ∀ k, k < n → ad' k = ad k) (hn : n ≤ n') (h : lR ad n L ls nL) : lR ad' n' L ls nL := by
  obtain ⟨h1, lv, h2, h3⟩ := h
  refine ⟨h1, lv, h2, fun i v hi hv => ?_⟩
  obtain ⟨g1, g2⟩ := h3 i v hi hv
  exact ⟨okV_le hn g1, by rw [vv_ad ha g1]; exact g2⟩
theorem msk_cons (b : Bool) (bs : List Bool) (v : mV) (vs : List mV) : msk (b :: bs) (v :: vs) = (match b with
  | true => v
  | false => vj) :: msk bs vs := rfl
theorem lR_msk {ad : Nat → Nat} {n nL : Nat} {ls : Array Slot} (bs : List Bool) {L : List mV} (h : lR ad n L ls nL) : lR ad n (msk bs L) ls nL := by
  obtain ⟨h1, lv, h2, h3⟩ := h
  have key : ∀ (bs : List Bool) (L : List mV), (msk bs L).length ≤ L.length ∧ ∀ (i : Nat) (v : mV), (msk bs L)[i]? = some v → v ≠ vj → L[i]? = some v := by
    intro bs
    induction bs with
    | nil => intro L; exact ⟨by cases L <;> simp [msk], fun i v h => by cases L <;> simp [msk] at h⟩
    | cons b bs ih =>
      intro L
      cases L with
      | nil => exact ⟨by simp [msk], fun i v h => by simp [msk] at h⟩
      | cons x L =>
        obtain ⟨g1, g2⟩ := ih L
        refine ⟨by simp only [msk, List.length_cons]; omega, fun i v h hv => ?_⟩
        cases i with
        | zero =>
          rw [msk_cons, List.getElem?_cons_zero] at h
          cases b with
          | true => rw [List.getElem?_cons_zero]; exact h
          | false => exact absurd (Option.some.inj h).symm hv
        | succ i =>
          rw [msk_cons, List.getElem?_cons_succ] at h
          rw [List.getElem?_cons_succ]
          exact g2 i v h hv
  exact ⟨Nat.le_trans (key bs L).1 h1, lv, h2, fun i v hi hv => h3 i v ((key bs L).2 i v hi hv) hv⟩
theorem sR_len {ad : Nat → Nat} {n : Nat} : ∀ {S : List mV} {st : List Value}, sR ad n S st → st.length = S.length
  | [], [], _ => rfl
  | [], _ :: _, h => h.elim
  | _ :: _, [], h => h.elim
  | _ :: _, _ :: _, h => by rw [List.length_cons, List.length_cons, sR_len h.2]
theorem sR_sum {ad : Nat → Nat} {n : Nat} : ∀ {S : List mV} {st : List Value}, sR ad n S st → (st.map fun v => v.category).sum = c2sum S
  | [], [], _ => rfl
  | [], _ :: _, h => h.elim
  | _ :: _, [], h => h.elim
  | v :: S, x :: st, h => by
    show x.category + (st.map fun v => v.category).sum = _ + c2sum S
    rw [sR_sum h.2, sv_cat h.1.1]
    rfl
theorem c2sum_le : ∀ (S : List mV), c2sum S ≤ 2 * S.length
  | [] => Nat.le_refl _
  | v :: S => by
    have h1 := c2sum_le S
    have h2 : (match c2 v with
      | true => 2
      | false => 1) ≤ 2 := by cases c2 v <;> decide
    show (match c2 v with
      | true => 2
      | false => 1) + c2sum S ≤ 2 * (S.length + 1)
    omega
theorem mNg_warm {w : Cond} (h : mNg w = true) {s U : State} (hW : s.WarmedH U.vm) (hZ : va_Nw w s) : va_Nw w U := by
  unfold mNg at h
  split at h
  · exact va_Nw.warmM hW hZ
  · exact va_Nw.warmF hW hZ
  · exact va_Nw.warmD hW hZ
  · exact va_Nw.warmC hW hZ
  · cases h
theorem mKn.warm {D : va_G} {aC : FieldType → ClassId} {s U : State} (hW : s.WarmedH U.vm) (h : mKn D aC s) : mKn D aC U :=
  ⟨va_K.moved hW.alike h.1, fun w hw => mNg_warm (List.mem_filter.mp hw).2 hW (h.2.1 w hw), fun own k tx hm => by
    obtain ⟨a, ha⟩ := h.2.2.1 own k tx hm
    exact ⟨a, vk_R.warm hW ha⟩, fun i j hi hj hij => va_Nc.moved hW.alike (h.2.2.2 i j hi hj hij)⟩
theorem mKn.same {D : va_G} {aC : FieldType → ClassId} {s U : State} (hv : U.vm = s.vm) (h : mKn D aC s) : mKn D aC U := mKn.warm (by rw [hv]; exact State.WarmedH.refl s) h
theorem mT.moved {t : Nat} {f : Nat → Int} {A : Nat → Prop} {u U : State} {H : Heap} (hvm : u.vm.Alike U.vm) (h : mT t f A u H) : mT t f A U H := by
  obtain ⟨h1, cell, h2, h3, h4⟩ := h
  exact ⟨va_T.moved hvm h1, cell, h2, h3, by rw [hvm.findClass]; exact h4⟩
theorem mT.kept {t : Nat} {f : Nat → Int} {A : Nat → Prop} {U : State} {H H1 : Heap} (h : mT t f A U H) (hq : ∀ a : Nat, a < H.size → ¬ A a → H1[a]? = H[a]?) : mT t f A U H1 := by
  obtain ⟨h1, cell, h2, h3, h4⟩ := h
  have hn : ¬ A t := by
    obtain ⟨_, _, _, _, _, _, _, h⟩ := h1
    exact h
  exact ⟨h1.kept hq, cell, by rw [hq t (Array.getElem?_eq_some_iff.mp h2).1 hn]; exact h2, h3, h4⟩
theorem mT.narrow {t : Nat} {f : Nat → Int} {A B : Nat → Prop} {U : State} {H : Heap} (h : mT t f A U H) (hAB : ∀ q, B q → A q) : mT t f B U H := ⟨h.1.narrow hAB, h.2⟩
theorem mSt0.moved {A : Nat → Prop} {ad : Nat → Nat} {M : mM} {u U : State} {H : Heap} (hvm : u.vm.Alike U.vm) (h : mSt0 A ad M u H) : mSt0 A ad M U H :=
  ⟨va_Z.moved hvm h.1, va_Z.moved hvm h.2.1, va_Z.moved hvm h.2.2.1, fun k hk => mT.moved hvm (h.2.2.2.1 k hk), vx_Zq.moved hvm h.2.2.2.2.1, vx_Zq.moved hvm h.2.2.2.2.2⟩
theorem mSt0.kept {A : Nat → Prop} {ad : Nat → Nat} {M : mM} {U : State} {H H1 : Heap} (h : mSt0 A ad M U H) (hq : ∀ a : Nat, a < H.size → ¬ A a → H1[a]? = H[a]?) : mSt0 A ad M U H1 :=
  ⟨h.1.kept hq, h.2.1.kept hq, h.2.2.1.kept hq, fun k hk => (h.2.2.2.1 k hk).kept hq, h.2.2.2.2.1.kept hq, h.2.2.2.2.2.kept hq⟩
theorem mSt0.narrow {A B : Nat → Prop} {ad : Nat → Nat} {M : mM} {U : State} {H : Heap} (h : mSt0 A ad M U H) (hAB : ∀ q, B q → A q) : mSt0 B ad M U H :=
  ⟨h.1.narrow hAB, h.2.1.narrow hAB, h.2.2.1.narrow hAB, fun k hk => (h.2.2.2.1 k hk).narrow hAB, h.2.2.2.2.1.narrow hAB, h.2.2.2.2.2.narrow hAB⟩
theorem mSt0.to {A : Nat → Prop} {ad ad' : Nat → Nat} {M M' : mM} {U : State} {H : Heap} (h : mSt0 A ad M U H) (ha : ∀ k, k < 5 → ad' k = ad k) (hM : ∀ k, k < 5 → M' k = M k) : mSt0 A ad' M' U H :=
  ⟨by rw [ha 0 (by decide)]; exact h.1, by rw [ha 1 (by decide)]; exact h.2.1, by rw [ha 2 (by decide)]; exact h.2.2.1, fun k hk => by rw [ha k (by omega), hM k (by omega)]; exact h.2.2.2.1 k hk, h.2.2.2.2.1, h.2.2.2.2.2⟩
end
section
/-! A FRAME OF THE SMALL MACHINE OVER THE REAL ONE -/
def mScr (A : Nat → Prop) (ad : Nat → Nat) (M : mM) (s : State) : Prop := ∃ (L : Nat) (xs : Nat → Int32), va_X (ad 3) L xs s s.heap ∧ ad 3 < s.heap.size ∧ ¬ A (ad 3) ∧ M 4 0 = L ∧ L < 2147483648 ∧ ∀ j, j < L → M 3 j = (xs j).toInt
def Fx (P : mP) (m d : Nat) (sc : Bool) (p : Program) (l : Launch) (e : Env) (R : Room) (s : State) (mid : MethodId) (args : Array Value) (below : List Frame) (meth : Method) (c : Code) (D : va_G) (aC : FieldType → ClassId) (ad0 : Nat → Nat) (n0 : Nat) (M0 : mM) (A : Nat → Prop) : Prop :=
  p.tables.exec = Jvm.exec ∧ c.code = (P m).1.2.1 ∧ c.maxLocals = (P m).1.2.2.1 ∧ s.vm.findClass (P m).1.1.cls = some mid.cls ∧ (∀ w ∈ lw_gd, w.before args s = true) ∧ meth.locks = false ∧ mKn D aC s ∧ mSt0 A ad0 M0 s s.heap ∧
  (∀ q, s.heap.size ≤ q → A q) ∧ (d + 10 ≤ R.frames ∧ 40 * d + 300 ≤ R.locals) ∧ ((P m).1.2.2.2.2.1 ≤ R.cells ∧ 2100 * (P m).1.2.2.2.2.1 ≤ R.slots) ∧ c.exceptionTable.toList = tableOf (P m).1.2.2.2.2.2.2 ∧ (sc = true → mScr A ad0 M0 s) ∧ meth.name = (P m).1.1.name ∧ 5 ≤ n0 ∧ l.stackTraces = false ∧ meth.sig.returnType = (P m).1.2.2.2.1
def WG (P : mP) (m : Nat) (p : Program) (l : Launch) (e : Env) (R : Room) (s : State) (mid : MethodId) (args : Array Value) (below : List Frame) (meth : Method) (c : Code) (D : va_G) (aC : FieldType → ClassId) (ad0 : Nat → Nat) (n0 : Nat) (M0 : mM) (A : Nat → Prop) (Q : State → Prop) (pc u : Nat) (L S : List mV) (σ : mS) : Prop :=
  ∀ (ad : Nat → Nat) (H : Heap) (locs : List Loc) (ls : Array Slot) (st : List Value), n0 ≤ σ.1.length → (∀ k, k < n0 → ad k = ad0 k) → mWd D aC ad σ A H → (∀ k, k < 5 → σ.2 k = M0 k) → va_S A s.heap H locs → lR ad σ.1.length L ls (P m).1.2.2.1 → sR ad σ.1.length S st →
    W p l e R s mid args below meth c H locs u (2100 * u) Q (F0 mid pc ls st)
section FR
variable {P : mP} {m d : Nat} {sc : Bool} {p : Program} {l : Launch} {e : Env} {R : Room} {s : State} {mid : MethodId} {args : Array Value} {below : List Frame} {meth : Method} {c : Code} {D : va_G} {aC : FieldType → ClassId} {ad0 : Nat → Nat} {n0 : Nat} {M0 : mM} {A : Nat → Prop} {Q : State → Prop}
variable {pc u : Nat} {L S : List mV} {σ : mS}
theorem Fx.exec (F : Fx P m d sc p l e R s mid args below meth c D aC ad0 n0 M0 A) : p.tables.exec = Jvm.exec := F.1
theorem Fx.code (F : Fx P m d sc p l e R s mid args below meth c D aC ad0 n0 M0 A) : c.code = (P m).1.2.1 := F.2.1
theorem Fx.maxL (F : Fx P m d sc p l e R s mid args below meth c D aC ad0 n0 M0 A) : c.maxLocals = (P m).1.2.2.1 := F.2.2.1
theorem Fx.own (F : Fx P m d sc p l e R s mid args below meth c D aC ad0 n0 M0 A) : s.vm.findClass (P m).1.1.cls = some mid.cls := F.2.2.2.1
theorem Fx.ts (F : Fx P m d sc p l e R s mid args below meth c D aC ad0 n0 M0 A) : ∀ w ∈ lw_gd, w.before args s = true := F.2.2.2.2.1
theorem Fx.locks (F : Fx P m d sc p l e R s mid args below meth c D aC ad0 n0 M0 A) : meth.locks = false := F.2.2.2.2.2.1
theorem Fx.kn (F : Fx P m d sc p l e R s mid args below meth c D aC ad0 n0 M0 A) : mKn D aC s := F.2.2.2.2.2.2.1
theorem Fx.st0 (F : Fx P m d sc p l e R s mid args below meth c D aC ad0 n0 M0 A) : mSt0 A ad0 M0 s s.heap := F.2.2.2.2.2.2.2.1
theorem Fx.hA (F : Fx P m d sc p l e R s mid args below meth c D aC ad0 n0 M0 A) : ∀ q, s.heap.size ≤ q → A q := F.2.2.2.2.2.2.2.2.1
theorem Fx.rm (F : Fx P m d sc p l e R s mid args below meth c D aC ad0 n0 M0 A) : d + 10 ≤ R.frames ∧ 40 * d + 300 ≤ R.locals := F.2.2.2.2.2.2.2.2.2.1
theorem Fx.bd (F : Fx P m d sc p l e R s mid args below meth c D aC ad0 n0 M0 A) : (P m).1.2.2.2.2.1 ≤ R.cells ∧ 2100 * (P m).1.2.2.2.2.1 ≤ R.slots := F.2.2.2.2.2.2.2.2.2.2.1
theorem Fx.tab (F : Fx P m d sc p l e R s mid args below meth c D aC ad0 n0 M0 A) : c.exceptionTable.toList = tableOf (P m).1.2.2.2.2.2.2 := F.2.2.2.2.2.2.2.2.2.2.2.1
theorem Fx.scr (F : Fx P m d sc p l e R s mid args below meth c D aC ad0 n0 M0 A) : sc = true → mScr A ad0 M0 s := F.2.2.2.2.2.2.2.2.2.2.2.2.1
theorem Fx.nm (F : Fx P m d sc p l e R s mid args below meth c D aC ad0 n0 M0 A) : meth.name = (P m).1.1.name := F.2.2.2.2.2.2.2.2.2.2.2.2.2.1
theorem Fx.n5 (F : Fx P m d sc p l e R s mid args below meth c D aC ad0 n0 M0 A) : 5 ≤ n0 := F.2.2.2.2.2.2.2.2.2.2.2.2.2.2.1
theorem Fx.ntr (F : Fx P m d sc p l e R s mid args below meth c D aC ad0 n0 M0 A) : l.stackTraces = false := F.2.2.2.2.2.2.2.2.2.2.2.2.2.2.2.1
theorem Fx.ret (F : Fx P m d sc p l e R s mid args below meth c D aC ad0 n0 M0 A) : meth.sig.returnType = (P m).1.2.2.2.1 := F.2.2.2.2.2.2.2.2.2.2.2.2.2.2.2.2
theorem gd_at (F : Fx P m d sc p l e R s mid args below meth c D aC ad0 n0 M0 A) {w : Cond} {i : Nat} (h : lw_tbl[i]? = some w) (hg : goodWord w = true) : w.before args s = true := F.ts w (gd_mem h hg)
theorem lR_at {ad : Nat → Nat} {n nL i : Nat} {v : mV} {ls : Array Slot} (h : lR ad n L ls nL) (hi : L[i]? = some v) (hv : v ≠ vj) : okV n v ∧ ls[i]? = some (.val (vv ad v)) := by
  obtain ⟨h1, lv, h2, h3⟩ := h
  obtain ⟨g1, g2⟩ := h3 i v hi hv
  exact ⟨g1, h2.2.2 _ g2⟩
theorem stI_some {n : Nat} {v : mV} {L' : List mV} (h : stI L n v = some L') : n < L.length ∧ c2at L n = false ∧ L' = L.set n v := by
  unfold stI at h
  split at h
  · rename_i hd
    simp only [Bool.and_eq_true, decide_eq_true_eq, Bool.not_eq_true'] at hd
    exact ⟨hd.1, hd.2, (Option.some.inj h).symm⟩
  · cases h
theorem stD_some {n : Nat} {v : mV} {L' : List mV} (h : stD L n v = some L') : n + 1 < L.length ∧ c2at L n = false ∧ L' = (L.set n v).set (n + 1) vj := by
  unfold stD at h
  split at h
  · rename_i hd
    simp only [Bool.and_eq_true, decide_eq_true_eq, Bool.not_eq_true'] at hd
    exact ⟨hd.1, hd.2, (Option.some.inj h).symm⟩
  · cases h
theorem c2at_no {n j : Nat} {v : mV} (h : c2at L n = false) (hj : j + 1 = n) (hv : L[j]? = some v) : c2 v = false := by
  subst hj
  have h1 : (match L[j]? with
    | some v => c2 v
    | none => false) = false := h
  rw [hv] at h1
  exact h1
/-- a store of one word: the list of what is known -/
theorem lR_st {ad : Nat → Nat} {n nL i : Nat} {v : mV} {x : Value} {L' : List mV} {ls : Array Slot} (h : lR ad n L ls nL) (hs : stI L i v = some L') (ho : okV n v) (hx : sv ad v x) :
    ∃ lv, lv_has ls nL lv ∧ i < nL ∧ ∀ ls', lv_has ls' nL ((i, x) :: lv.filter (fun q => !(q.1 == i) && !(q.1 + 1 == i && q.2.category == 2))) → lR ad n L' ls' nL := by
  obtain ⟨h1, lv, h2, h3⟩ := h
  obtain ⟨s1, s2, s3⟩ := stI_some hs
  refine ⟨lv, h2, by omega, fun ls' h' => ⟨by rw [s3, List.length_set]; exact h1, _, h', fun j w hj hw => ?_⟩⟩
  rw [s3] at hj
  by_cases hji : j = i
  · subst hji
    rw [List.getElem?_set_self s1] at hj
    cases hj
    refine ⟨ho, ?_⟩
    rcases hx with hx | hx
    · rw [hx]; exact List.mem_cons_self
    · exact absurd hx.1 hw
  · rw [List.getElem?_set_ne (Ne.symm hji)] at hj
    obtain ⟨k1, k2⟩ := h3 j w hj hw
    refine ⟨k1, List.mem_cons_of_mem _ (List.mem_filter.mpr ⟨k2, ?_⟩)⟩
    simp only [Bool.and_eq_true, Bool.not_eq_true', beq_eq_false_iff_ne, Bool.and_eq_false_iff]
    refine ⟨hji, ?_⟩
    by_cases hj1 : j + 1 = i
    · right
      have := c2at_no s2 hj1 hj
      rw [vv_cat, this]
      decide
    · left; exact hj1
theorem lR_std {ad : Nat → Nat} {n nL i : Nat} {v : mV} {x : Value} {L' : List mV} {ls : Array Slot} (h : lR ad n L ls nL) (hs : stD L i v = some L') (ho : okV n v) (hx : x = vv ad v) :
    ∃ lv, lv_has ls nL lv ∧ i + 1 < nL ∧ ∀ ls', lv_has ls' nL ((i, x) :: lv.filter (fun q => !(q.1 == i) && (!(q.1 == i + 1) && !(q.1 + 1 == i && q.2.category == 2)))) → lR ad n L' ls' nL := by
  obtain ⟨h1, lv, h2, h3⟩ := h
  obtain ⟨s1, s2, s3⟩ := stD_some hs
  refine ⟨lv, h2, by omega, fun ls' h' => ⟨by rw [s3, List.length_set, List.length_set]; exact h1, _, h', fun j w hj hw => ?_⟩⟩
  rw [s3] at hj
  by_cases hj2 : j = i + 1
  · subst hj2
    rw [List.getElem?_set_self (by rw [List.length_set]; exact s1)] at hj
    cases hj
    exact absurd rfl hw
  · rw [List.getElem?_set_ne (Ne.symm hj2)] at hj
    by_cases hji : j = i
    · subst hji
      rw [List.getElem?_set_self (by omega)] at hj
      cases hj
      exact ⟨ho, by rw [hx]; exact List.mem_cons_self⟩
    · rw [List.getElem?_set_ne (Ne.symm hji)] at hj
      obtain ⟨k1, k2⟩ := h3 j w hj hw
      refine ⟨k1, List.mem_cons_of_mem _ (List.mem_filter.mpr ⟨k2, ?_⟩)⟩
      simp only [Bool.and_eq_true, Bool.not_eq_true', beq_eq_false_iff_ne, Bool.and_eq_false_iff]
      refine ⟨hji, hj2, ?_⟩
      by_cases hj1 : j + 1 = i
      · right
        have := c2at_no s2 hj1 hj
        rw [vv_cat, this]
        decide
      · left; exact hj1
/-- the straight instructions, a row each -/
theorem s_iconst (F : Fx P m d sc p l e R s mid args below meth c D aC ad0 n0 M0 A) {n : Int} (hd : decode (P m).1.2.1 pc = .ok (.iconst n, 1)) (hn : inR n) (k : WG P m p l e R s mid args below meth c D aC ad0 n0 M0 A Q (pc + 1) u L (vi n :: S) σ) : WG P m p l e R s mid args below meth c D aC ad0 n0 M0 A Q pc u L S σ := by
  intro ad H locs ls st g0 g1 hW g2 hS hL hT
  exact lv_iconst F.exec F.code hd rfl (k ad H locs ls _ g0 g1 hW g2 hS hL ⟨⟨Or.inl rfl, hn⟩, hT⟩)
theorem s_bipush (F : Fx P m d sc p l e R s mid args below meth c D aC ad0 n0 M0 A) {n : Int} (hd : decode (P m).1.2.1 pc = .ok (.bipush n, 2)) (hv : (Int8.ofInt n).toInt32 = Int32.ofInt n) (hn : inR n) (k : WG P m p l e R s mid args below meth c D aC ad0 n0 M0 A Q (pc + 2) u L (vi n :: S) σ) : WG P m p l e R s mid args below meth c D aC ad0 n0 M0 A Q pc u L S σ := by
  intro ad H locs ls st g0 g1 hW g2 hS hL hT
  exact lv_bipush F.exec F.code hd hv (k ad H locs ls _ g0 g1 hW g2 hS hL ⟨⟨Or.inl rfl, hn⟩, hT⟩)
theorem s_sipush (F : Fx P m d sc p l e R s mid args below meth c D aC ad0 n0 M0 A) {n : Int} (hd : decode (P m).1.2.1 pc = .ok (.sipush n, 3)) (hv : (Int16.ofInt n).toInt32 = Int32.ofInt n) (hn : inR n) (k : WG P m p l e R s mid args below meth c D aC ad0 n0 M0 A Q (pc + 3) u L (vi n :: S) σ) : WG P m p l e R s mid args below meth c D aC ad0 n0 M0 A Q pc u L S σ := by
  intro ad H locs ls st g0 g1 hW g2 hS hL hT
  exact lv_sipush F.exec F.code hd hv (k ad H locs ls _ g0 g1 hW g2 hS hL ⟨⟨Or.inl rfl, hn⟩, hT⟩)
theorem s_lconst (F : Fx P m d sc p l e R s mid args below meth c D aC ad0 n0 M0 A) {n : Fin 2} (hd : decode (P m).1.2.1 pc = .ok (.lconst n, 1)) (k : WG P m p l e R s mid args below meth c D aC ad0 n0 M0 A Q (pc + 1) u L (vl (n.val : Int) :: S) σ) : WG P m p l e R s mid args below meth c D aC ad0 n0 M0 A Q pc u L S σ := by
  intro ad H locs ls st g0 g1 hW g2 hS hL hT
  have hn : inR (n.val : Int) := by have := n.isLt; unfold inR; omega
  refine lv_lconst F.exec F.code hd (v := Int64.ofInt (n.val : Int)) ?_ (k ad H locs ls _ g0 g1 hW g2 hS hL ⟨⟨Or.inl rfl, hn⟩, hT⟩)
  rcases n with ⟨n, hn⟩
  rcases (show n = 0 ∨ n = 1 by omega) with rfl | rfl <;> rfl
theorem s_dconst (F : Fx P m d sc p l e R s mid args below meth c D aC ad0 n0 M0 A) (hd : decode (P m).1.2.1 pc = .ok (.dconst 0, 1)) (k : WG P m p l e R s mid args below meth c D aC ad0 n0 M0 A Q (pc + 1) u L (vd FP.dconst0 :: S) σ) : WG P m p l e R s mid args below meth c D aC ad0 n0 M0 A Q pc u L S σ := by
  intro ad H locs ls st g0 g1 hW g2 hS hL hT
  exact lv_dconst0 F.exec F.code hd (k ad H locs ls _ g0 g1 hW g2 hS hL ⟨⟨Or.inl rfl, trivial⟩, hT⟩)
theorem s_iload_n (F : Fx P m d sc p l e R s mid args below meth c D aC ad0 n0 M0 A) {n : Fin 4} {x : Int} (hd : decode (P m).1.2.1 pc = .ok (.iload_n n, 1)) (h : L[n.val]? = some (vi x)) (k : WG P m p l e R s mid args below meth c D aC ad0 n0 M0 A Q (pc + 1) u L (vi x :: S) σ) : WG P m p l e R s mid args below meth c D aC ad0 n0 M0 A Q pc u L S σ := by
  intro ad H locs ls st g0 g1 hW g2 hS hL hT
  obtain ⟨h1, h2⟩ := lR_at hL h (fun q => by cases q)
  exact lv_iload_n F.exec F.code hd rfl h2 (k ad H locs ls _ g0 g1 hW g2 hS hL ⟨⟨Or.inl rfl, h1⟩, hT⟩)
theorem s_iload (F : Fx P m d sc p l e R s mid args below meth c D aC ad0 n0 M0 A) {n : Nat} {x : Int} (hd : decode (P m).1.2.1 pc = .ok (.iload n, 2)) (h : L[n]? = some (vi x)) (k : WG P m p l e R s mid args below meth c D aC ad0 n0 M0 A Q (pc + 2) u L (vi x :: S) σ) : WG P m p l e R s mid args below meth c D aC ad0 n0 M0 A Q pc u L S σ := by
  intro ad H locs ls st g0 g1 hW g2 hS hL hT
  obtain ⟨h1, h2⟩ := lR_at hL h (fun q => by cases q)
  exact lv_iload F.exec F.code hd h2 (k ad H locs ls _ g0 g1 hW g2 hS hL ⟨⟨Or.inl rfl, h1⟩, hT⟩)
theorem s_aload_n (F : Fx P m d sc p l e R s mid args below meth c D aC ad0 n0 M0 A) {n : Fin 4} {x : Option Nat} (hd : decode (P m).1.2.1 pc = .ok (.aload_n n, 1)) (h : L[n.val]? = some (.inr (.inl x))) (k : WG P m p l e R s mid args below meth c D aC ad0 n0 M0 A Q (pc + 1) u L ((.inr (.inl x)) :: S) σ) : WG P m p l e R s mid args below meth c D aC ad0 n0 M0 A Q pc u L S σ := by
  intro ad H locs ls st g0 g1 hW g2 hS hL hT
  obtain ⟨h1, h2⟩ := lR_at hL h (fun q => by cases q)
  cases x with
  | none => exact lv_aload_nN F.exec F.code hd rfl h2 (k ad H locs ls _ g0 g1 hW g2 hS hL ⟨⟨Or.inl rfl, h1⟩, hT⟩)
  | some x => exact lv_aload_n F.exec F.code hd rfl h2 (k ad H locs ls _ g0 g1 hW g2 hS hL ⟨⟨Or.inl rfl, h1⟩, hT⟩)
theorem s_aload (F : Fx P m d sc p l e R s mid args below meth c D aC ad0 n0 M0 A) {n : Nat} {x : Option Nat} (hd : decode (P m).1.2.1 pc = .ok (.aload n, 2)) (h : L[n]? = some (.inr (.inl x))) (k : WG P m p l e R s mid args below meth c D aC ad0 n0 M0 A Q (pc + 2) u L ((.inr (.inl x)) :: S) σ) : WG P m p l e R s mid args below meth c D aC ad0 n0 M0 A Q pc u L S σ := by
  intro ad H locs ls st g0 g1 hW g2 hS hL hT
  obtain ⟨h1, h2⟩ := lR_at hL h (fun q => by cases q)
  cases x with
  | none => exact lv_aloadN F.exec F.code hd h2 (k ad H locs ls _ g0 g1 hW g2 hS hL ⟨⟨Or.inl rfl, h1⟩, hT⟩)
  | some x => exact lv_aload F.exec F.code hd h2 (k ad H locs ls _ g0 g1 hW g2 hS hL ⟨⟨Or.inl rfl, h1⟩, hT⟩)
theorem s_dload_n (F : Fx P m d sc p l e R s mid args below meth c D aC ad0 n0 M0 A) {n : Fin 4} {x : UInt64} (hd : decode (P m).1.2.1 pc = .ok (.dload_n n, 1)) (h : L[n.val]? = some (vd x)) (k : WG P m p l e R s mid args below meth c D aC ad0 n0 M0 A Q (pc + 1) u L (vd x :: S) σ) : WG P m p l e R s mid args below meth c D aC ad0 n0 M0 A Q pc u L S σ := by
  intro ad H locs ls st g0 g1 hW g2 hS hL hT
  obtain ⟨h1, h2⟩ := lR_at hL h (fun q => by cases q)
  exact lv_dload_n F.exec F.code hd rfl h2 (k ad H locs ls _ g0 g1 hW g2 hS hL ⟨⟨Or.inl rfl, h1⟩, hT⟩)
theorem s_dload (F : Fx P m d sc p l e R s mid args below meth c D aC ad0 n0 M0 A) {n : Nat} {x : UInt64} (hd : decode (P m).1.2.1 pc = .ok (.dload n, 2)) (h : L[n]? = some (vd x)) (k : WG P m p l e R s mid args below meth c D aC ad0 n0 M0 A Q (pc + 2) u L (vd x :: S) σ) : WG P m p l e R s mid args below meth c D aC ad0 n0 M0 A Q pc u L S σ := by
  intro ad H locs ls st g0 g1 hW g2 hS hL hT
  obtain ⟨h1, h2⟩ := lR_at hL h (fun q => by cases q)
  exact lv_dload F.exec F.code hd h2 (k ad H locs ls _ g0 g1 hW g2 hS hL ⟨⟨Or.inl rfl, h1⟩, hT⟩)
theorem sR_cons {ad : Nat → Nat} {n : Nat} {v : mV} {r : List mV} {st : List Value} (h : sR ad n (v :: r) st) : ∃ x st', st = x :: st' ∧ sv ad v x ∧ okV n v ∧ sR ad n r st' := by
  cases st with
  | nil => exact h.elim
  | cons x st => exact ⟨x, st, rfl, h.1.1, h.1.2, h.2⟩
theorem sv_i {ad : Nat → Nat} {x : Int} {y : Value} (h : sv ad (vi x) y) : y = .int (Int32.ofInt x) := by
  rcases h with h | h
  · exact h
  · cases h.1
theorem sv_r {ad : Nat → Nat} {x : Option Nat} {y : Value} (h : sv ad (.inr (.inl x)) y) : y = vv ad (.inr (.inl x)) := by
  rcases h with h | h
  · exact h
  · cases h.1
theorem sv_l {ad : Nat → Nat} {x : Int} {y : Value} (h : sv ad (vl x) y) : y = .long (Int64.ofInt x) := by
  rcases h with h | h
  · exact h
  · cases h.1
theorem sv_d {ad : Nat → Nat} {x : UInt64} {y : Value} (h : sv ad (vd x) y) : y = .double x := by
  rcases h with h | h
  · exact h
  · cases h.1
theorem sv_j {ad : Nat → Nat} {y : Value} (h : sv ad vj y) : y = .null ∨ ∃ q, y = .ref q := by
  rcases h with h | h
  · exact Or.inl h
  · exact Or.inr h.2
theorem s_istore_n (F : Fx P m d sc p l e R s mid args below meth c D aC ad0 n0 M0 A) {n : Fin 4} {x : Int} {r L' : List mV} (hd : decode (P m).1.2.1 pc = .ok (.istore_n n, 1)) (h : stI L n.val (vi x) = some L') (k : WG P m p l e R s mid args below meth c D aC ad0 n0 M0 A Q (pc + 1) u L' r σ) : WG P m p l e R s mid args below meth c D aC ad0 n0 M0 A Q pc u L (vi x :: r) σ := by
  intro ad H locs ls st g0 g1 hW g2 hS hL hT
  obtain ⟨y, st', rfl, h1, h2, h3⟩ := sR_cons hT
  obtain ⟨lv, e1, e2, e3⟩ := lR_st hL h h2 h1
  cases sv_i h1
  exact lv_istore_n F.exec F.code hd rfl e1 e2 rfl fun ls' h' => k ad H locs ls' _ g0 g1 hW g2 hS (e3 ls' h') h3
theorem s_istore (F : Fx P m d sc p l e R s mid args below meth c D aC ad0 n0 M0 A) {n : Nat} {x : Int} {r L' : List mV} (hd : decode (P m).1.2.1 pc = .ok (.istore n, 2)) (h : stI L n (vi x) = some L') (k : WG P m p l e R s mid args below meth c D aC ad0 n0 M0 A Q (pc + 2) u L' r σ) : WG P m p l e R s mid args below meth c D aC ad0 n0 M0 A Q pc u L (vi x :: r) σ := by
  intro ad H locs ls st g0 g1 hW g2 hS hL hT
  obtain ⟨y, st', rfl, h1, h2, h3⟩ := sR_cons hT
  obtain ⟨lv, e1, e2, e3⟩ := lR_st hL h h2 h1
  cases sv_i h1
  exact lv_istore F.exec F.code hd e1 e2 rfl fun ls' h' => k ad H locs ls' _ g0 g1 hW g2 hS (e3 ls' h') h3
theorem s_astore_n (F : Fx P m d sc p l e R s mid args below meth c D aC ad0 n0 M0 A) {n : Fin 4} {v : mV} {r L' : List mV} (hv : v = vj ∨ ∃ x, v = .inr (.inl x)) (hd : decode (P m).1.2.1 pc = .ok (.astore_n n, 1)) (h : stI L n.val v = some L') (k : WG P m p l e R s mid args below meth c D aC ad0 n0 M0 A Q (pc + 1) u L' r σ) : WG P m p l e R s mid args below meth c D aC ad0 n0 M0 A Q pc u L (v :: r) σ := by
  intro ad H locs ls st g0 g1 hW g2 hS hL hT
  obtain ⟨y, st', rfl, h1, h2, h3⟩ := sR_cons hT
  obtain ⟨lv, e1, e2, e3⟩ := lR_st hL h h2 h1
  have hy : y = .null ∨ ∃ q, y = .ref q := by
    rcases hv with rfl | ⟨x, rfl⟩
    · exact sv_j h1
    · have := sv_r h1
      cases x with
      | none => exact Or.inl this
      | some x => exact Or.inr ⟨_, this⟩
  rcases hy with rfl | ⟨q, rfl⟩
  · exact lv_astore_nN F.exec F.code hd rfl e1 e2 rfl fun ls' h' => k ad H locs ls' _ g0 g1 hW g2 hS (e3 ls' h') h3
  · exact lv_astore_n F.exec F.code hd rfl e1 e2 rfl fun ls' h' => k ad H locs ls' _ g0 g1 hW g2 hS (e3 ls' h') h3
theorem s_astore (F : Fx P m d sc p l e R s mid args below meth c D aC ad0 n0 M0 A) {n : Nat} {v : mV} {r L' : List mV} (hv : v = vj ∨ ∃ x, v = .inr (.inl x)) (hd : decode (P m).1.2.1 pc = .ok (.astore n, 2)) (h : stI L n v = some L') (k : WG P m p l e R s mid args below meth c D aC ad0 n0 M0 A Q (pc + 2) u L' r σ) : WG P m p l e R s mid args below meth c D aC ad0 n0 M0 A Q pc u L (v :: r) σ := by
  intro ad H locs ls st g0 g1 hW g2 hS hL hT
  obtain ⟨y, st', rfl, h1, h2, h3⟩ := sR_cons hT
  obtain ⟨lv, e1, e2, e3⟩ := lR_st hL h h2 h1
  have hy : y = .null ∨ ∃ q, y = .ref q := by
    rcases hv with rfl | ⟨x, rfl⟩
    · exact sv_j h1
    · have := sv_r h1
      cases x with
      | none => exact Or.inl this
      | some x => exact Or.inr ⟨_, this⟩
  rcases hy with rfl | ⟨q, rfl⟩
  · exact lv_astoreN F.exec F.code hd e1 e2 rfl fun ls' h' => k ad H locs ls' _ g0 g1 hW g2 hS (e3 ls' h') h3
  · exact lv_astore F.exec F.code hd e1 e2 rfl fun ls' h' => k ad H locs ls' _ g0 g1 hW g2 hS (e3 ls' h') h3
theorem s_dstore_n (F : Fx P m d sc p l e R s mid args below meth c D aC ad0 n0 M0 A) {n : Fin 4} {x : UInt64} {r L' : List mV} (hd : decode (P m).1.2.1 pc = .ok (.dstore_n n, 1)) (h : stD L n.val (vd x) = some L') (k : WG P m p l e R s mid args below meth c D aC ad0 n0 M0 A Q (pc + 1) u L' r σ) : WG P m p l e R s mid args below meth c D aC ad0 n0 M0 A Q pc u L (vd x :: r) σ := by
  intro ad H locs ls st g0 g1 hW g2 hS hL hT
  obtain ⟨y, st', rfl, h1, h2, h3⟩ := sR_cons hT
  cases sv_d h1
  obtain ⟨lv, e1, e2, e3⟩ := lR_std hL h h2 rfl
  exact lv_dstore_n F.exec F.code hd rfl e1 e2 rfl fun ls' h' => k ad H locs ls' _ g0 g1 hW g2 hS (e3 ls' h') h3
theorem s_dstore (F : Fx P m d sc p l e R s mid args below meth c D aC ad0 n0 M0 A) {n : Nat} {x : UInt64} {r L' : List mV} (hd : decode (P m).1.2.1 pc = .ok (.dstore n, 2)) (h : stD L n (vd x) = some L') (k : WG P m p l e R s mid args below meth c D aC ad0 n0 M0 A Q (pc + 2) u L' r σ) : WG P m p l e R s mid args below meth c D aC ad0 n0 M0 A Q pc u L (vd x :: r) σ := by
  intro ad H locs ls st g0 g1 hW g2 hS hL hT
  obtain ⟨y, st', rfl, h1, h2, h3⟩ := sR_cons hT
  cases sv_d h1
  obtain ⟨lv, e1, e2, e3⟩ := lR_std hL h h2 rfl
  exact lv_dstore F.exec F.code hd e1 e2 rfl fun ls' h' => k ad H locs ls' _ g0 g1 hW g2 hS (e3 ls' h') h3
theorem s_iinc (F : Fx P m d sc p l e R s mid args below meth c D aC ad0 n0 M0 A) {n : Nat} {q x : Int} {L' : List mV} (hd : decode (P m).1.2.1 pc = .ok (.iinc n q, 3)) (h0 : L[n]? = some (vi x)) (h : stI L n (vi (wr (x + q))) = some L') (k : WG P m p l e R s mid args below meth c D aC ad0 n0 M0 A Q (pc + 3) u L' S σ) : WG P m p l e R s mid args below meth c D aC ad0 n0 M0 A Q pc u L S σ := by
  intro ad H locs ls st g0 g1 hW g2 hS hL hT
  obtain ⟨h1, h2⟩ := lR_at hL h0 (fun q => by cases q)
  obtain ⟨lv, e1, e2, e3⟩ := lR_st (x := .int (Int32.ofInt (wr (x + q)))) hL h (wr_inR _) (Or.inl rfl)
  have e4 : lv_has ls (P m).1.2.2.1 ((n, .int (Int32.ofInt x)) :: lv) := ⟨e1.1, e1.2.1, fun z hz => (List.mem_cons.mp hz).elim (fun e => by rw [e]; exact h2) (e1.2.2 z)⟩
  refine lv_iinc (k := 0) F.exec F.code hd e4 rfl (ofI_add x q) e2 rfl fun ls' h' => k ad H locs ls' _ g0 g1 hW g2 hS (e3 ls' ?_) hT
  refine ⟨h'.1, h'.2.1, fun z hz => h'.2.2 z ?_⟩
  rcases List.mem_cons.mp hz with hz | hz
  · rw [hz]; exact List.mem_cons_self
  · obtain ⟨f1, f2⟩ := List.mem_filter.mp hz
    exact List.mem_cons_of_mem _ (List.mem_filter.mpr ⟨List.mem_cons_of_mem _ f1, f2⟩)
end FR
end
section
section AR
variable {P : mP} {m d : Nat} {sc : Bool} {p : Program} {l : Launch} {e : Env} {R : Room} {s : State} {mid : MethodId} {args : Array Value} {below : List Frame} {meth : Method} {c : Code} {D : va_G} {aC : FieldType → ClassId} {ad0 : Nat → Nat} {n0 : Nat} {M0 : mM} {A : Nat → Prop} {Q : State → Prop}
variable {pc u : Nat} {L S : List mV} {σ : mS}
theorem sR_2 {ad : Nat → Nat} {n : Nat} {v w : mV} {r : List mV} {st : List Value} (h : sR ad n (v :: w :: r) st) : ∃ x y st', st = x :: y :: st' ∧ sv ad v x ∧ okV n v ∧ sv ad w y ∧ okV n w ∧ sR ad n r st' := by
  obtain ⟨x, s1, rfl, a1, a2, h1⟩ := sR_cons h
  obtain ⟨y, s2, rfl, b1, b2, h2⟩ := sR_cons h1
  exact ⟨x, y, s2, rfl, a1, a2, b1, b2, h2⟩
theorem s_iadd (F : Fx P m d sc p l e R s mid args below meth c D aC ad0 n0 M0 A) {x y : Int} {r : List mV} (hd : decode (P m).1.2.1 pc = .ok (.iadd, 1)) (k : WG P m p l e R s mid args below meth c D aC ad0 n0 M0 A Q (pc + 1) u L (vi (wr (x + y)) :: r) σ) : WG P m p l e R s mid args below meth c D aC ad0 n0 M0 A Q pc u L (vi y :: vi x :: r) σ := by
  intro ad H locs ls st g0 g1 hW g2 hS hL hT
  obtain ⟨_, _, st', rfl, h1, h2, h3, h4, h5⟩ := sR_2 hT
  cases sv_i h1; cases sv_i h3
  refine lv_iadd F.exec F.code hd ?_
  rw [ofI_add]
  exact k ad H locs ls _ g0 g1 hW g2 hS hL ⟨⟨Or.inl rfl, wr_inR _⟩, h5⟩
theorem s_isub (F : Fx P m d sc p l e R s mid args below meth c D aC ad0 n0 M0 A) {x y : Int} {r : List mV} (hd : decode (P m).1.2.1 pc = .ok (.isub, 1)) (k : WG P m p l e R s mid args below meth c D aC ad0 n0 M0 A Q (pc + 1) u L (vi (wr (x - y)) :: r) σ) : WG P m p l e R s mid args below meth c D aC ad0 n0 M0 A Q pc u L (vi y :: vi x :: r) σ := by
  intro ad H locs ls st g0 g1 hW g2 hS hL hT
  obtain ⟨_, _, st', rfl, h1, h2, h3, h4, h5⟩ := sR_2 hT
  cases sv_i h1; cases sv_i h3
  refine lv_isub F.exec F.code hd ?_
  rw [ofI_sub]
  exact k ad H locs ls _ g0 g1 hW g2 hS hL ⟨⟨Or.inl rfl, wr_inR _⟩, h5⟩
theorem s_imul (F : Fx P m d sc p l e R s mid args below meth c D aC ad0 n0 M0 A) {x y : Int} {r : List mV} (hd : decode (P m).1.2.1 pc = .ok (.imul, 1)) (k : WG P m p l e R s mid args below meth c D aC ad0 n0 M0 A Q (pc + 1) u L (vi (wr (x * y)) :: r) σ) : WG P m p l e R s mid args below meth c D aC ad0 n0 M0 A Q pc u L (vi y :: vi x :: r) σ := by
  intro ad H locs ls st g0 g1 hW g2 hS hL hT
  obtain ⟨_, _, st', rfl, h1, h2, h3, h4, h5⟩ := sR_2 hT
  cases sv_i h1; cases sv_i h3
  refine lv_imul F.exec F.code hd ?_
  rw [ofI_mul]
  exact k ad H locs ls _ g0 g1 hW g2 hS hL ⟨⟨Or.inl rfl, wr_inR _⟩, h5⟩
theorem s_ineg (F : Fx P m d sc p l e R s mid args below meth c D aC ad0 n0 M0 A) {x : Int} {r : List mV} (hd : decode (P m).1.2.1 pc = .ok (.ineg, 1)) (k : WG P m p l e R s mid args below meth c D aC ad0 n0 M0 A Q (pc + 1) u L (vi (wr (-x)) :: r) σ) : WG P m p l e R s mid args below meth c D aC ad0 n0 M0 A Q pc u L (vi x :: r) σ := by
  intro ad H locs ls st g0 g1 hW g2 hS hL hT
  obtain ⟨_, st', rfl, h1, h2, h3⟩ := sR_cons hT
  cases sv_i h1
  refine lv_ineg F.exec F.code hd ?_
  rw [ofI_neg]
  exact k ad H locs ls _ g0 g1 hW g2 hS hL ⟨⟨Or.inl rfl, wr_inR _⟩, h3⟩
theorem ofI_ne0 {y : Int} (hy : inR y) (h : 0 < y) : ¬ Int32.ofInt y = 0 := fun q => by
  have := (ofI_eq hy inR_0).mp q
  omega
theorem s_irem (F : Fx P m d sc p l e R s mid args below meth c D aC ad0 n0 M0 A) {x y : Int} {r : List mV} (hy0 : 0 < y) (hd : decode (P m).1.2.1 pc = .ok (.irem, 1)) (k : WG P m p l e R s mid args below meth c D aC ad0 n0 M0 A Q (pc + 1) u L (vi (x.tmod y) :: r) σ) : WG P m p l e R s mid args below meth c D aC ad0 n0 M0 A Q pc u L (vi y :: vi x :: r) σ := by
  intro ad H locs ls st g0 g1 hW g2 hS hL hT
  obtain ⟨_, _, st', rfl, h1, h2, h3, h4, h5⟩ := sR_2 hT
  cases sv_i h1; cases sv_i h3
  refine lv_irem F.exec F.code hd (ofI_ne0 h2 hy0) ?_
  rw [ofI_tmod h4 h2 hy0]
  exact k ad H locs ls _ g0 g1 hW g2 hS hL ⟨⟨Or.inl rfl, tmod_inR h2 hy0⟩, h5⟩
theorem s_idiv (F : Fx P m d sc p l e R s mid args below meth c D aC ad0 n0 M0 A) {x y : Int} {r : List mV} (hy0 : 0 < y) (hd : decode (P m).1.2.1 pc = .ok (.idiv, 1)) (k : WG P m p l e R s mid args below meth c D aC ad0 n0 M0 A Q (pc + 1) u L (vi (x.tdiv y) :: r) σ) : WG P m p l e R s mid args below meth c D aC ad0 n0 M0 A Q pc u L (vi y :: vi x :: r) σ := by
  intro ad H locs ls st g0 g1 hW g2 hS hL hT
  obtain ⟨_, _, st', rfl, h1, h2, h3, h4, h5⟩ := sR_2 hT
  cases sv_i h1; cases sv_i h3
  refine lv_idiv F.exec F.code hd (ofI_ne0 h2 hy0) ?_
  rw [ofI_tdiv h4 h2 hy0]
  exact k ad H locs ls _ g0 g1 hW g2 hS hL ⟨⟨Or.inl rfl, tdiv_inR h4 hy0⟩, h5⟩
theorem s_iand (F : Fx P m d sc p l e R s mid args below meth c D aC ad0 n0 M0 A) {x : Int} {r : List mV} (hd : decode (P m).1.2.1 pc = .ok (.iand, 1)) (k : WG P m p l e R s mid args below meth c D aC ad0 n0 M0 A Q (pc + 1) u L (vi (x % 64) :: r) σ) : WG P m p l e R s mid args below meth c D aC ad0 n0 M0 A Q pc u L (vi 63 :: vi x :: r) σ := by
  intro ad H locs ls st g0 g1 hW g2 hS hL hT
  obtain ⟨_, _, st', rfl, h1, h2, h3, h4, h5⟩ := sR_2 hT
  cases sv_i h1; cases sv_i h3
  refine lv_iand F.exec F.code hd ?_
  rw [ofI_and63 h4]
  exact k ad H locs ls _ g0 g1 hW g2 hS hL ⟨⟨Or.inl rfl, (show inR (x % 64) by unfold inR; omega)⟩, h5⟩
theorem s_i2l (F : Fx P m d sc p l e R s mid args below meth c D aC ad0 n0 M0 A) {x : Int} {r : List mV} (hd : decode (P m).1.2.1 pc = .ok (.i2l, 1)) (k : WG P m p l e R s mid args below meth c D aC ad0 n0 M0 A Q (pc + 1) u L (vl x :: r) σ) : WG P m p l e R s mid args below meth c D aC ad0 n0 M0 A Q pc u L (vi x :: r) σ := by
  intro ad H locs ls st g0 g1 hW g2 hS hL hT
  obtain ⟨_, st', rfl, h1, h2, h3⟩ := sR_cons hT
  cases sv_i h1
  exact lv_i2l F.exec F.code hd (ofI_i2l h2) (k ad H locs ls _ g0 g1 hW g2 hS hL ⟨⟨Or.inl rfl, h2⟩, h3⟩)
theorem s_i2c (F : Fx P m d sc p l e R s mid args below meth c D aC ad0 n0 M0 A) {x : Int} {r : List mV} (hd : decode (P m).1.2.1 pc = .ok (.i2c, 1)) (k : WG P m p l e R s mid args below meth c D aC ad0 n0 M0 A Q (pc + 1) u L (vi (x % 65536) :: r) σ) : WG P m p l e R s mid args below meth c D aC ad0 n0 M0 A Q pc u L (vi x :: r) σ := by
  intro ad H locs ls st g0 g1 hW g2 hS hL hT
  obtain ⟨_, st', rfl, h1, h2, h3⟩ := sR_cons hT
  cases sv_i h1
  exact lv_i2c F.exec F.code hd (ofI_i2c h2) (k ad H locs ls _ g0 g1 hW g2 hS hL ⟨⟨Or.inl rfl, (show inR (x % 65536) by unfold inR; omega)⟩, h3⟩)
theorem s_i2d (F : Fx P m d sc p l e R s mid args below meth c D aC ad0 n0 M0 A) {x : Int} {r : List mV} (hd : decode (P m).1.2.1 pc = .ok (.i2d, 1)) (k : WG P m p l e R s mid args below meth c D aC ad0 n0 M0 A Q (pc + 1) u L (vd (FP.i2d (Int32.ofInt x)) :: r) σ) : WG P m p l e R s mid args below meth c D aC ad0 n0 M0 A Q pc u L (vi x :: r) σ := by
  intro ad H locs ls st g0 g1 hW g2 hS hL hT
  obtain ⟨_, st', rfl, h1, h2, h3⟩ := sR_cons hT
  cases sv_i h1
  exact lv_i2d F.exec F.code hd (k ad H locs ls _ g0 g1 hW g2 hS hL ⟨⟨Or.inl rfl, trivial⟩, h3⟩)
theorem s_lcmp (F : Fx P m d sc p l e R s mid args below meth c D aC ad0 n0 M0 A) {x y : Int} {r : List mV} (hd : decode (P m).1.2.1 pc = .ok (.lcmp, 1)) (k : WG P m p l e R s mid args below meth c D aC ad0 n0 M0 A Q (pc + 1) u L (vi (cmpL x y) :: r) σ) : WG P m p l e R s mid args below meth c D aC ad0 n0 M0 A Q pc u L (vl y :: vl x :: r) σ := by
  intro ad H locs ls st g0 g1 hW g2 hS hL hT
  obtain ⟨_, _, st', rfl, h1, h2, h3, h4, h5⟩ := sR_2 hT
  cases sv_l h1; cases sv_l h3
  refine W.lcmp F.exec F.code hd ?_
  rw [ofL_cmp h4 h2]
  exact k ad H locs ls _ g0 g1 hW g2 hS hL ⟨⟨Or.inl rfl, cmpL_inR _ _⟩, h5⟩
theorem s_dcmp (F : Fx P m d sc p l e R s mid args below meth c D aC ad0 n0 M0 A) {x y : UInt64} {op : CmpOp} {r : List mV} (hd : decode (P m).1.2.1 pc = .ok (.dcmp op, 1)) (k : WG P m p l e R s mid args below meth c D aC ad0 n0 M0 A Q (pc + 1) u L (vi (Op.cmpValue (FP.dcmp x y) op).toInt :: r) σ) : WG P m p l e R s mid args below meth c D aC ad0 n0 M0 A Q pc u L (vd y :: vd x :: r) σ := by
  intro ad H locs ls st g0 g1 hW g2 hS hL hT
  obtain ⟨_, _, st', rfl, h1, h2, h3, h4, h5⟩ := sR_2 hT
  cases sv_d h1; cases sv_d h3
  refine lv_dcmp F.exec F.code hd ?_
  refine k ad H locs ls _ g0 g1 hW g2 hS hL ⟨⟨Or.inl ?_, toI_inR _⟩, h5⟩
  show Value.int _ = Value.int (Int32.ofInt _)
  rw [ofI_of]
theorem s_dadd (F : Fx P m d sc p l e R s mid args below meth c D aC ad0 n0 M0 A) {x y : UInt64} {r : List mV} (hn : nn64 (FP.dadd x y) = true) (hd : decode (P m).1.2.1 pc = .ok (.dadd, 1)) (k : WG P m p l e R s mid args below meth c D aC ad0 n0 M0 A Q (pc + 1) u L (vd (FP.dadd x y) :: r) σ) : WG P m p l e R s mid args below meth c D aC ad0 n0 M0 A Q pc u L (vd y :: vd x :: r) σ := by
  intro ad H locs ls st g0 g1 hW g2 hS hL hT
  obtain ⟨_, _, st', rfl, h1, h2, h3, h4, h5⟩ := sR_2 hT
  cases sv_d h1; cases sv_d h3
  exact lv_dadd F.exec F.code hd (show vf_n64 _ from by unfold vf_n64; exact of_decide_eq_true hn) (k ad H locs ls _ g0 g1 hW g2 hS hL ⟨⟨Or.inl rfl, trivial⟩, h5⟩)
theorem s_ddiv (F : Fx P m d sc p l e R s mid args below meth c D aC ad0 n0 M0 A) {x y : UInt64} {r : List mV} (hn : nn64 (FP.ddiv x y) = true) (hd : decode (P m).1.2.1 pc = .ok (.ddiv, 1)) (k : WG P m p l e R s mid args below meth c D aC ad0 n0 M0 A Q (pc + 1) u L (vd (FP.ddiv x y) :: r) σ) : WG P m p l e R s mid args below meth c D aC ad0 n0 M0 A Q pc u L (vd y :: vd x :: r) σ := by
  intro ad H locs ls st g0 g1 hW g2 hS hL hT
  obtain ⟨_, _, st', rfl, h1, h2, h3, h4, h5⟩ := sR_2 hT
  cases sv_d h1; cases sv_d h3
  exact lv_ddiv F.exec F.code hd (show vf_n64 _ from by unfold vf_n64; exact of_decide_eq_true hn) (k ad H locs ls _ g0 g1 hW g2 hS hL ⟨⟨Or.inl rfl, trivial⟩, h5⟩)
theorem sv_c1 {ad : Nat → Nat} {v : mV} {x : Value} (h : sv ad v x) (hc : c2 v = false) : x.category = 1 := by
  rw [sv_cat h, hc]
theorem s_dup (F : Fx P m d sc p l e R s mid args below meth c D aC ad0 n0 M0 A) {v : mV} {r : List mV} (hc : c2 v = false) (hd : decode (P m).1.2.1 pc = .ok (.dup, 1)) (k : WG P m p l e R s mid args below meth c D aC ad0 n0 M0 A Q (pc + 1) u L (v :: v :: r) σ) : WG P m p l e R s mid args below meth c D aC ad0 n0 M0 A Q pc u L (v :: r) σ := by
  intro ad H locs ls st g0 g1 hW g2 hS hL hT
  obtain ⟨x, st', rfl, h1, h2, h3⟩ := sR_cons hT
  exact lv_dup F.exec F.code hd (sv_c1 h1 hc) (k ad H locs ls _ g0 g1 hW g2 hS hL ⟨⟨h1, h2⟩, ⟨h1, h2⟩, h3⟩)
theorem s_pop (F : Fx P m d sc p l e R s mid args below meth c D aC ad0 n0 M0 A) {v : mV} {r : List mV} (hc : c2 v = false) (hd : decode (P m).1.2.1 pc = .ok (.pop, 1)) (k : WG P m p l e R s mid args below meth c D aC ad0 n0 M0 A Q (pc + 1) u L r σ) : WG P m p l e R s mid args below meth c D aC ad0 n0 M0 A Q pc u L (v :: r) σ := by
  intro ad H locs ls st g0 g1 hW g2 hS hL hT
  obtain ⟨x, st', rfl, h1, h2, h3⟩ := sR_cons hT
  exact lv_pop F.exec F.code hd (sv_c1 h1 hc) (k ad H locs ls _ g0 g1 hW g2 hS hL h3)
theorem s_dup2 (F : Fx P m d sc p l e R s mid args below meth c D aC ad0 n0 M0 A) {v w : mV} {r : List mV} (hc : c2 v = false) (hc2 : c2 w = false) (hd : decode (P m).1.2.1 pc = .ok (.dup2, 1)) (k : WG P m p l e R s mid args below meth c D aC ad0 n0 M0 A Q (pc + 1) u L (v :: w :: v :: w :: r) σ) : WG P m p l e R s mid args below meth c D aC ad0 n0 M0 A Q pc u L (v :: w :: r) σ := by
  intro ad H locs ls st g0 g1 hW g2 hS hL hT
  obtain ⟨x, y, st', rfl, h1, h2, h3, h4, h5⟩ := sR_2 hT
  exact lv_dup2_11 F.exec F.code hd (sv_c1 h1 hc) (sv_c1 h3 hc2) (k ad H locs ls _ g0 g1 hW g2 hS hL ⟨⟨h1, h2⟩, ⟨h3, h4⟩, ⟨h1, h2⟩, ⟨h3, h4⟩, h5⟩)
theorem s_dup_x1 (F : Fx P m d sc p l e R s mid args below meth c D aC ad0 n0 M0 A) {v w : mV} {r : List mV} (hc : c2 v = false) (hc2 : c2 w = false) (hd : decode (P m).1.2.1 pc = .ok (.dup_x1, 1)) (k : WG P m p l e R s mid args below meth c D aC ad0 n0 M0 A Q (pc + 1) u L (v :: w :: v :: r) σ) : WG P m p l e R s mid args below meth c D aC ad0 n0 M0 A Q pc u L (v :: w :: r) σ := by
  intro ad H locs ls st g0 g1 hW g2 hS hL hT
  obtain ⟨x, y, st', rfl, h1, h2, h3, h4, h5⟩ := sR_2 hT
  exact lv_dup_x1 F.exec F.code hd (sv_c1 h1 hc) (sv_c1 h3 hc2) (k ad H locs ls _ g0 g1 hW g2 hS hL ⟨⟨h1, h2⟩, ⟨h3, h4⟩, ⟨h1, h2⟩, h5⟩)
/-! branches -/
theorem s_goto (F : Fx P m d sc p l e R s mid args below meth c D aC ad0 n0 M0 A) {off : Int} {tgt : Nat} (hd : decode (P m).1.2.1 pc = .ok (.goto off, 3)) (ht : (pc : Int) + off = tgt) (k : WG P m p l e R s mid args below meth c D aC ad0 n0 M0 A Q tgt u L S σ) : WG P m p l e R s mid args below meth c D aC ad0 n0 M0 A Q pc u L S σ := by
  intro ad H locs ls st g0 g1 hW g2 hS hL hT
  exact lv_goto F.exec F.code hd ht (k ad H locs ls _ g0 g1 hW g2 hS hL hT)
theorem s_icmp (F : Fx P m d sc p l e R s mid args below meth c D aC ad0 n0 M0 A) {cc : ClassFile.Cond} {x y off : Int} {tgt : Nat} {r : List mV} (hd : decode (P m).1.2.1 pc = .ok (.if_icmp cc off, 3)) (ht : (pc : Int) + off = tgt) (kt : cmpI cc x y → WG P m p l e R s mid args below meth c D aC ad0 n0 M0 A Q tgt u L r σ) (kf : ¬ cmpI cc x y → WG P m p l e R s mid args below meth c D aC ad0 n0 M0 A Q (pc + 3) u L r σ) : WG P m p l e R s mid args below meth c D aC ad0 n0 M0 A Q pc u L (vi y :: vi x :: r) σ := by
  intro ad H locs ls st g0 g1 hW g2 hS hL hT
  obtain ⟨_, _, st', rfl, h1, h2, h3, h4, h5⟩ := sR_2 hT
  cases sv_i h1; cases sv_i h3
  have k1 := fun q => kt q ad H locs ls _ g0 g1 hW g2 hS hL h5
  have k2 := fun q => kf q ad H locs ls _ g0 g1 hW g2 hS hL h5
  have e := ofI_eq h4 h2
  have a1 := ofI_lt h4 h2
  have a2 := ofI_lt h2 h4
  have b1 := ofI_le h4 h2
  have b2 := ofI_le h2 h4
  cases cc with
  | eq => exact lv_icmp_eq F.exec F.code hd ht (fun q => k1 (e.mp q)) (fun q => k2 (fun z => q (e.mpr z)))
  | ne => exact lv_icmp_ne F.exec F.code hd ht (fun q => k1 (fun z => q (e.mpr z))) (fun q => k2 (fun z => z (e.mp q)))
  | lt => exact lv_icmp_lt F.exec F.code hd ht (fun q => k1 (a1.mp q)) (fun q => k2 (fun z => q (a1.mpr z)))
  | ge => exact lv_icmp_ge F.exec F.code hd ht (fun q => k1 (b2.mp q)) (fun q => k2 (fun z => q (b2.mpr z)))
  | gt => exact lv_icmp_gt F.exec F.code hd ht (fun q => k1 (a2.mp q)) (fun q => k2 (fun z => q (a2.mpr z)))
  | le => exact lv_icmp_le F.exec F.code hd ht (fun q => k1 (b1.mp q)) (fun q => k2 (fun z => q (b1.mpr z)))
theorem s_if (F : Fx P m d sc p l e R s mid args below meth c D aC ad0 n0 M0 A) {cc : ClassFile.Cond} {x off : Int} {tgt : Nat} {r : List mV} (hd : decode (P m).1.2.1 pc = .ok (.ifCond cc off, 3)) (ht : (pc : Int) + off = tgt) (kt : cmpI cc x 0 → WG P m p l e R s mid args below meth c D aC ad0 n0 M0 A Q tgt u L r σ) (kf : ¬ cmpI cc x 0 → WG P m p l e R s mid args below meth c D aC ad0 n0 M0 A Q (pc + 3) u L r σ) : WG P m p l e R s mid args below meth c D aC ad0 n0 M0 A Q pc u L (vi x :: r) σ := by
  intro ad H locs ls st g0 g1 hW g2 hS hL hT
  obtain ⟨_, st', rfl, h1, h2, h5⟩ := sR_cons hT
  cases sv_i h1
  have k1 := fun q => kt q ad H locs ls _ g0 g1 hW g2 hS hL h5
  have k2 := fun q => kf q ad H locs ls _ g0 g1 hW g2 hS hL h5
  have e := ofI_eq h2 inR_0
  have a1 := ofI_lt h2 inR_0
  have a2 := ofI_lt inR_0 h2
  have b1 := ofI_le h2 inR_0
  have b2 := ofI_le inR_0 h2
  cases cc with
  | eq => exact lv_if_eq F.exec F.code hd ht (fun q => k1 (e.mp q)) (fun q => k2 (fun z => q (e.mpr z)))
  | ne => exact lv_if_ne F.exec F.code hd ht (fun q => k1 (fun z => q (e.mpr z))) (fun q => k2 (fun z => z (e.mp q)))
  | lt => exact lv_if_lt F.exec F.code hd ht (fun q => k1 (a1.mp q)) (fun q => k2 (fun z => q (a1.mpr z)))
  | ge => exact lv_if_ge F.exec F.code hd ht (fun q => k1 (b2.mp q)) (fun q => k2 (fun z => q (b2.mpr z)))
  | gt => exact lv_if_gt F.exec F.code hd ht (fun q => k1 (a2.mp q)) (fun q => k2 (fun z => q (a2.mpr z)))
  | le => exact lv_if_le F.exec F.code hd ht (fun q => k1 (b1.mp q)) (fun q => k2 (fun z => q (b1.mpr z)))
theorem s_table (F : Fx P m d sc p l e R s mid args below meth c D aC ad0 n0 M0 A) {dflt lo hi : Int} {offs : Array Int} {len : Nat} {x : Int} {r : List mV} {ts : List Nat} {df : Nat} {pcs : Nat → Nat} (hd : decode (P m).1.2.1 pc = .ok (.tableswitch dflt lo hi offs, len)) (hlo : ts.length = offs.size) (hhi : hi = lo + ts.length - 1)
    (hdf : (pc : Int) + dflt = pcs df) (hts : ∀ i, i < ts.length → ∃ off, offs[i]? = some off ∧ (pc : Int) + off = pcs (ts.getD i df)) (k : WG P m p l e R s mid args below meth c D aC ad0 n0 M0 A Q (pcs (swT lo ts df x)) u L r σ) : WG P m p l e R s mid args below meth c D aC ad0 n0 M0 A Q pc u L (vi x :: r) σ := by
  intro ad H locs ls st g0 g1 hW g2 hS hL hT
  obtain ⟨_, st', rfl, h1, h2, h5⟩ := sR_cons hT
  cases sv_i h1
  have k1 := k ad H locs ls _ g0 g1 hW g2 hS hL h5
  by_cases c1 : x < lo
  · rw [swT, if_pos c1] at k1
    exact lv_tableOut F.exec F.code hd (Or.inl (by rw [ofI_toInt h2]; exact c1)) hdf k1
  · rw [swT, if_neg c1] at k1
    by_cases c2 : hi < x
    · have e : ts.getD (x - lo).toNat df = df := by
        rw [List.getD_eq_getElem?_getD, List.getElem?_eq_none (by omega)]
        rfl
      rw [e] at k1
      exact lv_tableOut F.exec F.code hd (Or.inr (by rw [ofI_toInt h2]; exact c2)) hdf k1
    · obtain ⟨off, o1, o2⟩ := hts (x - lo).toNat (by omega)
      exact lv_tableIn F.exec F.code hd (by rw [ofI_toInt h2]; exact c1) (by rw [ofI_toInt h2]; exact c2) (by rw [ofI_toInt h2]; exact o1) o2 k1
end AR
end
section
section HP
variable {P : mP} {m d : Nat} {sc : Bool} {p : Program} {l : Launch} {e : Env} {R : Room} {s : State} {mid : MethodId} {args : Array Value} {below : List Frame} {meth : Method} {c : Code} {D : va_G} {aC : FieldType → ClassId} {ad0 : Nat → Nat} {n0 : Nat} {M0 : mM} {A : Nat → Prop} {Q : State → Prop}
variable {pc u : Nat} {L S : List mV} {σ : mS}
theorem mset_ne {M : mM} {k j k' : Nat} {x : Int} (h : k' ≠ k) : mset M k j x k' = M k' := by
  funext b
  unfold mset
  rw [if_neg (fun q => h q.1)]
theorem mset_inR {sh : List mSh} {M : mM} {k j : Nat} {x : Int} (hx : (∀ q, sh[k]? = some q → q.1 ≠ 4) → inR x) (h : mRg (sh, M)) : mRg (sh, mset M k j x) := by
  intro a b hab
  show inR (mset M k j x a b)
  unfold mset
  by_cases hc : a = k ∧ b = j
  · rw [if_pos hc]
    rw [hc.1] at hab
    exact hx hab
  · rw [if_neg hc]; exact h a b hab
theorem mWf.ge {σ : mS} (h : mWf σ) {k : Nat} {sh : mSh} (hk : σ.1[k]? = some sh) (h4 : sh.1 ≤ 4) : 5 ≤ k := by
  rcases Nat.lt_or_ge k 5 with h5 | h5
  · exfalso
    have e : (σ.1.take 5)[k]? = σ.1[k]? := by rw [List.getElem?_take, if_pos h5]
    rw [h.2.1, hk] at e
    rcases (show k = 0 ∨ k = 1 ∨ k = 2 ∨ k = 3 ∨ k = 4 by omega) with rfl | rfl | rfl | rfl | rfl <;> (cases e; revert h4; decide)
  · exact h5
theorem mWf.ro {σ : mS} (h : mWf σ) {k n : Nat} {fs : List (Option (Option Nat))} (hk : σ.1[k]? = some (5, n, fs)) : k < 3 ∧ n = 6 := by
  rcases Nat.lt_or_ge k 5 with h5 | h5
  · have e : (σ.1.take 5)[k]? = σ.1[k]? := by rw [List.getElem?_take, if_pos h5]
    rw [h.2.1, hk] at e
    rcases (show k = 0 ∨ k = 1 ∨ k = 2 ∨ k = 3 ∨ k = 4 by omega) with rfl | rfl | rfl | rfl | rfl <;> (cases e <;> decide)
  · have := (h.2.2 k _ h5 hk)
    exact absurd this.1 (by decide)
/-- one cell written anew -/
theorem mWd.set {ad : Nat → Nat} {σ' : mS} {k : Nat} {sh sh' : mSh} {E : va_E} {H1 : Heap} (hW : mWf σ) (h : σ.1[k]? = some sh) (h4 : sh.1 ≤ 4) (h' : σ'.1[k]? = some sh') (hE : E = mE aC ad sh' (σ'.2 k)) (hn : σ'.1.length = σ.1.length) (ho : ∀ j, j ≠ k → σ'.1[j]? = σ.1[j]?) (hM : ∀ j, j ≠ k → σ'.2 j = σ.2 j)
    (hok : mShOk σ.1.length sh') (h4' : sh'.1 ≤ 4) (hr : mRg σ') (hP : va_P D mcl ((mws aC ad σ).set (k - 5) (ad k, E)) H1) (hD : va_D A ((mws aC ad σ).set (k - 5) (ad k, E))) : mWd D aC ad σ' A H1 := by
  have h5 := hW.ge h h4
  have e := mws_set (aC := aC) (ad := ad) h5 (List.getElem?_eq_some_iff.mp h).1 h' hE hn ho hM
  rw [e] at hP hD
  refine ⟨hP, hD, ⟨by rw [hn]; exact hW.1, ?_, fun j q hj hq => ?_⟩, hr⟩
  · rw [← hW.2.1]
    apply List.ext_getElem?
    intro i
    rw [List.getElem?_take, List.getElem?_take]
    by_cases hi : i < 5
    · rw [if_pos hi, if_pos hi, ho i (by omega)]
    · rw [if_neg hi, if_neg hi]
  · rw [hn]
    by_cases hjk : j = k
    · subst hjk
      rw [h'] at hq
      cases hq
      exact hok
    · rw [ho j hjk] at hq
      exact hW.2.2 j q hj hq
theorem mE_obj {ad : Nat → Nat} {ci : Nat} {fs : List (Option (Option Nat))} {f : Nat → Int} {b : Nat} (hb : b < fs.length) : ((List.range fs.length).map fun j => match fs[j]? with
    | some (some t) => vv ad (.inr (.inl t))
    | _ => Value.int (Int32.ofInt (f j)))[b]? = some (match fs[b]? with
    | some (some t) => vv ad (.inr (.inl t))
    | _ => Value.int (Int32.ofInt (f b))) := by
  rw [List.getElem?_map, List.getElem?_range hb]
  rfl
theorem s_getf (F : Fx P m d sc p l e R s mid args below meth c D aC ad0 n0 M0 A) {k ci b i idx : Nat} {fs : List (Option (Option Nat))} {q : vw_C} {r : List mV} {v : mV} (hk : σ.1[k]? = some (0, ci, fs)) (hq : mcl[ci]? = some q) (hl : lw_tbl[i]? = some (.fieldLink (P m).1.1.cls idx (q.2.1 b).1 (q.2.1 b).2.1 (q.2.1 b).2.2.1)) (hd : decode (P m).1.2.1 pc = .ok (.getfield idx, 3))
    (hv : (fs[b]? = some none ∧ v = vi (σ.2 k b)) ∨ ∃ t, fs[b]? = some (some t) ∧ v = .inr (.inl t)) (kk : WG P m p l e R s mid args below meth c D aC ad0 n0 M0 A Q (pc + 3) u L (v :: r) σ) : WG P m p l e R s mid args below meth c D aC ad0 n0 M0 A Q pc u L (vr k :: r) σ := by
  intro ad H locs ls st g0 g1 hW g2 hS hL hT
  obtain ⟨_, st', rfl, h1, h2, h3⟩ := sR_cons hT
  cases sv_r h1
  have h5 := hW.2.2.1.ge hk (Nat.zero_le 4)
  have hok := hW.2.2.1.2.2 k _ h5 hk
  obtain ⟨⟨q', hq', hlen⟩, hrefs⟩ := hok
  cases Option.some.inj (hq.symm.trans hq')
  have hb : b < fs.length := by
    rcases hv with ⟨h, -⟩ | ⟨t, h, -⟩ <;> exact (List.getElem?_eq_some_iff.mp h).1
  have hval : (match fs[b]? with
    | some (some t) => vv ad (.inr (.inl t))
    | _ => Value.int (Int32.ofInt (σ.2 k b))) = vv ad v := by
    rcases hv with ⟨h, rfl⟩ | ⟨t, h, rfl⟩ <;> rw [h] <;> rfl
  have hov : okV σ.1.length v := by
    rcases hv with ⟨h, rfl⟩ | ⟨t, h, rfl⟩
    · exact hW.2.2.2 k b (fun sh hsh => by rw [hk] at hsh; cases hsh; exact (show (0:Nat) ≠ 4 by decide))
    · cases t with
      | none => trivial
      | some t => exact hrefs t (List.mem_of_getElem? h)
  refine va_get (D := D) (T := q.2.1) (N := q.2.2) (C := q.1) (ref := (q.2.1 b).1) F.exec F.code F.ts (mcl_ws ci q hq) F.own F.kn.1 hW.1 (k - 5) (mws_get hk h5) hq b (by omega) (gd_at F hl rfl) (fun _ h9 => h9) (mE_obj (ci := ci) hb) hd ?_
  rw [hval]
  exact kk ad H locs ls _ g0 g1 hW g2 hS hL ⟨⟨Or.inl rfl, hov⟩, h3⟩
theorem range_set {α : Type} {n b : Nat} {F G : Nat → α} {v : α} (hb : b < n) (hv : G b = v) (ho : ∀ j, j ≠ b → G j = F j) : ((List.range n).map F).set b v = (List.range n).map G := by
  apply List.ext_getElem?
  intro i
  by_cases hi : i = b
  · subst hi
    rw [List.getElem?_set_self (by simp; exact hb), List.getElem?_map, List.getElem?_range hb]
    exact congrArg some hv.symm
  · rw [List.getElem?_set_ne (Ne.symm hi), List.getElem?_map, List.getElem?_map]
    cases hx : (List.range n)[i]? with
    | none => rfl
    | some j =>
      have hin : i < n := by
        have h1 := (List.getElem?_eq_some_iff.mp hx).1
        rwa [List.length_range] at h1
      rw [List.getElem?_range hin] at hx
      cases hx
      exact congrArg some (ho i hi).symm
/-- a number into a field -/
theorem s_putf (F : Fx P m d sc p l e R s mid args below meth c D aC ad0 n0 M0 A) {k ci b i idx : Nat} {x : Int} {fs : List (Option (Option Nat))} {q : vw_C} {r : List mV} (hk : σ.1[k]? = some (0, ci, fs)) (hq : mcl[ci]? = some q) (hl : lw_tbl[i]? = some (.fieldLink (P m).1.1.cls idx (q.2.1 b).1 (q.2.1 b).2.1 (q.2.1 b).2.2.1)) (hd : decode (P m).1.2.1 pc = .ok (.putfield idx, 3))
    (hb : fs[b]? = some none) (hf : (q.2.1 b).2.2.2 = false) (ht : mty ci b = .int ∨ (mty ci b = .boolean ∧ bit? x = true)) (kk : WG P m p l e R s mid args below meth c D aC ad0 n0 M0 A Q (pc + 3) u L r (σ.1, mset σ.2 k b x)) : WG P m p l e R s mid args below meth c D aC ad0 n0 M0 A Q pc u L (vi x :: vr k :: r) σ := by
  intro ad H locs ls st g0 g1 hW g2 hS hL hT
  obtain ⟨_, _, st', rfl, h1, h2, h3, h4, h5⟩ := sR_2 hT
  cases sv_i h1; cases sv_r h3
  have hk5 := hW.2.2.1.ge hk (Nat.zero_le 4)
  have hok := hW.2.2.1.2.2 k _ hk5 hk
  have hok' := hok
  obtain ⟨⟨q', hq', hlen⟩, hrefs⟩ := hok
  cases Option.some.inj (hq.symm.trans hq')
  have hbl : b < fs.length := (List.getElem?_eq_some_iff.mp hb).1
  obtain ⟨t1, t2⟩ := mcl_ty ci q hq
  have hnf : narrow (mty ci b) (.int (Int32.ofInt x)) = .int (Int32.ofInt x) ∧ fits (mty ci b) (.int (Int32.ofInt x)) = true := by
    rcases ht with ht | ⟨ht, hx⟩
    · rw [ht]; exact ⟨rfl, rfl⟩
    · rw [ht]
      unfold bit? at hx
      rw [Bool.or_eq_true, decide_eq_true_eq, decide_eq_true_eq] at hx
      rcases hx with rfl | rfl <;> exact ⟨rfl, rfl⟩
  refine va_put (D := D) (T := q.2.1) (N := q.2.2) (C := q.1) (ref := (q.2.1 b).1) F.exec F.code F.ts (mcl_ws ci q hq) (mty ci) t1 t2 F.own F.kn.1 hW.1 hW.2.1 hS (k - 5) (mws_get hk hk5) hq b (by omega) (gd_at F hl rfl) (fun _ h9 => h9) hf (t1 b (by omega)) hnf.1 hnf.2 (by simp; exact hbl) hd (fun H1 locs1 hP1 hD1 hS1 => ?_)
  have hw' : mWd D aC ad (σ.1, mset σ.2 k b x) A H1 := by
    refine mWd.set (σ' := (σ.1, mset σ.2 k b x)) hW.2.2.1 hk (Nat.zero_le 4) hk ?_ rfl (fun _ _ => rfl) (fun j hj => mset_ne hj) hok' (Nat.zero_le 4) (mset_inR (fun _ => h2) hW.2.2.2) hP1 hD1
    show (Sum.inr (ci, _) : va_E) = Sum.inr (ci, _)
    congr 2
    refine range_set hbl ?_ (fun j hj => ?_)
    · rw [hb]
      show Value.int (Int32.ofInt (mset σ.2 k b x k b)) = _
      unfold mset
      rw [if_pos ⟨rfl, rfl⟩]
    · have e : mset σ.2 k b x k j = σ.2 k j := by unfold mset; rw [if_neg (fun z => hj z.2)]
      show (match fs[j]? with
        | some (some t) => vv ad (.inr (.inl t))
        | _ => Value.int (Int32.ofInt (mset σ.2 k b x k j))) = _
      rw [e]
      rfl
  exact kk ad H1 locs1 ls _ g0 g1 hw' (fun j hj => (mset_ne (by omega)).trans (g2 j hj)) hS1 hL h5
/-- a reference into a field, in a constructor -/
theorem s_putr (F : Fx P m d sc p l e R s mid args below meth c D aC ad0 n0 M0 A) {k ci b i idx : Nat} {t : Option Nat} {t0 : Option Nat} {fs : List (Option (Option Nat))} {q : vw_C} {r : List mV} (hk : σ.1[k]? = some (0, ci, fs)) (hq : mcl[ci]? = some q) (hl : lw_tbl[i]? = some (.fieldLink (P m).1.1.cls idx (q.2.1 b).1 (q.2.1 b).2.1 (q.2.1 b).2.2.1)) (hd : decode (P m).1.2.1 pc = .ok (.putfield idx, 3))
    (hb : fs[b]? = some (some t0)) (hf : (q.2.1 b).2.2.2 = true) (hin : (P m).1.1.name = "<init>") (hdc : (q.2.1 b).1 = (P m).1.1.cls) (ht : (∃ n, mty ci b = .object n) ∨ ∃ z, mty ci b = .array z) (kk : WG P m p l e R s mid args below meth c D aC ad0 n0 M0 A Q (pc + 3) u L r (σ.1.set k (0, ci, fs.set b (some t)), σ.2)) : WG P m p l e R s mid args below meth c D aC ad0 n0 M0 A Q pc u L (.inr (.inl t) :: vr k :: r) σ := by
  intro ad H locs ls st g0 g1 hW g2 hS hL hT
  obtain ⟨_, _, st', rfl, h1, h2, h3, h4, h5⟩ := sR_2 hT
  cases sv_r h1; cases sv_r h3
  have hk5 := hW.2.2.1.ge hk (Nat.zero_le 4)
  have hok := hW.2.2.1.2.2 k _ hk5 hk
  have hkl := (List.getElem?_eq_some_iff.mp hk).1
  obtain ⟨⟨q', hq', hlen⟩, hrefs⟩ := hok
  cases Option.some.inj (hq.symm.trans hq')
  have hbl : b < fs.length := (List.getElem?_eq_some_iff.mp hb).1
  obtain ⟨t1, t2⟩ := mcl_ty ci q hq
  have hnf : narrow (mty ci b) (vv ad (.inr (.inl t))) = vv ad (.inr (.inl t)) ∧ fits (mty ci b) (vv ad (.inr (.inl t))) = true := by
    rcases ht with ⟨n, ht⟩ | ⟨z, ht⟩ <;> rw [ht] <;> cases t <;> exact ⟨rfl, rfl⟩
  refine va_putF (D := D) (T := q.2.1) (N := q.2.2) (C := q.1) (ref := (q.2.1 b).1) F.exec F.code F.ts (mcl_ws ci q hq) (mty ci) t1 t2 F.own F.kn.1 hW.1 hW.2.1 hS (k - 5) (mws_get hk hk5) hq b (by omega) (gd_at F hl rfl) (fun _ h9 => h9) hf (F.nm.trans hin) hdc (t1 b (by omega)) hnf.1 hnf.2 (by simp; exact hbl) hd (fun H1 locs1 hP1 hD1 hS1 => ?_)
  have hset : (σ.1.set k (0, ci, fs.set b (some t)))[k]? = some (0, ci, fs.set b (some t)) := List.getElem?_set_self hkl
  have hlen' : (σ.1.set k (0, ci, fs.set b (some t))).length = σ.1.length := List.length_set
  have hw' : mWd D aC ad (σ.1.set k (0, ci, fs.set b (some t)), σ.2) A H1 := by
    refine mWd.set (σ' := (σ.1.set k (0, ci, fs.set b (some t)), σ.2)) hW.2.2.1 hk (Nat.zero_le 4) hset ?_ hlen' (fun j hj => List.getElem?_set_ne (Ne.symm hj)) (fun _ _ => rfl) ⟨⟨q, hq, by rw [List.length_set]; exact hlen⟩, fun z hz => ?_⟩ (Nat.zero_le 4) (fun a j hj => hW.2.2.2 a j (fun sh hsh => ?_)) hP1 hD1
    · show (Sum.inr (ci, _) : va_E) = Sum.inr (ci, _)
      congr 2
      show _ = (List.range (fs.set b (some t)).length).map _
      rw [List.length_set]
      refine range_set hbl ?_ (fun j hj => ?_)
      · rw [List.getElem?_set_self hbl]
      · rw [List.getElem?_set_ne (Ne.symm hj)]
    · obtain ⟨j, hj⟩ := List.getElem?_of_mem hz
      by_cases hjb : j = b
      · subst hjb
        rw [List.getElem?_set_self hbl] at hj
        cases hj
        exact h2
      · rw [List.getElem?_set_ne (Ne.symm hjb)] at hj
        exact hrefs z (List.mem_of_getElem? hj)
    · by_cases hak : a = k
      · subst hak
        rw [hk] at hsh
        cases hsh
        exact (show (0:Nat) ≠ 4 by decide)
      · exact hj sh (by show (σ.1.set k _)[a]? = _; rw [List.getElem?_set_ne (Ne.symm hak)]; exact hsh)
  refine kk ad H1 locs1 ls _ (by show n0 ≤ (σ.1.set k _).length; rw [hlen']; exact g0) g1 hw' g2 hS1 ?_ ?_
  · show lR ad (σ.1.set k _).length L ls _
    rw [hlen']; exact hL
  · show sR ad (σ.1.set k _).length r _
    rw [hlen']; exact h5
/-- reads of arrays -/
theorem s_iald (F : Fx P m d sc p l e R s mid args below meth c D aC ad0 n0 M0 A) {k : Nat} {x : Int} {r : List mV} (hx : 0 ≤ x ∧ x < alI σ k) (hd : decode (P m).1.2.1 pc = .ok (.iaload, 1)) (kk : WG P m p l e R s mid args below meth c D aC ad0 n0 M0 A Q (pc + 1) u L (vi (σ.2 k x.toNat) :: r) σ) : WG P m p l e R s mid args below meth c D aC ad0 n0 M0 A Q pc u L (vi x :: vr k :: r) σ := by
  intro ad H locs ls st g0 g1 hW g2 hS hL hT
  obtain ⟨_, _, st', rfl, h1, h2, h3, h4, h5⟩ := sR_2 hT
  cases sv_i h1; cases sv_r h3
  obtain ⟨hx0, hx1⟩ := hx
  have hxR := hW.2.2.2
  have fin := fun h => kk ad H locs ls (.int (Int32.ofInt (σ.2 k x.toNat)) :: st') g0 g1 hW g2 hS hL ⟨⟨Or.inl rfl, h⟩, h5⟩
  unfold alI at hx1
  split at hx1
  · rename_i n fs hk
    have hk5 := hW.2.2.1.ge hk (show (1:Nat) ≤ 4 by decide)
    have hr := hxR k x.toNat (fun sh hsh => by rw [hk] at hsh; cases hsh; exact (show (1:Nat) ≠ 4 by decide))
    have h9 := va_iald (D := D) (cl := mcl) (Q := Q) (rest := st') (c := c) F.exec F.code F.kn.1 hW.1 (k - 5) 0 (mws_get hk hk5) rfl (ofI_in h2 hx0 hx1) hd (locs := locs) (ls := ls) (cells := u) (slots := 2100 * u) (args := args) (p := p) (l := l) (e := e) (R := R) (m := mid) (below := below) (meth := meth)
    refine h9 ?_
    show W _ _ _ _ _ _ _ _ _ _ _ _ _ _ _ (F0 _ _ _ (.int (Int32.ofInt (σ.2 k (Int32.ofInt x).toNatClampNeg)) :: _))
    rw [ofI_clamp h2]
    exact fin hr
  · rename_i n fs hk
    obtain ⟨hk3, rfl⟩ := hW.2.2.1.ro hk
    have hr := hxR k x.toNat (fun sh hsh => by rw [hk] at hsh; cases hsh; exact (show (5:Nat) ≠ 4 by decide))
    have hT9 := (F.st0.2.2.2.1 k hk3).1
    rw [← g1 k (by have := F.n5; omega)] at hT9
    refine va_ti (N := 6) F.exec F.code hT9 hS (ofI_in h2 hx0 hx1) (v := .int (Int32.ofInt (σ.2 k x.toNat))) ?_ hd (fin hr)
    rw [ofI_clamp h2, g2 k (by omega)]
  · exact absurd hx1 (by omega)
theorem alK_some {kd k : Nat} {x : Int} (h0 : 0 ≤ x) (h : x < alK σ kd k) : ∃ n fs, σ.1[k]? = some (kd, n, fs) ∧ x < (n : Int) := by
  unfold alK at h
  split at h
  · rename_i q n fs hk
    by_cases hq : q = kd
    · rw [if_pos hq] at h
      subst hq
      exact ⟨n, fs, hk, h⟩
    · rw [if_neg hq] at h
      omega
  · omega
theorem s_cald (F : Fx P m d sc p l e R s mid args below meth c D aC ad0 n0 M0 A) {k : Nat} {x : Int} {r : List mV} (hx : 0 ≤ x ∧ x < alK σ 2 k) (hd : decode (P m).1.2.1 pc = .ok (.caload, 1)) (kk : WG P m p l e R s mid args below meth c D aC ad0 n0 M0 A Q (pc + 1) u L (vi (σ.2 k x.toNat) :: r) σ) : WG P m p l e R s mid args below meth c D aC ad0 n0 M0 A Q pc u L (vi x :: vr k :: r) σ := by
  intro ad H locs ls st g0 g1 hW g2 hS hL hT
  obtain ⟨_, _, st', rfl, h1, h2, h3, h4, h5⟩ := sR_2 hT
  cases sv_i h1; cases sv_r h3
  obtain ⟨n, fs, hk, hn⟩ := alK_some (kd := 2) hx.1 hx.2
  have hk5 := hW.2.2.1.ge hk (show (2:Nat) ≤ 4 by decide)
  refine va_cald (D := D) (cl := mcl) F.exec F.code F.kn.1 hW.1 (k - 5) 1 (mws_get hk hk5) rfl (ofI_in h2 hx.1 hn) hd ?_
  show W _ _ _ _ _ _ _ _ _ _ _ _ _ _ _ (F0 _ _ _ (.int (Int32.ofInt (σ.2 k (Int32.ofInt x).toNatClampNeg)) :: _))
  rw [ofI_clamp h2]
  exact kk ad H locs ls _ g0 g1 hW g2 hS hL ⟨⟨Or.inl rfl, hW.2.2.2 k x.toNat (fun sh hsh => by rw [hk] at hsh; cases hsh; exact (show (2:Nat) ≠ 4 by decide))⟩, h5⟩
theorem s_lald (F : Fx P m d sc p l e R s mid args below meth c D aC ad0 n0 M0 A) {k : Nat} {x : Int} {r : List mV} (hx : 0 ≤ x ∧ x < alK σ 3 k) (hd : decode (P m).1.2.1 pc = .ok (.laload, 1)) (kk : WG P m p l e R s mid args below meth c D aC ad0 n0 M0 A Q (pc + 1) u L (vl (σ.2 k x.toNat) :: r) σ) : WG P m p l e R s mid args below meth c D aC ad0 n0 M0 A Q pc u L (vi x :: vr k :: r) σ := by
  intro ad H locs ls st g0 g1 hW g2 hS hL hT
  obtain ⟨_, _, st', rfl, h1, h2, h3, h4, h5⟩ := sR_2 hT
  cases sv_i h1; cases sv_r h3
  obtain ⟨n, fs, hk, hn⟩ := alK_some (kd := 3) hx.1 hx.2
  have hk5 := hW.2.2.1.ge hk (show (3:Nat) ≤ 4 by decide)
  refine va_lald (D := D) (cl := mcl) F.exec F.code F.kn.1 hW.1 (k - 5) 2 (mws_get hk hk5) rfl (ofI_in h2 hx.1 hn) hd ?_
  show W _ _ _ _ _ _ _ _ _ _ _ _ _ _ _ (F0 _ _ _ (.long (Int64.ofInt (σ.2 k (Int32.ofInt x).toNatClampNeg)) :: _))
  rw [ofI_clamp h2]
  exact kk ad H locs ls _ g0 g1 hW g2 hS hL ⟨⟨Or.inl rfl, hW.2.2.2 k x.toNat (fun sh hsh => by rw [hk] at hsh; cases hsh; exact (show (3:Nat) ≠ 4 by decide))⟩, h5⟩
theorem s_dald (F : Fx P m d sc p l e R s mid args below meth c D aC ad0 n0 M0 A) {k : Nat} {x : Int} {r : List mV} (hx : 0 ≤ x ∧ x < alK σ 4 k) (hd : decode (P m).1.2.1 pc = .ok (.daload, 1)) (kk : WG P m p l e R s mid args below meth c D aC ad0 n0 M0 A Q (pc + 1) u L (vd (UInt64.ofNat (σ.2 k x.toNat).toNat) :: r) σ) : WG P m p l e R s mid args below meth c D aC ad0 n0 M0 A Q pc u L (vi x :: vr k :: r) σ := by
  intro ad H locs ls st g0 g1 hW g2 hS hL hT
  obtain ⟨_, _, st', rfl, h1, h2, h3, h4, h5⟩ := sR_2 hT
  cases sv_i h1; cases sv_r h3
  obtain ⟨n, fs, hk, hn⟩ := alK_some (kd := 4) hx.1 hx.2
  have hk5 := hW.2.2.1.ge hk (show (4:Nat) ≤ 4 by decide)
  refine va_dald (D := D) (cl := mcl) F.exec F.code F.kn.1 hW.1 (k - 5) 3 (mws_get hk hk5) rfl (ofI_in h2 hx.1 hn) hd ?_
  show W _ _ _ _ _ _ _ _ _ _ _ _ _ _ _ (F0 _ _ _ (.double (UInt64.ofNat (σ.2 k (Int32.ofInt x).toNatClampNeg).toNat) :: _))
  rw [ofI_clamp h2]
  exact kk ad H locs ls _ g0 g1 hW g2 hS hL ⟨⟨Or.inl rfl, trivial⟩, h5⟩
theorem s_alen (F : Fx P m d sc p l e R s mid args below meth c D aC ad0 n0 M0 A) {k : Nat} {r : List mV} (hx : 0 < alA σ k) (hd : decode (P m).1.2.1 pc = .ok (.arraylength, 1)) (kk : WG P m p l e R s mid args below meth c D aC ad0 n0 M0 A Q (pc + 1) u L (vi (alA σ k) :: r) σ) : WG P m p l e R s mid args below meth c D aC ad0 n0 M0 A Q pc u L (vr k :: r) σ := by
  intro ad H locs ls st g0 g1 hW g2 hS hL hT
  obtain ⟨_, st', rfl, h1, h2, h5⟩ := sR_cons hT
  cases sv_r h1
  have fin : ∀ n : Nat, alA σ k = n → n ≤ 2100 → W p l e R s mid args below meth c H locs u (2100 * u) Q (F0 mid (pc + 1) ls (.int (Int32.ofNat n) :: st')) := by
    intro n hn hle
    refine kk ad H locs ls _ g0 g1 hW g2 hS hL ⟨⟨Or.inl ?_, ?_⟩, h5⟩
    · rw [hn]
      show Value.int _ = Value.int _
      rw [← Int32.ofInt_eq_ofNat]
    · rw [hn]; show inR n; unfold inR; omega
  unfold alA at hx
  split at hx
  · omega
  · omega
  · rename_i q n fs hn0 hn6 hk
    have hA : alA σ k = n := by
      unfold alA
      rw [hk]
      split
      · rename_i h; cases h; exact (hn0 rfl).elim
      · rename_i h; cases h; exact (hn6 rfl).elim
      · rename_i h; cases h; rfl
      · rename_i h; cases h
    by_cases hq : q ≤ 4
    · have hk5 := hW.2.2.1.ge hk hq
      have hok := hW.2.2.1.2.2 k _ hk5 hk
      have hle : n ≤ 2100 := by
        rcases q with _ | q
        · exact (hn0 rfl).elim
        · exact hok.2
      have key : ∀ (t0 : Nat) (cA : ClassId) (x : vp_A) (ty : FieldType), mE aC ad (q, n, fs) (σ.2 k) = .inl (cA, x) → x.1 = n → (mTy aC)[t0]? = some (cA, ty) → W p l e R s mid args below meth c H locs u (2100 * u) Q (F0 mid pc ls (Value.ref (ad k) :: st')) := by
        intro t0 cA x ty e1 e2 e3
        have g := mws_get (aC := aC) (ad := ad) hk hk5
        rw [e1] at g
        exact va_alen (D := D) (cl := mcl) F.exec F.code F.kn.1 hW.1 (k - 5) t0 g e3 (by rw [e2]) hd (fin n hA hle)
      rcases (show q = 0 ∨ q = 1 ∨ q = 2 ∨ q = 3 ∨ q = 4 by omega) with rfl | rfl | rfl | rfl | rfl
      · exact (hn0 rfl).elim
      · exact key 0 _ _ _ rfl rfl rfl
      · exact key 1 _ _ _ rfl rfl rfl
      · exact key 2 _ _ _ rfl rfl rfl
      · exact key 3 _ _ _ rfl rfl rfl
    · by_cases hq5 : q = 5
      · subst hq5
        obtain ⟨hk3, rfl⟩ := hW.2.2.1.ro hk
        have hT9 := (F.st0.2.2.2.1 k hk3).1
        rw [← g1 k (by have := F.n5; omega)] at hT9
        exact va_tlen F.exec F.code hT9 hS rfl hd (fin 6 hA (by decide))
      · exfalso
        rcases Nat.lt_or_ge k 5 with h5' | h5'
        · have e : (σ.1.take 5)[k]? = σ.1[k]? := by rw [List.getElem?_take, if_pos h5']
          rw [hW.2.2.1.2.1, hk] at e
          rcases (show k = 0 ∨ k = 1 ∨ k = 2 ∨ k = 3 ∨ k = 4 by omega) with rfl | rfl | rfl | rfl | rfl <;> cases e
          · exact hq5 rfl
          · exact hq5 rfl
          · exact hq5 rfl
          · exact hn6 rfl
          · exact absurd hx (by decide)
        · have hok := hW.2.2.1.2.2 k _ h5' hk
          rcases q with _ | q
          · exact hq (Nat.zero_le 4)
          · exact hq hok.1
  · omega
end HP
end
section
section ST
variable {P : mP} {m d : Nat} {sc : Bool} {p : Program} {l : Launch} {e : Env} {R : Room} {s : State} {mid : MethodId} {args : Array Value} {below : List Frame} {meth : Method} {c : Code} {D : va_G} {aC : FieldType → ClassId} {ad0 : Nat → Nat} {n0 : Nat} {M0 : mM} {A : Nat → Prop} {Q : State → Prop}
variable {pc u : Nat} {L S : List mV} {σ : mS}
theorem upd_m (M : mM) (k : Nat) {x v : Int} (hx : inR x) : upd (fun j => Int32.ofInt (M k j)) (Int32.ofInt x).toNatClampNeg (Int32.ofInt v) = fun j => Int32.ofInt (mset M k x.toNat v k j) := by
  funext j
  rw [ofI_clamp hx]
  show (if j = x.toNat then Int32.ofInt v else Int32.ofInt (M k j)) = Int32.ofInt (mset M k x.toNat v k j)
  unfold mset
  by_cases h : j = x.toNat
  · rw [if_pos h, if_pos ⟨rfl, h⟩]
  · rw [if_neg h, if_neg (fun z => h z.2)]
theorem set_one {ad : Nat → Nat} {k n kd : Nat} {fs : List (Option (Option Nat))} {M' : mM} {E : va_E} {H1 : Heap} {f' : Nat → Int} (hW : mWf σ) (h : σ.1[k]? = some (kd, n, fs)) (h1 : 1 ≤ kd) (h4 : kd ≤ 4) (hE : E = mE aC ad (kd, n, fs) (M' k)) (hM : ∀ j, j ≠ k → M' j = σ.2 j) (hr : mRg (σ.1, M'))
    (hP : va_P D mcl ((mws aC ad σ).set (k - 5) (ad k, E)) H1) (hD : va_D A ((mws aC ad σ).set (k - 5) (ad k, E))) : mWd D aC ad (σ.1, M') A H1 :=
  mWd.set (σ' := (σ.1, M')) hW h h4 h hE rfl (fun _ _ => rfl) hM (hW.2.2 k _ (hW.ge h h4) h) h4 hr hP hD
theorem s_iast (F : Fx P m d sc p l e R s mid args below meth c D aC ad0 n0 M0 A) {k : Nat} {x v : Int} {r : List mV} (hx : 0 ≤ x ∧ x < alK σ 1 k) (hd : decode (P m).1.2.1 pc = .ok (.iastore, 1)) (kk : WG P m p l e R s mid args below meth c D aC ad0 n0 M0 A Q (pc + 1) u L r (σ.1, mset σ.2 k x.toNat v)) : WG P m p l e R s mid args below meth c D aC ad0 n0 M0 A Q pc u L (vi v :: vi x :: vr k :: r) σ := by
  intro ad H locs ls st g0 g1 hW g2 hS hL hT
  obtain ⟨_, _, st1, rfl, h1, h2, h3, h4, h5⟩ := sR_2 hT
  obtain ⟨_, st', rfl, h6, h7, h8⟩ := sR_cons h5
  cases sv_i h1; cases sv_i h3; cases sv_r h6
  obtain ⟨n, fs, hk, hn⟩ := alK_some (kd := 1) hx.1 hx.2
  have hk5 := hW.2.2.1.ge hk (show (1:Nat) ≤ 4 by decide)
  refine va_iast (D := D) (cl := mcl) F.exec F.code F.kn.1 hW.1 hW.2.1 hS (k - 5) 0 (mws_get hk hk5) rfl (ofI_in h4 hx.1 hn) hd (fun H1 locs1 hP1 hD1 hS1 => ?_)
  have e := upd_m σ.2 k (v := v) h4
  rw [e] at hP1 hD1
  have hw' : mWd D aC ad (σ.1, mset σ.2 k x.toNat v) A H1 := set_one (f' := fun _ => 0) hW.2.2.1 hk (by decide) (by decide) rfl (fun j hj => mset_ne hj) (mset_inR (fun _ => h2) hW.2.2.2) hP1 hD1
  exact kk ad H1 locs1 ls _ g0 g1 hw' (fun j hj => (mset_ne (by omega)).trans (g2 j hj)) hS1 hL h8
theorem nar_char {v : Int} (h0 : 0 ≤ v) (h1 : v < 65536) : vp_nar .char (Int32.ofInt v) = Int32.ofInt v := by
  rw [vp_nar_char]
  have hR : inR v := by unfold inR; omega
  have e := ofI_i2c hR
  rw [Int.emod_eq_of_lt h0 h1] at e
  exact e
theorem s_cast (F : Fx P m d sc p l e R s mid args below meth c D aC ad0 n0 M0 A) {k : Nat} {x v : Int} {r : List mV} (hx : 0 ≤ x ∧ x < alK σ 2 k) (hv : 0 ≤ v ∧ v < 65536) (hd : decode (P m).1.2.1 pc = .ok (.castore, 1)) (kk : WG P m p l e R s mid args below meth c D aC ad0 n0 M0 A Q (pc + 1) u L r (σ.1, mset σ.2 k x.toNat v)) : WG P m p l e R s mid args below meth c D aC ad0 n0 M0 A Q pc u L (vi v :: vi x :: vr k :: r) σ := by
  intro ad H locs ls st g0 g1 hW g2 hS hL hT
  obtain ⟨_, _, st1, rfl, h1, h2, h3, h4, h5⟩ := sR_2 hT
  obtain ⟨_, st', rfl, h6, h7, h8⟩ := sR_cons h5
  cases sv_i h1; cases sv_i h3; cases sv_r h6
  obtain ⟨n, fs, hk, hn⟩ := alK_some (kd := 2) hx.1 hx.2
  have hk5 := hW.2.2.1.ge hk (show (2:Nat) ≤ 4 by decide)
  refine va_cast (D := D) (cl := mcl) F.exec F.code F.kn.1 hW.1 hW.2.1 hS (k - 5) 1 (mws_get hk hk5) rfl (ofI_in h4 hx.1 hn) hd (fun H1 locs1 hP1 hD1 hS1 => ?_)
  rw [nar_char hv.1 hv.2] at hP1 hD1
  have e := upd_m σ.2 k (v := v) h4
  rw [e] at hP1 hD1
  have hw' : mWd D aC ad (σ.1, mset σ.2 k x.toNat v) A H1 := set_one (f' := fun _ => 0) hW.2.2.1 hk (by decide) (by decide) rfl (fun j hj => mset_ne hj) (mset_inR (fun _ => h2) hW.2.2.2) hP1 hD1
  exact kk ad H1 locs1 ls _ g0 g1 hw' (fun j hj => (mset_ne (by omega)).trans (g2 j hj)) hS1 hL h8
theorem s_last (F : Fx P m d sc p l e R s mid args below meth c D aC ad0 n0 M0 A) {k : Nat} {x v : Int} {r : List mV} (hx : 0 ≤ x ∧ x < alK σ 3 k) (hd : decode (P m).1.2.1 pc = .ok (.lastore, 1)) (kk : WG P m p l e R s mid args below meth c D aC ad0 n0 M0 A Q (pc + 1) u L r (σ.1, mset σ.2 k x.toNat v)) : WG P m p l e R s mid args below meth c D aC ad0 n0 M0 A Q pc u L (vl v :: vi x :: vr k :: r) σ := by
  intro ad H locs ls st g0 g1 hW g2 hS hL hT
  obtain ⟨_, _, st1, rfl, h1, h2, h3, h4, h5⟩ := sR_2 hT
  obtain ⟨_, st', rfl, h6, h7, h8⟩ := sR_cons h5
  cases sv_l h1; cases sv_i h3; cases sv_r h6
  obtain ⟨n, fs, hk, hn⟩ := alK_some (kd := 3) hx.1 hx.2
  have hk5 := hW.2.2.1.ge hk (show (3:Nat) ≤ 4 by decide)
  refine va_last (D := D) (cl := mcl) F.exec F.code F.kn.1 hW.1 hW.2.1 hS (k - 5) 2 (mws_get hk hk5) rfl (ofI_in h4 hx.1 hn) hd (fun H1 locs1 hP1 hD1 hS1 => ?_)
  have e : vp_updL (fun j => Int64.ofInt (σ.2 k j)) (Int32.ofInt x).toNatClampNeg (Int64.ofInt v) = fun j => Int64.ofInt (mset σ.2 k x.toNat v k j) := by
    funext j
    rw [ofI_clamp h4]
    show (if j = x.toNat then Int64.ofInt v else Int64.ofInt (σ.2 k j)) = Int64.ofInt (mset σ.2 k x.toNat v k j)
    unfold mset
    by_cases h : j = x.toNat
    · rw [if_pos h, if_pos ⟨rfl, h⟩]
    · rw [if_neg h, if_neg (fun z => h z.2)]
  rw [e] at hP1 hD1
  have hw' : mWd D aC ad (σ.1, mset σ.2 k x.toNat v) A H1 := set_one (f' := fun _ => 0) hW.2.2.1 hk (by decide) (by decide) rfl (fun j hj => mset_ne hj) (mset_inR (fun _ => h2) hW.2.2.2) hP1 hD1
  exact kk ad H1 locs1 ls _ g0 g1 hw' (fun j hj => (mset_ne (by omega)).trans (g2 j hj)) hS1 hL h8
theorem s_dast (F : Fx P m d sc p l e R s mid args below meth c D aC ad0 n0 M0 A) {k : Nat} {x : Int} {v : UInt64} {r : List mV} (hx : 0 ≤ x ∧ x < alK σ 4 k) (hd : decode (P m).1.2.1 pc = .ok (.dastore, 1)) (kk : WG P m p l e R s mid args below meth c D aC ad0 n0 M0 A Q (pc + 1) u L r (σ.1, mset σ.2 k x.toNat (v.toNat : Int))) : WG P m p l e R s mid args below meth c D aC ad0 n0 M0 A Q pc u L (vd v :: vi x :: vr k :: r) σ := by
  intro ad H locs ls st g0 g1 hW g2 hS hL hT
  obtain ⟨_, _, st1, rfl, h1, h2, h3, h4, h5⟩ := sR_2 hT
  obtain ⟨_, st', rfl, h6, h7, h8⟩ := sR_cons h5
  cases sv_d h1; cases sv_i h3; cases sv_r h6
  obtain ⟨n, fs, hk, hn⟩ := alK_some (kd := 4) hx.1 hx.2
  have hk5 := hW.2.2.1.ge hk (show (4:Nat) ≤ 4 by decide)
  refine va_dast (D := D) (cl := mcl) F.exec F.code F.kn.1 hW.1 hW.2.1 hS (k - 5) 3 (mws_get hk hk5) rfl (ofI_in h4 hx.1 hn) hd (fun H1 locs1 hP1 hD1 hS1 => ?_)
  have e : vf_upd (fun j => UInt64.ofNat (σ.2 k j).toNat) (Int32.ofInt x).toNatClampNeg v = fun j => UInt64.ofNat (mset σ.2 k x.toNat (v.toNat : Int) k j).toNat := by
    funext j
    rw [ofI_clamp h4]
    show (if j = x.toNat then v else UInt64.ofNat (σ.2 k j).toNat) = UInt64.ofNat (mset σ.2 k x.toNat (v.toNat : Int) k j).toNat
    unfold mset
    by_cases h : j = x.toNat
    · rw [if_pos h, if_pos ⟨rfl, h⟩]
      show v = UInt64.ofNat v.toNat
      rw [UInt64.ofNat_toNat]
    · rw [if_neg h, if_neg (fun z => h z.2)]
  rw [e] at hP1 hD1
  have hw' : mWd D aC ad (σ.1, mset σ.2 k x.toNat (v.toNat : Int)) A H1 := set_one (f' := fun _ => 0) hW.2.2.1 hk (by decide) (by decide) rfl (fun j hj => mset_ne hj) (mset_inR (fun h => absurd rfl (h _ hk)) hW.2.2.2) hP1 hD1
  exact kk ad H1 locs1 ls _ g0 g1 hw' (fun j hj => (mset_ne (by omega)).trans (g2 j hj)) hS1 hL h8
/-- the script -/
theorem s_sld (F : Fx P m d sc p l e R s mid args below meth c D aC ad0 n0 M0 A) (hsc : sc = true) {x : Int} {r : List mV} (hx : 0 ≤ x ∧ x < σ.2 4 0) (hd : decode (P m).1.2.1 pc = .ok (.iaload, 1)) (kk : WG P m p l e R s mid args below meth c D aC ad0 n0 M0 A Q (pc + 1) u L (vi (σ.2 3 x.toNat) :: r) σ) : WG P m p l e R s mid args below meth c D aC ad0 n0 M0 A Q pc u L (vi x :: vr 3 :: r) σ := by
  intro ad H locs ls st g0 g1 hW g2 hS hL hT
  obtain ⟨_, _, st', rfl, h1, h2, h3, h4, h5⟩ := sR_2 hT
  cases sv_i h1; cases sv_r h3
  obtain ⟨Ln, xs, e1, e2, e3, e4, e5, e6⟩ := F.scr hsc
  have ha : ad 3 = ad0 3 := g1 3 (by have := F.n5; omega)
  have hn : x < (Ln : Int) := by rw [← e4, ← g2 4 (by decide)]; exact hx.2
  have hv := e6 x.toNat (by omega)
  have hv2 : σ.2 3 x.toNat = (xs x.toNat).toInt := by rw [g2 3 (by decide)]; exact hv
  have key := va_sld F.exec F.code e1 e2 e3 hS (ofI_in h2 hx.1 hn) hd (Q := Q) (p := p) (l := l) (e := e) (R := R) (m := mid) (below := below) (meth := meth) (cells := u) (slots := 2100 * u) (args := args) (rest := st') (ls := ls)
  show W _ _ _ _ _ _ _ _ _ _ _ _ _ _ _ (F0 _ _ _ (_ :: Value.ref (ad 3) :: _))
  rw [ha]
  refine key ?_
  rw [ofI_clamp h2]
  refine kk ad H locs ls _ g0 g1 hW g2 hS hL ⟨⟨Or.inl ?_, ?_⟩, h5⟩
  · show Value.int _ = Value.int _
    rw [hv2, ofI_of]
  · rw [hv2]; exact toI_inR _
theorem s_slen (F : Fx P m d sc p l e R s mid args below meth c D aC ad0 n0 M0 A) (hsc : sc = true) {r : List mV} (hd : decode (P m).1.2.1 pc = .ok (.arraylength, 1)) (kk : WG P m p l e R s mid args below meth c D aC ad0 n0 M0 A Q (pc + 1) u L (vi (σ.2 4 0) :: r) σ) : WG P m p l e R s mid args below meth c D aC ad0 n0 M0 A Q pc u L (vr 3 :: r) σ := by
  intro ad H locs ls st g0 g1 hW g2 hS hL hT
  obtain ⟨_, st', rfl, h1, h2, h5⟩ := sR_cons hT
  cases sv_r h1
  obtain ⟨Ln, xs, e1, e2, e3, e4, e5, e6⟩ := F.scr hsc
  have ha : ad 3 = ad0 3 := g1 3 (by have := F.n5; omega)
  have hv : σ.2 4 0 = Ln := by rw [g2 4 (by decide)]; exact e4
  show W _ _ _ _ _ _ _ _ _ _ _ _ _ _ _ (F0 _ _ _ (Value.ref (ad 3) :: _))
  rw [ha]
  refine va_slen F.exec F.code e1 e2 e3 hS hd ?_
  refine kk ad H locs ls _ g0 g1 hW g2 hS hL ⟨⟨Or.inl ?_, ?_⟩, h5⟩
  · show Value.int _ = Value.int _
    rw [hv, ← Int32.ofInt_eq_ofNat]
  · rw [hv]; show inR (Ln : Int); unfold inR; omega
/-- statics -/
def stN (a : Nat) : String := match a with
  | 0 => "FIRST_VALUES"
  | 1 => "LEAST_VALUES"
  | _ => "GREATEST_VALUES"
theorem st_Z (F : Fx P m d sc p l e R s mid args below meth c D aC ad0 n0 M0 A) {a : Nat} (ha : a < 3) : va_Z "SpatialPoints" (stN a) "[I" (.ref (ad0 a)) A s s.heap := by
  rcases (show a = 0 ∨ a = 1 ∨ a = 2 by omega) with rfl | rfl | rfl
  · exact F.st0.1
  · exact F.st0.2.1
  · exact F.st0.2.2.1
theorem s_gets (F : Fx P m d sc p l e R s mid args below meth c D aC ad0 n0 M0 A) {a i idx : Nat} (ha : a < 3) (hl : lw_tbl[i]? = some (.fieldLink (P m).1.1.cls idx "SpatialPoints" (stN a) "[I")) (hd : decode (P m).1.2.1 pc = .ok (.getstatic idx, 3)) (kk : WG P m p l e R s mid args below meth c D aC ad0 n0 M0 A Q (pc + 3) u L (vr a :: S) σ) : WG P m p l e R s mid args below meth c D aC ad0 n0 M0 A Q pc u L S σ := by
  intro ad H locs ls st g0 g1 hW g2 hS hL hT
  have hn := F.n5
  refine va_gets F.exec F.code (st_Z F ha) hS F.own (gd_at F hl rfl) (fun _ h => h) hd ?_
  refine kk ad H locs ls _ g0 g1 hW g2 hS hL ⟨⟨Or.inl ?_, (by show a < σ.1.length; omega)⟩, hT⟩
  show Value.ref _ = Value.ref _
  rw [g1 a (by omega)]
theorem ng_at (F : Fx P m d sc p l e R s mid args below meth c D aC ad0 n0 M0 A) {w : Cond} {i : Nat} (h : lw_tbl[i]? = some w) (hg : mNg w = true) : va_Nw w s := F.kn.2.1 w (ng_mem h hg)
theorem s_getsN (F : Fx P m d sc p l e R s mid args below meth c D aC ad0 n0 M0 A) {a i idx : Nat} {host : String} (ha : a < 3) (hl : lw_tbl[i]? = some (.fieldLinkNest (P m).1.1.cls idx "SpatialPoints" (stN a) "[I" host)) (hd : decode (P m).1.2.1 pc = .ok (.getstatic idx, 3)) (kk : WG P m p l e R s mid args below meth c D aC ad0 n0 M0 A Q (pc + 3) u L (vr a :: S) σ) : WG P m p l e R s mid args below meth c D aC ad0 n0 M0 A Q pc u L S σ := by
  intro ad H locs ls st g0 g1 hW g2 hS hL hT
  have hn := F.n5
  refine va_getsN F.exec F.code (st_Z F ha) hS F.own (va_Nw.use rfl (ng_at F hl rfl)) (fun _ h => h) hd ?_
  refine kk ad H locs ls _ g0 g1 hW g2 hS hL ⟨⟨Or.inl ?_, (by show a < σ.1.length; omega)⟩, hT⟩
  show Value.ref _ = Value.ref _
  rw [g1 a (by omega)]
/-- the machine's own small functions -/
theorem lR_sz {ad : Nat → Nat} {n nL : Nat} {ls : Array Slot} (h : lR ad n L ls nL) : ls.size = nL := by
  obtain ⟨_, lv, h2, _⟩ := h
  exact h2.1
theorem jm_max : Cond.static Lib.Math.max.name ∈ lw_gd ∧ Cond.code Lib.Math.max.name Lib.Math.max.code 2 (some .int) ∈ lw_gd := ⟨gd_all (ws := [Cond.static Lib.Math.max.name]) (by decide +kernel) _ (List.mem_singleton.mpr rfl), gd_all (ws := [Cond.code Lib.Math.max.name Lib.Math.max.code 2 (some .int)]) (by decide +kernel) _ (List.mem_singleton.mpr rfl)⟩
theorem jm_min : Cond.static Lib.Math.min.name ∈ lw_gd ∧ Cond.code Lib.Math.min.name Lib.Math.min.code 2 (some .int) ∈ lw_gd := ⟨gd_all (ws := [Cond.static Lib.Math.min.name]) (by decide +kernel) _ (List.mem_singleton.mpr rfl), gd_all (ws := [Cond.code Lib.Math.min.name Lib.Math.min.code 2 (some .int)]) (by decide +kernel) _ (List.mem_singleton.mpr rfl)⟩
theorem jm_abs : Cond.static Lib.Math.abs.name ∈ lw_gd ∧ Cond.code Lib.Math.abs.name Lib.Math.abs.code 1 (some .int) ∈ lw_gd := ⟨gd_all (ws := [Cond.static Lib.Math.abs.name]) (by decide +kernel) _ (List.mem_singleton.mpr rfl), gd_all (ws := [Cond.code Lib.Math.abs.name Lib.Math.abs.code 1 (some .int)]) (by decide +kernel) _ (List.mem_singleton.mpr rfl)⟩
theorem jm_ini : Cond.initialized "java/lang/Math" ∈ lw_gd := gd_all (ws := [Cond.initialized "java/lang/Math"]) (by decide +kernel) _ (List.mem_singleton.mpr rfl)
theorem sR_le {ad : Nat → Nat} {n q : Nat} {st : List Value} (h : sR ad n S st) (hq : S.length ≤ q) : (st.map fun v => v.category).sum ≤ 2 * q := by
  rw [sR_sum h]
  have := c2sum_le S
  omega
theorem s_max (F : Fx P m d sc p l e R s mid args below meth c D aC ad0 n0 M0 A) {x y : Int} {i idx : Nat} {r : List mV} (hu : u ≤ (P m).1.2.2.2.2.1) (hr : r.length ≤ 20) (hl : lw_tbl[i]? = some (.methodLink (P m).1.1.cls idx Lib.Math.max.name)) (hd : decode (P m).1.2.1 pc = .ok (.invokestatic idx, 3)) (kk : WG P m p l e R s mid args below meth c D aC ad0 n0 M0 A Q (pc + 3) u L (vi (if x < y then y else x) :: r) σ) : WG P m p l e R s mid args below meth c D aC ad0 n0 M0 A Q pc u L (vi y :: vi x :: r) σ := by
  intro ad H locs ls st g0 g1 hW g2 hS hL hT
  obtain ⟨_, _, st', rfl, h1, h2, h3, h4, h5⟩ := sR_2 hT
  cases sv_i h1; cases sv_i h3
  have hb := F.bd
  have hrm := F.rm
  have hs := sR_le h5 hr
  refine va_mmax F.exec F.code (F.maxL.trans (lR_sz hL).symm) F.own (gd_at F hl rfl) (F.ts _ jm_max.1) (F.ts _ jm_ini) (F.ts _ jm_max.2) (by omega) (by omega) (by omega) (by omega) hd ?_
  rw [ofI_max h4 h2]
  refine kk ad H locs ls _ g0 g1 hW g2 hS hL ⟨⟨Or.inl rfl, ?_⟩, h5⟩
  show inR (if x < y then y else x)
  split <;> assumption
theorem s_min (F : Fx P m d sc p l e R s mid args below meth c D aC ad0 n0 M0 A) {x y : Int} {i idx : Nat} {r : List mV} (hu : u ≤ (P m).1.2.2.2.2.1) (hr : r.length ≤ 20) (hl : lw_tbl[i]? = some (.methodLink (P m).1.1.cls idx Lib.Math.min.name)) (hd : decode (P m).1.2.1 pc = .ok (.invokestatic idx, 3)) (kk : WG P m p l e R s mid args below meth c D aC ad0 n0 M0 A Q (pc + 3) u L (vi (if y < x then y else x) :: r) σ) : WG P m p l e R s mid args below meth c D aC ad0 n0 M0 A Q pc u L (vi y :: vi x :: r) σ := by
  intro ad H locs ls st g0 g1 hW g2 hS hL hT
  obtain ⟨_, _, st', rfl, h1, h2, h3, h4, h5⟩ := sR_2 hT
  cases sv_i h1; cases sv_i h3
  have hb := F.bd
  have hrm := F.rm
  have hs := sR_le h5 hr
  refine va_mmin F.exec F.code (F.maxL.trans (lR_sz hL).symm) F.own (gd_at F hl rfl) (F.ts _ jm_min.1) (F.ts _ jm_ini) (F.ts _ jm_min.2) (by omega) (by omega) (by omega) (by omega) hd ?_
  rw [ofI_min h4 h2]
  refine kk ad H locs ls _ g0 g1 hW g2 hS hL ⟨⟨Or.inl rfl, ?_⟩, h5⟩
  show inR (if y < x then y else x)
  split <;> assumption
theorem s_abs (F : Fx P m d sc p l e R s mid args below meth c D aC ad0 n0 M0 A) {x : Int} {i idx : Nat} {r : List mV} (hu : u ≤ (P m).1.2.2.2.2.1) (hr : r.length ≤ 20) (hl : lw_tbl[i]? = some (.methodLink (P m).1.1.cls idx Lib.Math.abs.name)) (hd : decode (P m).1.2.1 pc = .ok (.invokestatic idx, 3)) (kk : WG P m p l e R s mid args below meth c D aC ad0 n0 M0 A Q (pc + 3) u L (vi (wr (x.natAbs : Int)) :: r) σ) : WG P m p l e R s mid args below meth c D aC ad0 n0 M0 A Q pc u L (vi x :: r) σ := by
  intro ad H locs ls st g0 g1 hW g2 hS hL hT
  obtain ⟨_, st', rfl, h1, h2, h3⟩ := sR_cons hT
  cases sv_i h1
  have hb := F.bd
  have hrm := F.rm
  have hs := sR_le h3 hr
  refine va_mabs F.exec F.code (F.maxL.trans (lR_sz hL).symm) F.own (gd_at F hl rfl) (F.ts _ jm_abs.1) (F.ts _ jm_ini) (F.ts _ jm_abs.2) (by omega) (by omega) (by omega) (by omega) hd ?_
  rw [ofI_abs h2]
  exact kk ad H locs ls _ g0 g1 hW g2 hS hL ⟨⟨Or.inl rfl, wr_inR _⟩, h3⟩
theorem jm_obj : Cond.instanceMethod Lib.objectInit ∈ lw_gd ∧ Cond.code Lib.objectInit ⟨#[0xb1]⟩ 1 none ∈ lw_gd := ⟨gd_all (ws := [Cond.instanceMethod Lib.objectInit]) (by decide +kernel) _ (List.mem_singleton.mpr rfl), gd_all (ws := [Cond.code Lib.objectInit ⟨#[0xb1]⟩ 1 none]) (by decide +kernel) _ (List.mem_singleton.mpr rfl)⟩
theorem s_objI (F : Fx P m d sc p l e R s mid args below meth c D aC ad0 n0 M0 A) {k i idx : Nat} {r : List mV} (hr : r.length ≤ 20) (hl : lw_tbl[i]? = some (.methodLink (P m).1.1.cls idx Lib.objectInit)) (hd : decode (P m).1.2.1 pc = .ok (.invokespecial idx, 3)) (kk : WG P m p l e R s mid args below meth c D aC ad0 n0 M0 A Q (pc + 3) u L r σ) : WG P m p l e R s mid args below meth c D aC ad0 n0 M0 A Q pc u L (vr k :: r) σ := by
  intro ad H locs ls st g0 g1 hW g2 hS hL hT
  obtain ⟨_, st', rfl, h1, h2, h3⟩ := sR_cons hT
  cases sv_r h1
  have hrm := F.rm
  have hs := sR_le h3 hr
  refine W.objInit F.exec F.code F.own (gd_at F hl rfl) (F.ts _ jm_obj.1) (F.ts _ jm_obj.2) rfl ((lR_sz hL).trans F.maxL.symm) rfl hd (by omega) (by show 2 * 0 + _ + 12 ≤ _; omega) ?_
  exact kk ad H locs ls _ g0 g1 hW g2 hS hL h3
end ST
end
section
section NW
variable {P : mP} {m d : Nat} {sc : Bool} {p : Program} {l : Launch} {e : Env} {R : Room} {s : State} {mid : MethodId} {args : Array Value} {below : List Frame} {meth : Method} {c : Code} {D : va_G} {aC : FieldType → ClassId} {ad0 : Nat → Nat} {n0 : Nat} {M0 : mM} {A : Nat → Prop} {Q : State → Prop}
variable {pc u : Nat} {L S : List mV} {σ : mS}
theorem mzero_ne {M : mM} {k j : Nat} (h : j ≠ k) : mzero M k j = M j := by
  funext b
  unfold mzero
  rw [if_neg h]
theorem mclone_ne {M : mM} {ks k j : Nat} (h : j ≠ k) : mclone M ks k j = M j := by
  funext b
  unfold mclone
  rw [if_neg h]
/-- one cell more -/
theorem mWd.push {ad : Nat → Nat} {sh : mSh} {M' : mM} {E : va_E} {q : Nat} {H1 : Heap} (hW : mWf σ) (hM : ∀ j, j ≠ σ.1.length → M' j = σ.2 j) (hE : E = mE aC (fun j => if j = σ.1.length then q else ad j) sh (M' σ.1.length)) (hok : mShOk (σ.1.length + 1) sh) (hr : mRg (σ.1 ++ [sh], M'))
    (hP : va_P D mcl (mws aC ad σ ++ [(q, E)]) H1) (hD : va_D A (mws aC ad σ ++ [(q, E)])) : mWd D aC (fun j => if j = σ.1.length then q else ad j) (σ.1 ++ [sh], M') A H1 := by
  subst hE
  have e := mws_push (aC := aC) (ad := ad) (sh := sh) (q := q) hW hM
  rw [e] at hP hD
  have hl : (σ.1 ++ [sh]).length = σ.1.length + 1 := by simp
  have h5 := hW.1
  refine ⟨hP, hD, ⟨by show 5 ≤ (σ.1 ++ [sh]).length; omega, ?_, fun j z hj hz => ?_⟩, hr⟩
  · show (σ.1 ++ [sh]).take 5 = mRo
    rw [List.take_append_of_le_length h5]
    exact hW.2.1
  · show mShOk (σ.1 ++ [sh]).length z
    rw [hl]
    have hz : (σ.1 ++ [sh])[j]? = some z := hz
    by_cases hjl : j < σ.1.length
    · rw [List.getElem?_append_left hjl] at hz
      have := hW.2.2 j z hj hz
      obtain ⟨kd, n, fs⟩ := z
      cases kd with
      | zero => exact ⟨this.1, fun t ht => Nat.lt_succ_of_lt (this.2 t ht)⟩
      | succ kd => exact this
    · rw [List.getElem?_append_right (by omega)] at hz
      have h0 : j - σ.1.length = 0 := by
        rcases Nat.eq_zero_or_pos (j - σ.1.length) with h | h
        · exact h
        · rw [List.getElem?_eq_none (by simp; omega)] at hz; cases hz
      rw [h0] at hz
      cases hz
      exact hok
theorem mRg.push {sh : mSh} {M' : mM} (h : mRg σ) (hM : ∀ j, j ≠ σ.1.length → M' j = σ.2 j) (hn : ∀ j, inR (M' σ.1.length j)) : mRg (σ.1 ++ [sh], M') := by
  intro k j hk
  by_cases hkl : k = σ.1.length
  · subst hkl; exact hn j
  · show inR (M' k j)
    rw [hM k hkl]
    refine h k j (fun z hz => ?_)
    have hlt := (List.getElem?_eq_some_iff.mp hz).1
    exact hk z (by show (σ.1 ++ [sh])[k]? = some z; rw [List.getElem?_append_left hlt]; exact hz)
theorem s_new (F : Fx P m d sc p l e R s mid args below meth c D aC ad0 n0 M0 A) {ci i idx : Nat} {fs : List Nat} {q : vw_C} {i1 i2 i3 : Nat} (hu : u + 1 ≤ (P m).1.2.2.2.2.1) (hq : mcl[ci]? = some q) (hn : fs.length = q.2.2) (hfs : ∀ j, j < fs.length → defaultValue (mty ci j) = match fs.getD j 0 with
    | 0 => .int 0
    | _ => .null) (hl : lw_tbl[i]? = some (.classLink (P m).1.1.cls idx q.1)) (hl2 : lw_tbl[i1]? = some (.instantiable q.1 q.2.2)) (hl3 : lw_tbl[i2]? = some (.initialized q.1)) (hn20 : q.2.2 ≤ 2100) (hd : decode (P m).1.2.1 pc = .ok (.new idx, 3))
    (kk : WG P m p l e R s mid args below meth c D aC ad0 n0 M0 A Q (pc + 3) (u + 1) L (vr σ.1.length :: S) (σ.1 ++ [(0, ci, fs.map fun z => match z with | 0 => none | _ => some none)], mzero σ.2 σ.1.length)) : WG P m p l e R s mid args below meth c D aC ad0 n0 M0 A Q pc u L S σ := by
  intro ad H locs ls st g0 g1 hW g2 hS hL hT
  have hb := F.bd
  obtain ⟨t1, t2⟩ := mcl_ty ci q hq
  have hlen : (σ.1 ++ [((0, ci, fs.map fun z => match z with | 0 => none | _ => some none) : mSh)]).length = σ.1.length + 1 := by simp
  refine va_new (D := D) (cl := mcl) (ci := ci) (C := q.1) (T := q.2.1) (N := q.2.2) (fs := (List.range fs.length).map fun j => match fs.getD j 0 with
    | 0 => .int 0
    | _ => .null) F.exec F.code F.ts (mcl_ws ci q hq) (mty ci) t1 F.own (gd_at F hl rfl) (gd_at F hl2 rfl) (gd_at F hl3 rfl) F.kn.1 hW.1 hW.2.1 hS F.hA hq (fun j hj => ?_) (by omega) (by omega) hd (fun q9 H1 hP1 hD1 hS1 => ?_)
  · rw [hfs j (by omega)]
    unfold vp_V
    conv =>
      rhs
      rw [List.getD_eq_getElem?_getD, List.getElem?_map, List.getElem?_range (show j < fs.length by omega)]
    rfl
  · have hw' := mWd.push (aC := aC) (sh := (0, ci, fs.map fun z => match z with | 0 => none | _ => some none)) (M' := mzero σ.2 σ.1.length) hW.2.2.1 (fun j hj => mzero_ne hj) (by
      show (Sum.inr (ci, _) : va_E) = Sum.inr (ci, _)
      congr 2
      rw [List.length_map]
      apply List.map_congr_left
      intro j hj
      have hj : j < fs.length := List.mem_range.mp hj
      rw [List.getElem?_map, List.getD_eq_getElem?_getD, List.getElem?_eq_getElem hj]
      show (match fs[j] with | 0 => Value.int 0 | _ => Value.null) = _
      cases hz : fs[j] with
      | zero =>
        show Value.int 0 = Value.int (Int32.ofInt (mzero σ.2 σ.1.length σ.1.length j))
        unfold mzero
        rw [if_pos rfl]
        rfl
      | succ n => rfl) ⟨⟨q, hq, by rw [List.length_map]; exact hn.symm⟩, fun t ht => by
        obtain ⟨z, -, hz⟩ := List.mem_map.mp ht
        cases z <;> cases hz⟩ (mRg.push hW.2.2.2 (fun j hj => mzero_ne hj) (fun j => by unfold mzero; rw [if_pos rfl]; exact inR_0)) hP1 hD1
    refine W.widen (k := u + 1) (n := 2100 * (u + 1)) (Nat.le_refl _) (by omega) ?_
    have ha : ∀ k, k < σ.1.length → (fun j => if j = σ.1.length then q9 else ad j) k = ad k := fun k hk => if_neg (Nat.ne_of_lt hk)
    refine kk (fun j => if j = σ.1.length then q9 else ad j) H1 locs ls _ (by rw [hlen]; omega) (fun k hk => (ha k (by omega)).trans (g1 k hk)) hw' (fun k hk => ?_) hS1 ?_ ?_
    · have h5 := hW.2.2.1.1
      rw [← g2 k hk]
      exact mzero_ne (by omega)
    · rw [hlen]; exact lR_ad ha (Nat.le_succ _) hL
    · rw [hlen]
      refine ⟨⟨Or.inl ?_, Nat.lt_succ_self _⟩, sR_ad ha (Nat.le_succ _) hT⟩
      show Value.ref q9 = Value.ref (if σ.1.length = σ.1.length then q9 else ad σ.1.length)
      rw [if_pos rfl]
theorem mty_same {ty : FieldType} {cA : ClassId} (hc : ty = .int ∨ ty = .char ∨ ty = .long ∨ ty = .double) (F : Fx P m d sc p l e R s mid args below meth c D aC ad0 n0 M0 A) (h : va_RA s cA ty) : cA = aC ty := by
  have key : ∀ (i : Nat), (mTy aC)[i]? = some (aC ty, ty) → (∀ n, ty ≠ .object n) → cA = aC ty := by
    intro i hi hno
    have h1 := (F.kn.1.2 i _ hi).2
    have e1 : s.vm.findClass ("[" ++ ty.toString) = some cA := by
      cases ty <;> first | exact h | exact absurd rfl (hno _)
    have e2 : s.vm.findClass ("[" ++ ty.toString) = some (aC ty) := by
      cases ty <;> first | exact h1 | exact absurd rfl (hno _)
    exact Option.some.inj (e1.symm.trans e2)
  rcases hc with rfl | rfl | rfl | rfl
  · exact key 0 rfl (fun n h => by cases h)
  · exact key 1 rfl (fun n h => by cases h)
  · exact key 2 rfl (fun n h => by cases h)
  · exact key 3 rfl (fun n h => by cases h)
def atK (a : ArrayType) : Nat := match a with
  | .int => 1
  | .char => 2
  | .long => 3
  | .double => 4
  | _ => 0
theorem arr_words : Cond.arrayClass .int ∈ lw_gd ∧ Cond.arrayClass .char ∈ lw_gd ∧ Cond.arrayClass .long ∈ lw_gd ∧ Cond.arrayClass .double ∈ lw_gd :=
  ⟨gd_all (ws := [Cond.arrayClass .int]) (by decide +kernel) _ (List.mem_singleton.mpr rfl), gd_all (ws := [Cond.arrayClass .char]) (by decide +kernel) _ (List.mem_singleton.mpr rfl), gd_all (ws := [Cond.arrayClass .long]) (by decide +kernel) _ (List.mem_singleton.mpr rfl), gd_all (ws := [Cond.arrayClass .double]) (by decide +kernel) _ (List.mem_singleton.mpr rfl)⟩
theorem s_newa (F : Fx P m d sc p l e R s mid args below meth c D aC ad0 n0 M0 A) {a : ArrayType} {n : Int} {r : List mV} (hu : u + 1 ≤ (P m).1.2.2.2.2.1) (ha : atK a ≠ 0) (hn : 0 ≤ n ∧ n ≤ 2100) (hd : decode (P m).1.2.1 pc = .ok (.newarray a, 2))
    (kk : WG P m p l e R s mid args below meth c D aC ad0 n0 M0 A Q (pc + 2) (u + 1) L (vr σ.1.length :: r) (σ.1 ++ [(atK a, n.toNat, [])], mzero σ.2 σ.1.length)) : WG P m p l e R s mid args below meth c D aC ad0 n0 M0 A Q pc u L (vi n :: r) σ := by
  intro ad H locs ls st g0 g1 hW g2 hS hL hT
  obtain ⟨_, st', rfl, h1, h2, h3⟩ := sR_cons hT
  cases sv_i h1
  have hb := F.bd
  have key : ∀ (ty : FieldType) (a0 : vp_A), newarray.typeOf a = ty → (ty = .int ∨ ty = .char ∨ ty = .long ∨ ty = .double) → Cond.arrayClass ty ∈ lw_gd → (∀ cA : ClassId, vp_cell cA a0 = arrV cA n.toNat (fun _ => defaultValue ty)) → componentBytes ty ≤ 8 →
      (Sum.inl (aC ty, a0) : va_E) = mE aC ad (atK a, n.toNat, []) (mzero σ.2 σ.1.length σ.1.length) → (atK a ≤ 4 ∧ 1 ≤ atK a) → W p l e R s mid args below meth c H locs u (2100 * u) Q (F0 mid pc ls (.int (Int32.ofInt n) :: st')) := by
    intro ty a0 hty hc hw hcell hcb hE hk
    have hlen : (σ.1 ++ [((atK a, n.toNat, []) : mSh)]).length = σ.1.length + 1 := by simp
    have hcl : (Int32.ofInt n).toNatClampNeg = n.toNat := ofI_clamp h2
    have hneg : ¬ Int32.ofInt n < 0 := fun z => by
      have := (ofI_lt h2 inR_0).mp z
      omega
    have hbyt : n.toNat * componentBytes ty ≤ 536870912 := Nat.le_trans (Nat.mul_le_mul (show n.toNat ≤ 2100 by omega) hcb) (by decide)
    refine va_newa (D := D) (cl := mcl) (a0 := a0) F.exec F.code (by rw [hty]; exact F.ts _ hw) hty F.kn.1 hW.1 hW.2.1 hS F.hA hcell hneg hcl hbyt (by omega) (by omega) hd (fun q9 cA H1 hK1 hP1 hD1 hS1 => ?_)
    have hcA : cA = aC ty := by
      have h9 := (hK1.2 4 (cA, ty) (by simp [mTy])).2
      exact mty_same hc F h9
    rw [hcA, hE] at hP1 hD1
    have haE : mE aC ad (atK a, n.toNat, []) (mzero σ.2 σ.1.length σ.1.length) = mE aC (fun j => if j = σ.1.length then q9 else ad j) (atK a, n.toNat, []) (mzero σ.2 σ.1.length σ.1.length) := by
      obtain ⟨k1, k2⟩ := hk
      rcases (show atK a = 1 ∨ atK a = 2 ∨ atK a = 3 ∨ atK a = 4 by omega) with h | h | h | h <;> rw [h] <;> rfl
    have hw' := mWd.push (aC := aC) (sh := (atK a, n.toNat, [])) (M' := mzero σ.2 σ.1.length) hW.2.2.1 (fun j hj => mzero_ne hj) haE (by
      obtain ⟨k1, k2⟩ := hk
      rcases (show atK a = 1 ∨ atK a = 2 ∨ atK a = 3 ∨ atK a = 4 by omega) with h | h | h | h <;> rw [h] <;> exact ⟨by decide, by omega⟩) (mRg.push hW.2.2.2 (fun j hj => mzero_ne hj) (fun j => by unfold mzero; rw [if_pos rfl]; exact inR_0)) hP1 hD1
    refine W.widen (k := u + 1) (n := 2100 * (u + 1)) (Nat.le_refl _) (by omega) ?_
    have hag : ∀ k, k < σ.1.length → (fun j => if j = σ.1.length then q9 else ad j) k = ad k := fun k hk => if_neg (Nat.ne_of_lt hk)
    refine kk (fun j => if j = σ.1.length then q9 else ad j) H1 locs ls _ (by rw [hlen]; omega) (fun k hk => (hag k (by omega)).trans (g1 k hk)) hw' (fun k hk => ?_) hS1 ?_ ?_
    · have h5 := hW.2.2.1.1
      rw [← g2 k hk]
      exact mzero_ne (by omega)
    · rw [hlen]; exact lR_ad hag (Nat.le_succ _) hL
    · rw [hlen]
      refine ⟨⟨Or.inl ?_, Nat.lt_succ_self _⟩, sR_ad hag (Nat.le_succ _) h3⟩
      show Value.ref q9 = Value.ref (if σ.1.length = σ.1.length then q9 else ad σ.1.length)
      rw [if_pos rfl]
  have hz : mzero σ.2 σ.1.length σ.1.length = fun _ => (0 : Int) := by
    funext j
    unfold mzero
    rw [if_pos rfl]
  cases a with
  | int => exact key .int (n.toNat, .inl fun _ => 0) rfl (Or.inl rfl) arr_words.1 (fun _ => rfl) (by decide) (by rw [hz]; rfl) (by decide)
  | char => exact key .char (n.toNat, .inl fun _ => 0) rfl (Or.inr (Or.inl rfl)) arr_words.2.1 (fun _ => rfl) (by decide) (by rw [hz]; rfl) (by decide)
  | long => exact key .long (n.toNat, .inr (.inl fun _ => 0)) rfl (Or.inr (Or.inr (Or.inl rfl))) arr_words.2.2.1 (fun _ => rfl) (by decide) (by rw [hz]; rfl) (by decide)
  | double => exact key .double (n.toNat, .inr (.inr (.inr (.inl fun _ => 0)))) rfl (Or.inr (Or.inr (Or.inr rfl))) arr_words.2.2.2 (fun _ => rfl) (by decide) (by rw [hz]; rfl) (by decide)
  | boolean => exact absurd rfl ha
  | float => exact absurd rfl ha
  | byte => exact absurd rfl ha
  | short => exact absurd rfl ha
theorem jm_clone : (Cond.sameMethod "[I" "java/lang/Object" "clone" "()Ljava/lang/Object;" ∈ lw_gd ∧ Cond.native ⟨"java/lang/Object", "clone", "()Ljava/lang/Object;"⟩ ∈ lw_gd) ∧ (Cond.instanceMethod ⟨"java/lang/Object", "clone", "()Ljava/lang/Object;"⟩ ∈ lw_gd ∧ Cond.selects "[I" ⟨"[I", "clone", "()Ljava/lang/Object;"⟩ ⟨"java/lang/Object", "clone", "()Ljava/lang/Object;"⟩ ∈ lw_gd) :=
  ⟨⟨gd_all (ws := [Cond.sameMethod "[I" "java/lang/Object" "clone" "()Ljava/lang/Object;"]) (by decide +kernel) _ (List.mem_singleton.mpr rfl), gd_all (ws := [Cond.native ⟨"java/lang/Object", "clone", "()Ljava/lang/Object;"⟩]) (by decide +kernel) _ (List.mem_singleton.mpr rfl)⟩,
   gd_all (ws := [Cond.instanceMethod ⟨"java/lang/Object", "clone", "()Ljava/lang/Object;"⟩]) (by decide +kernel) _ (List.mem_singleton.mpr rfl), gd_all (ws := [Cond.selects "[I" ⟨"[I", "clone", "()Ljava/lang/Object;"⟩ ⟨"java/lang/Object", "clone", "()Ljava/lang/Object;"⟩]) (by decide +kernel) _ (List.mem_singleton.mpr rfl)⟩
theorem jm_castI : Cond.castable "[I" "java/lang/Cloneable" ∈ lw_ng := List.mem_filter.mpr ⟨by decide +kernel, rfl⟩
theorem s_clone (F : Fx P m d sc p l e R s mid args below meth c D aC ad0 n0 M0 A) {k n i idx i2 idx2 : Nat} {fs : List (Option (Option Nat))} {r : List mV} (hu : u + 1 ≤ (P m).1.2.2.2.2.1) (hr : r.length ≤ 20) (hk : σ.1[k]? = some (5, n, fs)) (hl : lw_tbl[i]? = some (.methodLink (P m).1.1.cls idx ⟨"[I", "clone", "()Ljava/lang/Object;"⟩)) (hl2 : lw_tbl[i2]? = some (.classLink (P m).1.1.cls idx2 "[I"))
    (hd : decode (P m).1.2.1 pc = .ok (.invokevirtual idx, 3)) (hd2 : decode (P m).1.2.1 (pc + 3) = .ok (.checkcast idx2, 3)) (kk : WG P m p l e R s mid args below meth c D aC ad0 n0 M0 A Q (pc + 6) (u + 1) L (vr σ.1.length :: r) (σ.1 ++ [(1, n, [])], mclone σ.2 k σ.1.length)) : WG P m p l e R s mid args below meth c D aC ad0 n0 M0 A Q pc u L (vr k :: r) σ := by
  intro ad H locs ls st g0 g1 hW g2 hS hL hT
  obtain ⟨_, st', rfl, h1, h2, h3⟩ := sR_cons hT
  cases sv_r h1
  have hb := F.bd
  have hrm := F.rm
  have hs := sR_le h3 hr
  obtain ⟨hk3, rfl⟩ := hW.2.2.1.ro hk
  have hlen : (σ.1 ++ [((1, 6, []) : mSh)]).length = σ.1.length + 1 := by simp
  obtain ⟨hT9, cell, c1, c2, c3⟩ := F.st0.2.2.2.1 k hk3
  obtain ⟨cell2, t1, t2, t3, -, -, t6, t7⟩ := hT9
  cases Option.some.inj (c1.symm.trans t1)
  have hadk : ad k = ad0 k := g1 k (by have := F.n5; omega)
  have hcI : cell.cls = aC .int := by
    have h9 := (F.kn.1.2 0 (aC .int, .int) rfl).2
    exact Option.some.inj (c3.symm.trans h9)
  have hcellH : H[ad k]? = some cell := by
    rw [hadk, hS.2.1 _ (Array.getElem?_eq_some_iff.mp c1).1 t7]
    exact c1
  have hcellE : ({ cls := cell.cls, slots := cell.slots } : Cell) = vp_cell (aC .int) (6, .inl fun j => Int32.ofInt (σ.2 k j)) := by
    rw [vp_cell_i]
    have hsl : cell.slots = (arrV (aC .int) 6 (fun j => .int (Int32.ofInt (σ.2 k j)))).slots := by
      apply Array.ext_getElem?
      intro i
      by_cases hi : i < 6
      · rw [t6 i hi, arrV_read _ _ hi, g2 k (by omega)]
      · rw [Array.getElem?_eq_none (by omega), Array.getElem?_eq_none (by rw [arrV_size]; omega)]
    rw [hcI, hsl]
    rfl
  obtain ⟨c0, t0', f1, f2, f3⟩ := Cond.castable_spec (va_Nw.use (A := args) rfl (F.kn.2.1 _ jm_castI))
  cases Option.some.inj (c3.symm.trans f1)
  obtain ⟨hst, kA, hkA, comp, hkind⟩ := t2
  have step : ∀ (q9 : Nat) (H1 : Heap), va_P D mcl (mws aC ad σ ++ [(q9, .inl (aC .int, 6, .inl fun j => Int32.ofInt (σ.2 k j)))]) H1 → va_D A (mws aC ad σ ++ [(q9, .inl (aC .int, 6, .inl fun j => Int32.ofInt (σ.2 k j)))]) → va_S A s.heap H1 locs →
      W p l e R s mid args below meth c H1 locs (u + 1) (2100 * u + 6) Q (F0 mid (pc + 3) ls (.ref q9 :: st')) := by
    intro q9 H1 hP1 hD1 hS1
    refine va_castA (q0 := σ.1.length - 5) F.exec F.code F.own (gd_at F hl2 rfl) hP1 (cA := aC .int) (x := (6, .inl fun j => Int32.ofInt (σ.2 k j))) (by rw [List.getElem?_append_right (by rw [mws_len]; exact Nat.le_refl _), mws_len, Nat.sub_self]; rfl) (by rw [← hcI]; exact c3) hd2 ?_
    have hM : ∀ j, j ≠ σ.1.length → mclone σ.2 k σ.1.length j = σ.2 j := fun j hj => mclone_ne hj
    have hMk : mclone σ.2 k σ.1.length σ.1.length = σ.2 k := by
      funext j
      unfold mclone
      rw [if_pos rfl]
    have hw' := mWd.push (aC := aC) (sh := (1, 6, [])) (M' := mclone σ.2 k σ.1.length) hW.2.2.1 hM (by rw [hMk]; rfl) (show mShOk _ (1, 6, []) from ⟨by decide, by decide⟩) (mRg.push hW.2.2.2 hM (fun j => by rw [hMk]; exact hW.2.2.2 k j (fun sh hsh => by rw [hk] at hsh; cases hsh; exact (show (5:Nat) ≠ 4 by decide)))) hP1 hD1
    refine W.widen (k := u + 1) (n := 2100 * (u + 1)) (Nat.le_refl _) (by omega) ?_
    have hag : ∀ k, k < σ.1.length → (fun j => if j = σ.1.length then q9 else ad j) k = ad k := fun k hk => if_neg (Nat.ne_of_lt hk)
    refine kk (fun j => if j = σ.1.length then q9 else ad j) H1 locs ls _ (by rw [hlen]; omega) (fun k hk => (hag k (by omega)).trans (g1 k hk)) hw' (fun z hz => ?_) hS1 ?_ ?_
    · have h5 := hW.2.2.1.1
      rw [← g2 z hz]
      exact mclone_ne (by omega)
    · rw [hlen]; exact lR_ad hag (Nat.le_succ _) hL
    · rw [hlen]
      refine ⟨⟨Or.inl ?_, Nat.lt_succ_self _⟩, sR_ad hag (Nat.le_succ _) h3⟩
      show Value.ref q9 = Value.ref (if σ.1.length = σ.1.length then q9 else ad σ.1.length)
      rw [if_pos rfl]
  intro T hTe X
  have hcellT : T.heap[ad k]? = some cell := by rw [hTe]; exact hcellH
  obtain ⟨hstA, kA', hkA', comp', hkind'⟩ := State.isArrayOf_alike X.warmed.alike (⟨hst, kA, hkA, comp, hkind⟩ : s.isArrayOf cell .int)
  obtain ⟨vm', X', st⟩ := X.cloneArray F.exec F.own (gd_at F hl rfl) (F.ts _ jm_clone.1.1) (F.ts _ jm_clone.1.2) (F.ts _ jm_clone.2.1) (F.ts _ jm_clone.2.2) (a := ad k) (cell := cell) hcellT hst t3 c3 f2 f3
    (fun i v hv => by
      have hk' : T.vm.classes[cell.cls]? = some kA' := hkA'
      by_cases hi : i < 6
      · rw [t6 i hi] at hv
        cases hv
        simp [State.fitsSlot, State.slotType?, hk', hkind', fits]
      · rw [Array.getElem?_eq_none (by omega)] at hv
        cases hv)
    (g := F0 mid pc ls (.ref (ad k) :: st')) rfl ((lR_sz hL).trans F.maxL.symm) rfl (by rw [F.code]; exact hd) (by omega) (by show 2 * 0 + _ + 14 ≤ _; omega) (by omega) (by omega) (hloader := Vm.clonesLoader_of_array hkA hkind)
  rw [hcellE, c2] at X'
  obtain ⟨t, b1, b2⟩ := step H.size (H.push (vp_cell (aC .int) (6, .inl fun j => Int32.ofInt (σ.2 k j)))) (by
      have hk9 : ∀ (z : Nat) (y : Nat × va_E), (mws aC ad σ)[z]? = some y → (H.push (vp_cell (aC .int) (6, .inl fun j => Int32.ofInt (σ.2 k j))))[y.1]? = H[y.1]? := fun z y hy => by
        rw [Array.getElem?_push, if_neg (Nat.ne_of_lt (hW.1 z y hy).lt)]
      refine (hW.1.kept hk9).app (fun z y hy => ?_)
      have hz : z < 1 := (List.getElem?_eq_some_iff.mp hy).1
      rw [show z = 0 by omega] at hy
      cases hy
      show (H.push _)[H.size]? = some (vp_cell _ _)
      rw [Array.getElem?_push_size]) (hW.2.1.push hW.1 rfl (F.hA _ hS.1)) ⟨by rw [Array.size_push]; exact Nat.le_succ_of_le hS.1, fun y z1 z2 => by rw [Array.getElem?_push, if_neg (by have := hS.1; omega)]; exact hS.2.1 y z1 z2, hS.2.2⟩
    ((T.setVm vm').pushCell (vp_cell (aC .int) (6, .inl fun j => Int32.ofInt (σ.2 k j)))) (by rw [← hTe]; rfl) X'
  refine ⟨t, st t ?_, b2⟩
  rw [hcellE, hTe]
  exact b1
theorem jm_cpy : (Cond.native arraycopyName ∈ lw_gd ∧ Cond.static arraycopyName ∈ lw_gd) ∧ Cond.initialized "java/lang/System" ∈ lw_gd :=
  ⟨⟨gd_all (ws := [Cond.native arraycopyName]) (by decide +kernel) _ (List.mem_singleton.mpr rfl), gd_all (ws := [Cond.static arraycopyName]) (by decide +kernel) _ (List.mem_singleton.mpr rfl)⟩, gd_all (ws := [Cond.initialized "java/lang/System"]) (by decide +kernel) _ (List.mem_singleton.mpr rfl)⟩
theorem alK_le {kd k : Nat} {n : Int} (h0 : 0 ≤ n) (hkd : kd ≠ 0) (h : n ≤ alK σ kd k) (hz : 0 < n) : ∃ q fs, σ.1[k]? = some (kd, q, fs) ∧ n ≤ (q : Int) := by
  obtain ⟨q, fs, h1, h2⟩ := alK_some (σ := σ) (kd := kd) (k := k) (x := n - 1) (by omega) (by omega)
  exact ⟨q, fs, h1, by omega⟩
theorem s_copy (F : Fx P m d sc p l e R s mid args below meth c D aC ad0 n0 M0 A) {ks kd i idx : Nat} {n : Int} {r : List mV} (hr : r.length ≤ 20) (hn : 0 < n) (h1 : n ≤ alK σ 1 ks) (h2 : n ≤ alK σ 1 kd) (hl : lw_tbl[i]? = some (.methodLink (P m).1.1.cls idx arraycopyName)) (hd : decode (P m).1.2.1 pc = .ok (.invokestatic idx, 3))
    (kk : WG P m p l e R s mid args below meth c D aC ad0 n0 M0 A Q (pc + 3) u L r (σ.1, mcpy σ.2 ks kd n.toNat)) : WG P m p l e R s mid args below meth c D aC ad0 n0 M0 A Q pc u L (vi n :: vi 0 :: vr kd :: vi 0 :: vr ks :: r) σ := by
  intro ad H locs ls st g0 g1 hW g2 hS hL hT
  obtain ⟨_, _, s1, rfl, a1, a2, a3, a4, a5⟩ := sR_2 hT
  obtain ⟨_, _, s2, rfl, b1, b2, b3, b4, b5⟩ := sR_2 a5
  obtain ⟨_, st', rfl, c1, c2, c3⟩ := sR_cons b5
  cases sv_i a1; cases sv_i a3; cases sv_r b1; cases sv_i b3; cases sv_r c1
  have hrm := F.rm
  have hs := sR_le c3 hr
  obtain ⟨q1, fs1, e1, e2⟩ := alK_le (by omega) (by decide) h1 hn
  obtain ⟨q2, fs2, e3, e4⟩ := alK_le (by omega) (by decide) h2 hn
  have k1 := hW.2.2.1.ge e1 (show (1:Nat) ≤ 4 by decide)
  have k2 := hW.2.2.1.ge e3 (show (1:Nat) ≤ 4 by decide)
  have z0 : (Int32.ofInt 0).toNatClampNeg = 0 := rfl
  have hcn : (Int32.ofInt n).toNatClampNeg = n.toNat := ofI_clamp a2
  have hneg : ¬ Int32.ofInt n < 0 := fun z => by
    have := (ofI_lt a2 inR_0).mp z
    omega
  refine va_copyi (D := D) (cl := mcl) F.exec F.code (F.maxL.trans (lR_sz hL).symm) F.own (gd_at F hl rfl) (F.ts _ jm_cpy.1.1) (F.ts _ jm_cpy.1.2) (F.ts _ jm_cpy.2) F.kn.1 hW.1 hW.2.1 hS (ks - 5) (kd - 5) 0 0 (mws_get e1 k1) (mws_get e3 k2) rfl rfl rfl (by decide) (by decide) hneg (by rw [z0, hcn]; omega) (by rw [z0, hcn]; omega) (fun _ _ => rfl) (by omega) (by
    have : nativeFrameWords "java/lang/System" "arraycopy" 5 + 11 ≤ 200 := by decide +kernel
    omega) hd (fun H1 locs1 hP1 hD1 hS1 => ?_)
  have hMo : ∀ j, j ≠ kd → mcpy σ.2 ks kd n.toNat j = σ.2 j := fun j hj => by
    funext b
    unfold mcpy
    rw [if_neg (fun z => hj z.1)]
  have eM : va_cpy (fun j => Int32.ofInt (σ.2 ks j)) (fun j => Int32.ofInt (σ.2 kd j)) (Int32.ofInt 0).toNatClampNeg (Int32.ofInt 0).toNatClampNeg (Int32.ofInt n).toNatClampNeg = fun j => Int32.ofInt (mcpy σ.2 ks kd n.toNat kd j) := by
    funext j
    rw [z0, hcn]
    unfold va_cpy mcpy
    by_cases hj : j < n.toNat
    · rw [if_pos (by omega), if_pos ⟨rfl, hj⟩, show 0 + (j - 0) = j by omega]
    · rw [if_neg (by omega), if_neg (fun z => hj z.2)]
  rw [eM] at hP1 hD1
  have hrg : mRg (σ.1, mcpy σ.2 ks kd n.toNat) := by
    intro a j ha
    show inR (mcpy σ.2 ks kd n.toNat a j)
    unfold mcpy
    split
    · exact hW.2.2.2 ks j (fun sh hsh => by rw [e1] at hsh; cases hsh; exact (show (1:Nat) ≠ 4 by decide))
    · exact hW.2.2.2 a j ha
  have hw' : mWd D aC ad (σ.1, mcpy σ.2 ks kd n.toNat) A H1 := set_one (f' := fun _ => 0) hW.2.2.1 e3 (by decide) (by decide) rfl hMo hrg hP1 hD1
  exact kk ad H1 locs1 ls _ g0 g1 hw' (fun j hj => (hMo j (by omega)).trans (g2 j hj)) hS1 hL c3
end NW
end
section
/-! THE CONTRACT OF A METHOD OF THE SMALL MACHINE; CALLS -/
def mA (ad : Nat → Nat) (n sz : Nat) : Nat → Prop := fun q => (∃ k, 5 ≤ k ∧ k < n ∧ q = ad k) ∨ sz ≤ q
def cPre (D : va_G) (aC : FieldType → ClassId) (ad : Nat → Nat) (sz : Nat) (as : List mV) (σ : mS) : Array Value → State → Prop :=
  va_Pc (as.map (vv ad)) (fun U => U.heap.size = sz ∧ mKn D aC U ∧ mSt0 (mA ad σ.1.length sz) ad σ.2 U U.heap ∧ mWd D aC ad σ (mA ad σ.1.length sz) U.heap ∧ ∀ v ∈ as, okV σ.1.length v ∧ v ≠ vj)
def cQ (D : va_G) (aC : FieldType → ClassId) (ad : Nat → Nat) (sz : Nat) (σ : mS) (o : mO) (σ' : mS) : Array Value → State → Outcome → State → Prop := fun _ st oc t =>
  (∃ (v : Option mV) (ad' : Nat → Nat), o = .inl v ∧ oc = .returned (v.map (vv ad')) ∧ (∀ k, k < σ.1.length → ad' k = ad k) ∧ σ.1.length ≤ σ'.1.length ∧ (∀ k, k < 5 → σ'.2 k = σ.2 k) ∧ mWd D aC ad' σ' (mA ad σ.1.length sz) t.heap ∧ (∀ x, v = some x → okV σ'.1.length x ∧ x ≠ vj)) ∧ va_F (mA ad σ.1.length sz) st t
def cX (D : va_G) (aC : FieldType → ClassId) (ad : Nat → Nat) (sz : Nat) (σ : mS) (o : mO) (σ' : mS) : String → State → State → Prop := fun E st t =>
  ∃ (ex : Nat) (ad' : Nat → Nat), o = .inr ex ∧ E = exN ex ∧ (∀ k, k < σ.1.length → ad' k = ad k) ∧ σ.1.length ≤ σ'.1.length ∧ (∀ k, k < 5 → σ'.2 k = σ.2 k) ∧ mWd D aC ad' σ' (mA ad σ.1.length sz) t.heap ∧ va_F (mA ad σ.1.length sz) st t
def cW (P : mP) (m : Nat) : Cond := match (P m).1.2.2.2.2.2.2 with
  | [] => .code (P m).1.1 (P m).1.2.1 (P m).1.2.2.1 (P m).1.2.2.2.1
  | h :: hh => .codeWith (P m).1.1 (P m).1.2.1 (P m).1.2.2.1 (P m).1.2.2.2.1 (h :: hh)
def cWs (P : mP) (m : Nat) : List Cond := cW P m :: lw_gd
def cRm (P : mP) (m d : Nat) : Room := { frames := d + 10, cells := (P m).1.2.2.2.2.1, slots := 2100 * (P m).1.2.2.2.2.1, locals := 40 * d + 300 }
def cMet (P : mP) (l : Launch) (m d : Nat) (as : List mV) (σ : mS) (o : mO) (σ' : mS) : Prop := ∀ (D : va_G) (aC : FieldType → ClassId) (ad : Nat → Nat) (sz : Nat),
  vx_Met l (P m).1.1 (cWs P m) (cRm P m d) (cPre D aC ad sz as σ) (cQ D aC ad sz σ o σ') (cX D aC ad sz σ o σ') (P m).1.2.2.2.2.1 (2100 * (P m).1.2.2.2.2.1) (mA ad σ.1.length sz)
/-- what is asked of a method's entry in the table; st: static -/
def mOk (P : mP) (m : Nat) (st : Bool) : Prop :=
  plainName (P m).1.1.cls = true ∧ ((P m).1.1.cls ≠ "java/lang/invoke/MethodHandle" ∧ (P m).1.1.cls ≠ "java/lang/invoke/VarHandle") ∧ cW P m ∈ lw_gd ∧ Cond.initialized (P m).1.1.cls ∈ lw_gd ∧ (P m).1.2.2.1 ≤ 20 ∧
  (parseMethodDescriptor (P m).1.1.desc).map (fun d => d.parameters.length) = some ((P m).1.2.2.2.2.2.1 - (if st = true then 0 else 1)) ∧
  (st = true → Cond.static (P m).1.1 ∈ lw_gd) ∧ (st = false → Cond.instanceMethod (P m).1.1 ∈ lw_gd ∧ 1 ≤ (P m).1.2.2.2.2.2.1 ∧ ((P m).1.1.name = "<init>" ∨ Cond.selects (P m).1.1.cls (P m).1.1 (P m).1.1 ∈ lw_gd))
def XG (P : mP) (m : Nat) (p : Program) (l : Launch) (e : Env) (R : Room) (s : State) (mid : MethodId) (args : Array Value) (below : List Frame) (meth : Method) (c : Code) (D : va_G) (aC : FieldType → ClassId) (ad0 : Nat → Nat) (n0 : Nat) (M0 : mM) (A : Nat → Prop) (Q : State → Prop) (pc u : Nat) (L S : List mV) (σ : mS) (ex : Nat) : Prop :=
  ∀ (ad : Nat → Nat) (H : Heap) (locs : List Loc) (ls : Array Slot) (st : List Value) (q : Addr) (ce : Cell), n0 ≤ σ.1.length → (∀ k, k < n0 → ad k = ad0 k) → mWd D aC ad σ A H → (∀ k, k < 5 → σ.2 k = M0 k) → va_S A s.heap H locs → lR ad σ.1.length L ls (P m).1.2.2.1 → sR ad σ.1.length S st →
    H[q]? = some ce → ce.vm = .none → s.vm.findClass (exN ex) = some ce.cls → vx_W p l e R s mid args below meth c H locs u (2100 * u) Q (F0 mid pc ls st) q
section CA
variable {P : mP} {m d : Nat} {sc : Bool} {p : Program} {l : Launch} {e : Env} {R : Room} {s : State} {mid : MethodId} {args : Array Value} {below : List Frame} {meth : Method} {c : Code} {D : va_G} {aC : FieldType → ClassId} {ad0 : Nat → Nat} {n0 : Nat} {M0 : mM} {A : Nat → Prop} {Q : State → Prop}
variable {pc u : Nat} {L S : List mV} {σ : mS}
theorem mWd.own {ad : Nat → Nat} {H : Heap} (h : mWd D aC ad σ A H) : mWd D aC ad σ (mA ad σ.1.length H.size) H := by
  refine ⟨h.1, ⟨h.2.1.1, fun k q hk => ?_⟩, h.2.2⟩
  obtain ⟨sh, h1, rfl⟩ := mws_of hk
  exact Or.inl ⟨k + 5, by omega, (List.getElem?_eq_some_iff.mp h1).1, rfl⟩
theorem mWd.inA {ad : Nat → Nat} {H : Heap} (h : mWd D aC ad σ A H) (hA : ∀ q, s.heap.size ≤ q → A q) (hz : s.heap.size ≤ H.size) : ∀ q, mA ad σ.1.length H.size q → A q := by
  intro q hq
  rcases hq with ⟨k, h5, hk, rfl⟩ | hq
  · have := h.2.1.2 (k - 5) _ (mws_get (List.getElem?_eq_getElem hk) h5)
    exact this
  · exact hA q (Nat.le_trans hz hq)
theorem mWd.weak {ad : Nat → Nat} {B : Nat → Prop} {H : Heap} (h : mWd D aC ad σ B H) (hAB : ∀ q, B q → A q) : mWd D aC ad σ A H := ⟨h.1, h.2.1.weaken (fun _ _ _ q => hAB _ q), h.2.2⟩
theorem cPre_blind {ad : Nat → Nat} {sz : Nat} {as : List mV} : FrameBlind (cPre D aC ad sz as σ) := by
  intro a U g mk h
  obtain ⟨h1, h2, h3, h4, h5⟩ := h
  exact ⟨h1, h2, mKn.same (s := U) rfl h3, mSt0.moved (u := U) (U := U.calling g mk a) (Vm.Alike.refl U.vm) h4, h5⟩
/-- the callee's start, at the call -/
theorem cPre_at (F : Fx P m d sc p l e R s mid args below meth c D aC ad0 n0 M0 A) {ad : Nat → Nat} {H : Heap} {locs : List Loc} {as : List mV} {U : State} (g0 : n0 ≤ σ.1.length) (g1 : ∀ k, k < n0 → ad k = ad0 k) (hW : mWd D aC ad σ A H) (g2 : ∀ k, k < 5 → σ.2 k = M0 k) (hS : va_S A s.heap H locs) (hok : ∀ v ∈ as, okV σ.1.length v ∧ v ≠ vj) (hU : U.heap = H) (hWm : s.WarmedH U.vm) :
    cPre D aC ad H.size as σ (as.map (vv ad)).toArray U := by
  have h5 := F.n5
  refine ⟨rfl, by rw [hU], F.kn.warm hWm, ?_, by rw [hU]; exact hW.own, hok⟩
  rw [hU]
  have h1 : mSt0 A ad0 M0 s H := F.st0.kept (fun a ha hn => hS.2.1 a ha hn)
  exact ((h1.narrow (hW.inA F.hA hS.1)).moved hWm.alike).to (fun k hk => g1 k (by omega)) g2
theorem sR_split {ad : Nat → Nat} {n : Nat} : ∀ (q : Nat) {S : List mV} {st : List Value}, sR ad n S st → (S.take q).all nj = true → q ≤ S.length → st = (S.take q).map (vv ad) ++ st.drop q ∧ sR ad n (S.drop q) (st.drop q) ∧ ∀ v ∈ S.take q, okV n v ∧ v ≠ vj
  | 0, S, st, h, _, _ => ⟨rfl, h, fun v hv => by simp at hv⟩
  | q + 1, [], st, h, _, hq => by simp at hq
  | q + 1, v :: S, [], h, _, _ => h.elim
  | q + 1, v :: S, x :: st, h, ha, hq => by
    rw [List.take_succ_cons, List.all_cons, Bool.and_eq_true] at ha
    obtain ⟨h1, h2, h3⟩ := sR_split q h.2 ha.2 (by simpa using hq)
    have hx : x = vv ad v := by
      rcases h.1.1 with hx | ⟨hx, -⟩
      · exact hx
      · rw [hx] at ha; exact absurd ha.1 (by decide)
    have hv : v ≠ vj := fun z => by rw [z] at ha; exact absurd ha.1 (by decide)
    refine ⟨?_, h2, fun w hw => ?_⟩
    · rw [List.take_succ_cons, List.map_cons, List.drop_succ_cons, List.cons_append, ← h1, hx]
    · rw [List.take_succ_cons] at hw
      rcases List.mem_cons.mp hw with rfl | hw
      · exact ⟨h.1.2, hv⟩
      · exact h3 w hw
/-- how a call goes on -/
theorem s_go (F : Fx P m d sc p l e R s mid args below meth c D aC ad0 n0 M0 A) {a cc nA : Nat} {as : List mV} {o : mO} {σ1 : mS} (hn : nA ≤ S.length) (hnj : (S.take nA).all nj = true) (has : as = (S.take nA).reverse)
    (hrun : ∀ (ad : Nat → Nat) (H : Heap) (locs : List Loc) (ls : Array Slot) (st rest : List Value), n0 ≤ σ.1.length → (∀ k, k < n0 → ad k = ad0 k) → mWd D aC ad σ A H → (∀ k, k < 5 → σ.2 k = M0 k) → va_S A s.heap H locs → ls.size = (P m).1.2.2.1 → st = ((as.map (vv ad)).reverse ++ rest) → (rest.map fun v => v.category).sum = c2sum (S.drop nA) → (∀ v ∈ as, okV σ.1.length v ∧ v ≠ vj) →
      vx_Run p l e R s mid args below meth c H locs u (2100 * u) cc (2100 * cc) (F0 mid pc ls st) rest (cQ D aC ad H.size σ o σ1 (as.map (vv ad)).toArray) (cX D aC ad H.size σ o σ1) (mA ad σ.1.length H.size))
    (kr : ∀ v, o = .inl v → WG P m p l e R s mid args below meth c D aC ad0 n0 M0 A Q (pc + 3) (u + cc) L (psh v (S.drop nA)) σ1) (kx : ∀ ex, o = .inr ex → XG P m p l e R s mid args below meth c D aC ad0 n0 M0 A Q pc (u + cc) L (S.drop nA) σ1 ex) : WG P m p l e R s mid args below meth c D aC ad0 n0 M0 A Q pc u L S σ := by
  intro ad H locs ls st g0 g1 hW g2 hS hL hT
  obtain ⟨h1, h2, h3⟩ := sR_split nA hT hnj hn
  have hst : st = (as.map (vv ad)).reverse ++ st.drop nA := by
    rw [has, List.map_reverse, List.reverse_reverse]
    exact h1
  have hok : ∀ v ∈ as, okV σ.1.length v ∧ v ≠ vj := fun v hv => h3 v (by rw [has] at hv; exact List.mem_reverse.mp hv)
  have hr := hrun ad H locs ls st (st.drop nA) g0 g1 hW g2 hS (lR_sz hL) hst (sR_sum h2) hok
  have hin := hW.inA F.hA hS.1
  intro T hTe X
  rcases hr T hTe X with ⟨v, st₀, t, T', Lc, q0, X', hLc, e1, e2, ⟨⟨v', ad', p1, p2, p3, p4, p4', p5, p6⟩, hF⟩, stp⟩ | ⟨q, st₀, t, T', Lc, E, ce, q0, X', hLc, e1, e2, ⟨ex, ad', p1, p2, p3, p4, p4', p5, hF⟩, hce, hcv, hcl, stp⟩
  · have hv : v = v'.map (vv ad') := by cases p2; rfl
    subst hv
    obtain ⟨k1, k2, k3⟩ := vx_keep q0 e1 hS (fun q _ h => hin q h) hin hLc hF
    have hsum : 2100 * u + 2100 * cc = 2100 * (u + cc) := by omega
    have hW' : mWd D aC ad' σ1 A T'.heap := by rw [e1]; exact p5.weak hin
    have hsr : sR ad' σ1.1.length (psh v' (S.drop nA)) ((v'.map (vv ad')).toList ++ st.drop nA) := by
      cases v' with
      | none => exact sR_ad p3 p4 h2
      | some x => exact ⟨⟨Or.inl rfl, (p6 x rfl).1⟩, sR_ad p3 p4 h2⟩
    have key := kr v' p1 ad' T'.heap (locs ++ Lc) ls _ (by omega) (fun k hk => (p3 k (by omega)).trans (g1 k hk)) hW' (fun k hk => (p4' k hk).trans (g2 k hk)) k3 (lR_ad p3 p4 hL) hsr
    rw [← hsum] at key
    obtain ⟨t2, a1, b1⟩ := key T' rfl X'
    exact ⟨t2, stp t2 a1, b1⟩
  · obtain ⟨k1, k2, k3⟩ := vx_keep q0 e1 hS (fun q _ h => hin q h) hin hLc hF
    have hsum : 2100 * u + 2100 * cc = 2100 * (u + cc) := by omega
    have hW' : mWd D aC ad' σ1 A T'.heap := by rw [e1]; exact p5.weak hin
    have key := kx ex p1 ad' T'.heap (locs ++ Lc) ls _ q ce (by omega) (fun k hk => (p3 k (by omega)).trans (g1 k hk)) hW' (fun k hk => (p4' k hk).trans (g2 k hk)) k3 (lR_ad p3 p4 hL) (sR_ad p3 p4 h2) (by rw [e1]; exact hce) hcv (by rw [← p2]; exact hcl)
    rw [← hsum] at key
    obtain ⟨t2, a1, b1⟩ := key T' rfl X'
    exact ⟨t2, stp.trans a1, b1⟩
theorem cWs_pay (F : Fx P m d sc p l e R s mid args below meth c D aC ad0 n0 M0 A) (a : Nat) (ha : cW P a ∈ lw_gd) : ∀ w ∈ cWs P a, ∀ (a' : Array Value) (U : State), s.WarmedH U.vm → w.before a' U = true := by
  intro w hw a' U hWm
  have hw' : w ∈ lw_gd := by
    rcases List.mem_cons.mp hw with rfl | h
    · exact ha
    · exact h
  exact word_at hWm (good_of_word (gd_good w hw')) (F.ts w hw')
theorem cW_code {a : Nat} (h : (P a).1.2.2.2.2.2.2 = []) : cW P a = .code (P a).1.1 (P a).1.2.1 (P a).1.2.2.1 (P a).1.2.2.2.1 := by
  unfold cW
  rw [h]
theorem cW_codeW {a : Nat} (h : (P a).1.2.2.2.2.2.2 ≠ []) : cW P a = .codeWith (P a).1.1 (P a).1.2.1 (P a).1.2.2.1 (P a).1.2.2.2.1 (P a).1.2.2.2.2.2.2 := by
  unfold cW
  cases hx : (P a).1.2.2.2.2.2.2 with
  | nil => exact absurd hx h
  | cons x y => rfl
theorem callB_at (F : Fx P m d sc p l e R s mid args below meth c D aC ad0 n0 M0 A) {a d' idx n : Nat} {st : Bool} (hd : d = d' + 1) (hm : mOk P a st) (hh : (P a).1.2.2.2.2.2.2 = []) (hn : n = (P a).1.2.2.2.2.2.1 - (if st = true then 0 else 1)) (hl : (Cond.methodLink (P m).1.1.cls idx (P a).1.1).before args s = true) :
    CallB R s args (P m).1.1.cls idx (P a).1.1 (P a).1.2.1 (P a).1.2.2.1 (P a).1.2.2.2.1 (cWs P a) (cRm P a d') (P a).1.2.2.2.2.1 (2100 * (P a).1.2.2.2.2.1) n := by
  obtain ⟨m1, m2, m3, m4, m5, m6, m7, m8⟩ := hm
  have hrm := F.rm
  refine ⟨rfl, rfl, (by show d' + 10 + 1 ≤ R.frames; omega), (by show 8 + ((P a).1.2.2.1 + 11) + (40 * d' + 300) ≤ R.locals; omega), cWs_pay F a m3, (by rw [← cW_code hh]; exact List.mem_cons_self), (by rw [← cW_code hh]; exact F.ts _ m3), F.ts _ m4, m2, fun sig h => ?_, hl⟩
  rw [h] at m6
  rw [hn]
  exact (Option.some.inj m6).symm
theorem callN_at (F : Fx P m d sc p l e R s mid args below meth c D aC ad0 n0 M0 A) {a d' idx n : Nat} {st : Bool} {host : String} (hd : d = d' + 1) (hm : mOk P a st) (hh : (P a).1.2.2.2.2.2.2 = []) (hn : n = (P a).1.2.2.2.2.2.1 - (if st = true then 0 else 1)) (hl : (Cond.methodLinkNest (P m).1.1.cls idx (P a).1.1 host).before args s = true) :
    va_CN R s args (P m).1.1.cls idx (P a).1.1 host (P a).1.2.1 (P a).1.2.2.1 (P a).1.2.2.2.1 (cWs P a) (cRm P a d') (P a).1.2.2.2.2.1 (2100 * (P a).1.2.2.2.2.1) n := by
  obtain ⟨m1, m2, m3, m4, m5, m6, m7, m8⟩ := hm
  have hrm := F.rm
  refine ⟨⟨rfl, rfl, (by show d' + 10 + 1 ≤ R.frames; omega), (by show 8 + ((P a).1.2.2.1 + 11) + (40 * d' + 300) ≤ R.locals; omega), cWs_pay F a m3, (by rw [← cW_code hh]; exact List.mem_cons_self)⟩, (by rw [← cW_code hh]; exact F.ts _ m3), F.ts _ m4, m2, fun sig h => ?_, hl⟩
  rw [h] at m6
  rw [hn]
  exact (Option.some.inj m6).symm
theorem fix_at (F : Fx P m d sc p l e R s mid args below meth c D aC ad0 n0 M0 A) : CallFix p mid c (P m).1.2.1 (P m).1.2.2.1 s args lw_gd (P m).1.1.cls := ⟨F.exec, F.code, F.maxL, F.own, F.ts⟩
theorem bd_at (F : Fx P m d sc p l e R s mid args below meth c D aC ad0 n0 M0 A) {cc : Nat} (h : u + cc ≤ (P m).1.2.2.2.2.1) : u + cc ≤ R.cells ∧ 2100 * u + 2100 * cc ≤ R.slots := by
  have := F.bd
  exact ⟨by omega, by omega⟩
theorem rec_at (F : Fx P m d sc p l e R s mid args below meth c D aC ad0 n0 M0 A) {ad : Nat → Nat} {H : Heap} {k ci : Nat} {fs : List (Option (Option Nat))} {q : vw_C} (hW : mWd D aC ad σ A H) (hk : σ.1[k]? = some (0, ci, fs)) (hq : mcl[ci]? = some q) : ∃ cell : Cell, H[ad k]? = some cell ∧ cell.vm.isStatics = false ∧ s.vm.findClass q.1 = some cell.cls :=
  va_recv (q0 := k - 5) (ci := ci) F.kn.1 hW.1 hq (mws_get hk (hW.2.2.1.ge hk (Nat.zero_le 4)))
theorem rcv_some {as : List mV} {ci : Nat} (h : rcvOk σ as (ci + 1) = true) : ∃ k fs as', as = vr k :: as' ∧ σ.1[k]? = some (0, ci, fs) := by
  unfold rcvOk at h
  split at h
  · rename_i h0; cases h0
  · rename_i c0 k as' h0
    cases h0
    split at h
    · rename_i c1 fs hk
      have : c1 = ci := by simpa using h
      subst this
      exact ⟨k, fs, as', rfl, hk⟩
    · cases h
  · cases h
/-- the kinds of calls -/
theorem s_callV (F : Fx P m d sc p l e R s mid args below meth c D aC ad0 n0 M0 A) {a d' nA ci i idx : Nat} {o : mO} {σ1 : mS} {q : vw_C} (hn : nA ≤ S.length) (h8 : c2sum (S.drop nA) ≤ 8) (hu : u + (P a).1.2.2.2.2.1 ≤ (P m).1.2.2.2.2.1) (hnj : (S.take nA).all nj = true) (hrc : rcvOk σ (S.take nA).reverse (ci + 1) = true) (hq : mcl[ci]? = some q) (hqc : q.1 = (P a).1.1.cls) (hd' : d = d' + 1) (hm : mOk P a false) (hh : (P a).1.2.2.2.2.2.2 = []) (hnA : nA = (P a).1.2.2.2.2.2.1) (hsel : (P a).1.1.name ≠ "<init>")
    (hl : lw_tbl[i]? = some (.methodLink (P m).1.1.cls idx (P a).1.1)) (hd : decode (P m).1.2.1 pc = .ok (.invokevirtual idx, 3)) (hM : cMet P l a d' (S.take nA).reverse σ o σ1)
    (kr : ∀ v, o = .inl v → WG P m p l e R s mid args below meth c D aC ad0 n0 M0 A Q (pc + 3) (u + (P a).1.2.2.2.2.1) L (psh v (S.drop nA)) σ1) (kx : ∀ ex, o = .inr ex → XG P m p l e R s mid args below meth c D aC ad0 n0 M0 A Q pc (u + (P a).1.2.2.2.2.1) L (S.drop nA) σ1 ex) : WG P m p l e R s mid args below meth c D aC ad0 n0 M0 A Q pc u L S σ := by
  refine s_go F (a := a) hn hnj rfl (fun ad H locs ls st rest g0 g1 hW g2 hS hsz hst hsum hok => ?_) kr kx
  obtain ⟨k, fs, as', has, hk⟩ := rcv_some hrc
  have hm' := hm
  obtain ⟨m1, m2, m3, m4, m5, m6, m7, m8⟩ := hm
  obtain ⟨i1, i2, i3⟩ := m8 rfl
  rw [has] at hM hst hok ⊢
  have hlen : (vr k :: as').length = nA := by rw [← has]; simp; omega
  refine vx_runV (As := as'.map (vv ad)) (b := ad k) (C := (P a).1.1.cls) (n := nA - 1) (fix_at F) (hM D aC ad H.size) ⟨callB_at F hd' hm' hh (by rw [hnA]; rfl) (gd_at F hl rfl), F.ts _ i1, F.ts _ (i3.resolve_left hsel)⟩ ⟨cPre_blind, by rw [← hqc]; exact rec_at F hW hk hq, fun U hU hWm => cPre_at F g0 g1 hW g2 hS hok hU hWm⟩ rfl (by simp at hlen ⊢; omega) hsz (by rw [hst, List.map_cons, List.reverse_cons, List.append_assoc]; rfl) (by show 2 * 0 + _ ≤ 8; omega) hd (bd_at F hu)
theorem s_callS (F : Fx P m d sc p l e R s mid args below meth c D aC ad0 n0 M0 A) {a d' nA i idx : Nat} {o : mO} {σ1 : mS} (hn : nA ≤ S.length) (h8 : c2sum (S.drop nA) ≤ 8) (hu : u + (P a).1.2.2.2.2.1 ≤ (P m).1.2.2.2.2.1) (hnj : (S.take nA).all nj = true) (hd' : d = d' + 1) (hm : mOk P a true) (hh : (P a).1.2.2.2.2.2.2 = []) (hnA : nA = (P a).1.2.2.2.2.2.1)
    (hl : lw_tbl[i]? = some (.methodLink (P m).1.1.cls idx (P a).1.1)) (hd : decode (P m).1.2.1 pc = .ok (.invokestatic idx, 3)) (hM : cMet P l a d' (S.take nA).reverse σ o σ1)
    (kr : ∀ v, o = .inl v → WG P m p l e R s mid args below meth c D aC ad0 n0 M0 A Q (pc + 3) (u + (P a).1.2.2.2.2.1) L (psh v (S.drop nA)) σ1) (kx : ∀ ex, o = .inr ex → XG P m p l e R s mid args below meth c D aC ad0 n0 M0 A Q pc (u + (P a).1.2.2.2.2.1) L (S.drop nA) σ1 ex) : WG P m p l e R s mid args below meth c D aC ad0 n0 M0 A Q pc u L S σ := by
  refine s_go F (a := a) hn hnj rfl (fun ad H locs ls st rest g0 g1 hW g2 hS hsz hst hsum hok => ?_) kr kx
  have hm' := hm
  obtain ⟨m1, m2, m3, m4, m5, m6, m7, m8⟩ := hm
  refine vx_runS (As := ((S.take nA).reverse).map (vv ad)) (n := nA) (fix_at F) (hM D aC ad H.size) ⟨callB_at F hd' hm' hh (by rw [hnA]; rfl) (gd_at F hl rfl), F.ts _ (m7 rfl)⟩ ⟨cPre_blind, fun U hU hWm => cPre_at F g0 g1 hW g2 hS hok hU hWm⟩ rfl (by simp; omega) hsz hst (by show 2 * 0 + _ ≤ 8; omega) hd (bd_at F hu)
theorem s_callSN (F : Fx P m d sc p l e R s mid args below meth c D aC ad0 n0 M0 A) {a d' nA i idx : Nat} {host : String} {o : mO} {σ1 : mS} (hn : nA ≤ S.length) (h8 : c2sum (S.drop nA) ≤ 8) (hu : u + (P a).1.2.2.2.2.1 ≤ (P m).1.2.2.2.2.1) (hnj : (S.take nA).all nj = true) (hd' : d = d' + 1) (hm : mOk P a true) (hh : (P a).1.2.2.2.2.2.2 = []) (hnA : nA = (P a).1.2.2.2.2.2.1)
    (hl : lw_tbl[i]? = some (.methodLinkNest (P m).1.1.cls idx (P a).1.1 host)) (hd : decode (P m).1.2.1 pc = .ok (.invokestatic idx, 3)) (hM : cMet P l a d' (S.take nA).reverse σ o σ1)
    (kr : ∀ v, o = .inl v → WG P m p l e R s mid args below meth c D aC ad0 n0 M0 A Q (pc + 3) (u + (P a).1.2.2.2.2.1) L (psh v (S.drop nA)) σ1) (kx : ∀ ex, o = .inr ex → XG P m p l e R s mid args below meth c D aC ad0 n0 M0 A Q pc (u + (P a).1.2.2.2.2.1) L (S.drop nA) σ1 ex) : WG P m p l e R s mid args below meth c D aC ad0 n0 M0 A Q pc u L S σ := by
  refine s_go F (a := a) hn hnj rfl (fun ad H locs ls st rest g0 g1 hW g2 hS hsz hst hsum hok => ?_) kr kx
  have hm' := hm
  obtain ⟨m1, m2, m3, m4, m5, m6, m7, m8⟩ := hm
  refine vx_runSN (As := ((S.take nA).reverse).map (vv ad)) (n := nA) (fix_at F) (hM D aC ad H.size) ⟨callN_at F hd' hm' hh (by rw [hnA]; rfl) (va_Nw.use rfl (ng_at F hl rfl)), F.ts _ (m7 rfl), trivial⟩ ⟨cPre_blind, fun U hU hWm => cPre_at F g0 g1 hW g2 hS hok hU hWm⟩ rfl (by simp; omega) hsz hst (by show 2 * 0 + _ ≤ 8; omega) hd (bd_at F hu)
theorem s_callSX (F : Fx P m d sc p l e R s mid args below meth c D aC ad0 n0 M0 A) {a d' nA i idx : Nat} {o : mO} {σ1 : mS} (hn : nA ≤ S.length) (h8 : c2sum (S.drop nA) ≤ 8) (hu : u + (P a).1.2.2.2.2.1 ≤ (P m).1.2.2.2.2.1) (hnj : (S.take nA).all nj = true) (hd' : d = d' + 1) (hm : mOk P a true) (hh : (P a).1.2.2.2.2.2.2 ≠ []) (hnA : nA = (P a).1.2.2.2.2.2.1)
    (hl : lw_tbl[i]? = some (.methodLink (P m).1.1.cls idx (P a).1.1)) (hd : decode (P m).1.2.1 pc = .ok (.invokestatic idx, 3)) (hM : cMet P l a d' (S.take nA).reverse σ o σ1)
    (kr : ∀ v, o = .inl v → WG P m p l e R s mid args below meth c D aC ad0 n0 M0 A Q (pc + 3) (u + (P a).1.2.2.2.2.1) L (psh v (S.drop nA)) σ1) (kx : ∀ ex, o = .inr ex → XG P m p l e R s mid args below meth c D aC ad0 n0 M0 A Q pc (u + (P a).1.2.2.2.2.1) L (S.drop nA) σ1 ex) : WG P m p l e R s mid args below meth c D aC ad0 n0 M0 A Q pc u L S σ := by
  refine s_go F (a := a) hn hnj rfl (fun ad H locs ls st rest g0 g1 hW g2 hS hsz hst hsum hok => ?_) kr kx
  have hm' := hm
  obtain ⟨m1, m2, m3, m4, m5, m6, m7, m8⟩ := hm
  have hrm := F.rm
  refine vx_runSX (As := ((S.take nA).reverse).map (vv ad)) (n := nA) (hh := (P a).1.2.2.2.2.2.2) (bytes := (P a).1.2.1) (maxL := (P a).1.2.2.1) (ret := (P a).1.2.2.2.1) (fix_at F) (hM D aC ad H.size) ⟨⟨rfl, rfl, (by show d' + 10 + 1 ≤ R.frames; omega), (by show 8 + ((P a).1.2.2.1 + 11) + (40 * d' + 300) ≤ R.locals; omega), cWs_pay F a m3, (by rw [← cW_codeW hh]; exact List.mem_cons_self)⟩, (by rw [← cW_codeW hh]; exact F.ts _ m3), F.ts _ m4, m2, fun sig h => ?_, gd_at F hl rfl, F.ts _ (m7 rfl)⟩ ⟨cPre_blind, fun U hU hWm => cPre_at F g0 g1 hW g2 hS hok hU hWm⟩ rfl (by simp; omega) hsz hst (by show 2 * 0 + _ ≤ 8; omega) hd (bd_at F hu)
  rw [h] at m6
  rw [hnA]
  exact (Option.some.inj m6).symm
theorem s_callI (F : Fx P m d sc p l e R s mid args below meth c D aC ad0 n0 M0 A) {a d' nA ci i idx : Nat} {o : mO} {σ1 : mS} (hn : nA ≤ S.length) (h8 : c2sum (S.drop nA) ≤ 8) (hu : u + (P a).1.2.2.2.2.1 ≤ (P m).1.2.2.2.2.1) (hnj : (S.take nA).all nj = true) (hrc : rcvOk σ (S.take nA).reverse (ci + 1) = true) (hd' : d = d' + 1) (hm : mOk P a false) (hh : (P a).1.2.2.2.2.2.2 = []) (hnA : nA = (P a).1.2.2.2.2.2.1) (hin : (P a).1.1.name = "<init>") (hrt : (P a).1.2.2.2.1 = none)
    (hl : lw_tbl[i]? = some (.methodLink (P m).1.1.cls idx (P a).1.1)) (hd : decode (P m).1.2.1 pc = .ok (.invokespecial idx, 3)) (hM : cMet P l a d' (S.take nA).reverse σ o σ1)
    (kr : ∀ v, o = .inl v → WG P m p l e R s mid args below meth c D aC ad0 n0 M0 A Q (pc + 3) (u + (P a).1.2.2.2.2.1) L (psh v (S.drop nA)) σ1) (kx : ∀ ex, o = .inr ex → XG P m p l e R s mid args below meth c D aC ad0 n0 M0 A Q pc (u + (P a).1.2.2.2.2.1) L (S.drop nA) σ1 ex) : WG P m p l e R s mid args below meth c D aC ad0 n0 M0 A Q pc u L S σ := by
  refine s_go F (a := a) hn hnj rfl (fun ad H locs ls st rest g0 g1 hW g2 hS hsz hst hsum hok => ?_) kr kx
  obtain ⟨k, fs, as', has, hk⟩ := rcv_some hrc
  have hm' := hm
  obtain ⟨m1, m2, m3, m4, m5, m6, m7, m8⟩ := hm
  obtain ⟨i1, i2, i3⟩ := m8 rfl
  rw [has] at hM hst hok ⊢
  have hlen : (vr k :: as').length = nA := by rw [← has]; simp; omega
  have hcb := callB_at F (n := nA - 1) hd' hm' hh (by rw [hnA]; rfl) (gd_at F hl rfl)
  rw [hrt] at hcb
  refine vx_runI (As := as'.map (vv ad)) (b := ad k) (n := nA - 1) (fix_at F) (hM D aC ad H.size) ⟨hcb, hin, F.ts _ i1⟩ ⟨cPre_blind, fun U hU hWm => cPre_at F g0 g1 hW g2 hS hok hU hWm⟩ rfl (by simp at hlen ⊢; omega) hsz (by rw [hst, List.map_cons, List.reverse_cons, List.append_assoc]; rfl) (by show 2 * 0 + _ ≤ 8; omega) hd (bd_at F hu)
theorem s_callIN (F : Fx P m d sc p l e R s mid args below meth c D aC ad0 n0 M0 A) {a d' nA ci i idx : Nat} {host : String} {o : mO} {σ1 : mS} (hn : nA ≤ S.length) (h8 : c2sum (S.drop nA) ≤ 8) (hu : u + (P a).1.2.2.2.2.1 ≤ (P m).1.2.2.2.2.1) (hnj : (S.take nA).all nj = true) (hrc : rcvOk σ (S.take nA).reverse (ci + 1) = true) (hd' : d = d' + 1) (hm : mOk P a false) (hh : (P a).1.2.2.2.2.2.2 = []) (hnA : nA = (P a).1.2.2.2.2.2.1) (hin : (P a).1.1.name = "<init>") (hrt : (P a).1.2.2.2.1 = none)
    (hl : lw_tbl[i]? = some (.methodLinkNest (P m).1.1.cls idx (P a).1.1 host)) (hd : decode (P m).1.2.1 pc = .ok (.invokespecial idx, 3)) (hM : cMet P l a d' (S.take nA).reverse σ o σ1)
    (kr : ∀ v, o = .inl v → WG P m p l e R s mid args below meth c D aC ad0 n0 M0 A Q (pc + 3) (u + (P a).1.2.2.2.2.1) L (psh v (S.drop nA)) σ1) (kx : ∀ ex, o = .inr ex → XG P m p l e R s mid args below meth c D aC ad0 n0 M0 A Q pc (u + (P a).1.2.2.2.2.1) L (S.drop nA) σ1 ex) : WG P m p l e R s mid args below meth c D aC ad0 n0 M0 A Q pc u L S σ := by
  refine s_go F (a := a) hn hnj rfl (fun ad H locs ls st rest g0 g1 hW g2 hS hsz hst hsum hok => ?_) kr kx
  obtain ⟨k, fs, as', has, hk⟩ := rcv_some hrc
  have hm' := hm
  obtain ⟨m1, m2, m3, m4, m5, m6, m7, m8⟩ := hm
  obtain ⟨i1, i2, i3⟩ := m8 rfl
  rw [has] at hM hst hok ⊢
  have hlen : (vr k :: as').length = nA := by rw [← has]; simp; omega
  have hcb := callN_at F (n := nA - 1) (host := host) hd' hm' hh (by rw [hnA]; rfl) (va_Nw.use rfl (ng_at F hl rfl))
  rw [hrt] at hcb
  refine vx_runIN (As := as'.map (vv ad)) (b := ad k) (n := nA - 1) (fix_at F) (hM D aC ad H.size) ⟨hcb, hin, F.ts _ i1⟩ ⟨cPre_blind, fun U hU hWm => cPre_at F g0 g1 hW g2 hS hok hU hWm⟩ rfl (by simp at hlen ⊢; omega) hsz (by rw [hst, List.map_cons, List.reverse_cons, List.append_assoc]; rfl) (by show 2 * 0 + _ ≤ 8; omega) hd (bd_at F hu)
end CA
end
section
/-! THE WORDS OF THE EXCEPTIONS -/
def exI (e : Nat) : Nat := match e with
  | 0 => 64
  | 1 => 81
  | 2 => 96
  | 3 => 213
  | _ => 146
def exS : List String := ["java/lang/RuntimeException", "java/lang/Exception"]
def exX (e : Nat) : Nat := match e with
  | 2 => 13
  | _ => 7
def exB (e : Nat) : ByteArray := match e with
  | 2 => prog_27_method_4_code
  | _ => Bundle.six
theorem thr_ws : ∀ ex, ex < 5 → ∀ w ∈ nx_at RX9 (exI ex) (exN ex) (exX ex) (exB ex) exS, w ∈ lw_gd ∨ w ∈ lw_ng := by
  have key : ∀ ws : List Cond, ws.all (fun w => decide (w ∈ lw_tbl) && (goodWord w || mNg w)) = true → ∀ w ∈ ws, w ∈ lw_gd ∨ w ∈ lw_ng := by
    intro ws h w hw
    have h1 := List.all_eq_true.mp h w hw
    simp only [Bool.and_eq_true, decide_eq_true_eq, Bool.or_eq_true] at h1
    rcases h1.2 with h2 | h2
    · exact Or.inl (List.mem_filter.mpr ⟨h1.1, h2⟩)
    · exact Or.inr (List.mem_filter.mpr ⟨h1.1, h2⟩)
  intro ex hex
  rcases (show ex = 0 ∨ ex = 1 ∨ ex = 2 ∨ ex = 3 ∨ ex = 4 by omega) with rfl | rfl | rfl | rfl | rfl
  · exact key _ (by decide +kernel)
  · exact key _ (by decide +kernel)
  · exact key _ (by decide +kernel)
  · exact key _ (by decide +kernel)
  · exact key _ (by decide +kernel)
theorem thr_dec : ∀ ex, ex < 5 → decode (exB ex) 0 = .ok (.aload_n 0, 1) ∧ decode (exB ex) 1 = .ok (.aload_n 1, 1) ∧ decode (exB ex) 2 = .ok (.invokespecial (exX ex), 3) ∧ decode (exB ex) 5 = .ok (.return_, 1) := by
  intro ex hex
  rcases (show ex = 0 ∨ ex = 1 ∨ ex = 2 ∨ ex = 3 ∨ ex = 4 by omega) with rfl | rfl | rfl | rfl | rfl <;> exact ⟨by decide +kernel, by decide +kernel, by decide +kernel, by decide +kernel⟩
theorem thr_in : ∀ ex, ex < 5 → Cond.initialized (exN ex) ∈ lw_gd := by
  intro ex hex
  rcases (show ex = 0 ∨ ex = 1 ∨ ex = 2 ∨ ex = 3 ∨ ex = 4 by omega) with rfl | rfl | rfl | rfl | rfl
  · exact gd_all (ws := [Cond.initialized (exN 0)]) (by decide +kernel) _ (List.mem_singleton.mpr rfl)
  · exact gd_all (ws := [Cond.initialized (exN 1)]) (by decide +kernel) _ (List.mem_singleton.mpr rfl)
  · exact gd_all (ws := [Cond.initialized (exN 2)]) (by decide +kernel) _ (List.mem_singleton.mpr rfl)
  · exact gd_all (ws := [Cond.initialized (exN 3)]) (by decide +kernel) _ (List.mem_singleton.mpr rfl)
  · exact gd_all (ws := [Cond.initialized (exN 4)]) (by decide +kernel) _ (List.mem_singleton.mpr rfl)
theorem thr_fit : ∀ ex, ex < 5 → Bundle.fit (exN ex) = true := by
  intro ex hex
  rcases (show ex = 0 ∨ ex = 1 ∨ ex = 2 ∨ ex = 3 ∨ ex = 4 by omega) with rfl | rfl | rfl | rfl | rfl <;> decide +kernel
end
section
/-! ENDS OF A METHOD -/
def retAt (P : mP) (m pc : Nat) (v : Option mV) (S : List mV) : Prop :=
  (decode (P m).1.2.1 pc = .ok (.return_, 1) ∧ (P m).1.2.2.2.1 = none ∧ v = none ∧ S = []) ∨
  (∃ x, decode (P m).1.2.1 pc = .ok (.ireturn, 1) ∧ ((P m).1.2.2.2.1 = some .int ∨ ((P m).1.2.2.2.1 = some .boolean ∧ bit? x = true)) ∧ v = some (vi x) ∧ S = [vi x]) ∨
  (∃ x, decode (P m).1.2.1 pc = .ok (.dreturn, 1) ∧ (P m).1.2.2.2.1 = some .double ∧ v = some (vd x) ∧ S = [vd x])
def thrAt (P : mP) (m pc ex : Nat) : Prop := (P m).1.1.cls = RX9 ∧ (P m).1.2.2.2.2.2.2 = [] ∧ ex < 5 ∧ ∃ (ik is : Nat) (text : String), Cond.classLink RX9 ik (exN ex) ∈ lw_gd ∧ Cond.stringRef RX9 is text ∈ lw_tbl ∧ decode (P m).1.2.1 pc = .ok (.new ik, 3) ∧ decode (P m).1.2.1 (pc + 3) = .ok (.dup, 1) ∧
  ((decode (P m).1.2.1 (pc + 4) = .ok (.ldc is, 2) ∧ decode (P m).1.2.1 (pc + 6) = .ok (.invokespecial (exI ex), 3) ∧ decode (P m).1.2.1 (pc + 9) = .ok (.athrow, 1)) ∨
   (decode (P m).1.2.1 (pc + 4) = .ok (.ldc_w is, 3) ∧ decode (P m).1.2.1 (pc + 7) = .ok (.invokespecial (exI ex), 3) ∧ decode (P m).1.2.1 (pc + 10) = .ok (.athrow, 1)))
def Fin (P : mP) (m : Nat) (p : Program) (l : Launch) (e : Env) (R : Room) (s : State) (mid : MethodId) (args : Array Value) (below : List Frame) (meth : Method) (c : Code) (D : va_G) (aC : FieldType → ClassId) (ad0 : Nat → Nat) (n0 : Nat) (M0 : mM) (A : Nat → Prop) (Q : State → Prop) (o : mO) (σ' : mS) : Prop :=
  (∀ v, o = .inl v → ∀ pc u L S, u ≤ (P m).1.2.2.2.2.1 → retAt P m pc v S → WG P m p l e R s mid args below meth c D aC ad0 n0 M0 A Q pc u L S σ') ∧
  (∀ ex, o = .inr ex → ∀ pc u L S, u + 1 ≤ (P m).1.2.2.2.2.1 → S.length ≤ 20 → thrAt P m pc ex → WG P m p l e R s mid args below meth c D aC ad0 n0 M0 A Q pc u L S σ') ∧
  (∀ ex, o = .inr ex → ∀ pc u L S, u ≤ (P m).1.2.2.2.2.1 → (P m).1.2.2.2.2.2.2 = [] → XG P m p l e R s mid args below meth c D aC ad0 n0 M0 A Q pc u L S σ' ex)
theorem ng_tab {w : Cond} (h : w ∈ lw_ng) : w.onTables = true := by
  have h1 := (List.mem_filter.mp h).2
  unfold mNg at h1
  split at h1
  · rfl
  · rfl
  · rfl
  · rfl
  · cases h1
theorem gd_ot {w : Cond} (h : w ∈ lw_gd) : vx_ot w = true := by
  unfold vx_ot
  rw [gd_good w h, Bool.or_true]
theorem ng_ot {w : Cond} (h : w ∈ lw_ng) : vx_ot w = true := by
  unfold vx_ot
  rw [ng_tab h, Bool.true_or]
section EN
variable {P : mP} {m d : Nat} {sc : Bool} {p : Program} {l : Launch} {e : Env} {R : Room} {s : State} {mid : MethodId} {args : Array Value} {below : List Frame} {meth : Method} {c : Code} {D : va_G} {aC : FieldType → ClassId} {ad0 : Nat → Nat} {n0 : Nat} {M0 : mM} {A : Nat → Prop} {Q : State → Prop}
variable {pc u : Nat} {L S : List mV} {σ : mS}
theorem mWd.grow {ad : Nat → Nat} {H H1 : Heap} (h : mWd D aC ad σ A H) (hq : ∀ q : Nat, q < H.size → H1[q]? = H[q]?) : mWd D aC ad σ A H1 := ⟨h.1.kept (fun k q hk => hq _ (h.1 k q hk).lt), h.2⟩
theorem fin_meth {σ0 : mS} {o : mO} {σ' : mS} (F : Fx P m d sc p l e R s mid args below meth c D aC ad0 σ0.1.length σ0.2 (mA ad0 σ0.1.length s.heap.size)) :
    Fin P m p l e R s mid args below meth c D aC ad0 σ0.1.length σ0.2 (mA ad0 σ0.1.length s.heap.size) (vx_MQ below (cQ D aC ad0 s.heap.size σ0 o σ') (cX D aC ad0 s.heap.size σ0 o σ') args s (P m).1.2.2.2.2.1 (2100 * (P m).1.2.2.2.2.1) (mA ad0 σ0.1.length s.heap.size)) o σ' := by
  refine ⟨fun v hv pc u L S hu hr => ?_, fun ex hx pc u L S hu hS20 hr => ?_, fun ex hx pc u L S hu hh => ?_⟩
  · subst hv
    intro ad H locs ls st g0 g1 hW g2 hS hL hT
    refine W.widen (k := (P m).1.2.2.2.2.1) (n := 2100 * (P m).1.2.2.2.2.1) hu (by omega) ?_
    have hpost : ∀ (t : State) (x : Option Value), t.heap = H → x = v.map (vv ad) → (∀ y, v = some y → okV σ'.1.length y ∧ y ≠ vj) → cQ D aC ad0 s.heap.size σ0 (.inl v) σ' args s (.returned x) t := by
      intro t x ht hx hy
      exact ⟨⟨v, ad, rfl, by rw [hx], g1, g0, g2, by rw [ht]; exact hW, hy⟩, hS.F ht⟩
    rcases hr with ⟨r1, r2, rfl, rfl⟩ | ⟨x, r1, r2, rfl, rfl⟩ | ⟨x, r1, r2, rfl, rfl⟩
    · cases st with
      | cons _ _ => exact hT.elim
      | nil => exact vx_ret (W.vret F.exec F.code (F.ret.trans r2) (fun t ht hWm => hpost t none ht rfl (fun y hy => by cases hy)) hS.2.2 r1 F.locks)
    · obtain ⟨y, st', rfl, h1, h2, h3⟩ := sR_cons hT
      cases sv_i h1
      cases st' with
      | cons _ _ => exact h3.elim
      | nil =>
        have hq : ∀ t : State, t.heap = H → s.WarmedH t.vm → cQ D aC ad0 s.heap.size σ0 (.inl (some (vi x))) σ' args s (.returned (some (.int (Int32.ofInt x)))) t := fun t ht hWm => hpost t _ ht rfl (fun y hy => by cases hy; exact ⟨h2, fun z => by cases z⟩)
        rcases r2 with r2 | ⟨r2, r3⟩
        · exact vx_ret (W.iret F.exec F.code (F.ret.trans r2) hq hS.2.2 r1 F.locks)
        · refine vx_ret (W.zret (ty := .boolean) F.exec F.code (F.ret.trans r2) ?_ hq hS.2.2 r1 F.locks)
          unfold bit? at r3
          rw [Bool.or_eq_true, decide_eq_true_eq, decide_eq_true_eq] at r3
          rcases r3 with rfl | rfl <;> rfl
    · obtain ⟨y, st', rfl, h1, h2, h3⟩ := sR_cons hT
      cases sv_d h1
      cases st' with
      | cons _ _ => exact h3.elim
      | nil => exact vx_ret (W.dret F.exec F.code (F.ret.trans r2) (fun t ht hWm => hpost t _ ht rfl (fun y hy => by cases hy; exact ⟨trivial, fun z => by cases z⟩)) hS.2.2 r1 F.locks)
  · subst hx
    intro ad H locs ls st g0 g1 hW g2 hS hL hT
    obtain ⟨t1, t2, t3, ik, is, text, t4, t5, t6, t7, t8⟩ := hr
    obtain ⟨sa, hsa⟩ := F.kn.2.2.1 RX9 is text t5
    have hown := F.own
    rw [t1] at hown
    have hrm := F.rm
    have hb := F.bd
    have hs := sR_le hT hS20
    have htab : ∀ z, ∀ x ∈ c.exceptionTable.toList, covers x z = false := by
      intro z x hx
      rw [F.tab, t2] at hx
      cases hx
    have hat : ∀ w ∈ nx_at RX9 (exI ex) (exN ex) (exX ex) (exB ex) exS, w.before args s = true := fun w hw => by
      rcases thr_ws ex t3 w hw with h | h
      · exact F.ts w h
      · exact va_Nw.use (ng_tab h) (F.kn.2.1 w h)
    have hgd : ∀ w ∈ Cond.classLink RX9 ik (exN ex) :: Cond.initialized (exN ex) :: nx_at RX9 (exI ex) (exN ex) (exX ex) (exB ex) exS, vx_ot w = true := by
      intro w hw
      rcases List.mem_cons.mp hw with rfl | hw
      · exact gd_ot t4
      · rcases List.mem_cons.mp hw with rfl | hw
        · exact gd_ot (thr_in ex t3)
        · rcases thr_ws ex t3 w hw with h | h
          · exact gd_ot h
          · exact ng_ot h
    have hxx : ∀ t : State, s.vm.Alike t.vm → H.size ≤ t.heap.size → (∀ q : Nat, q < H.size → t.heap[q]? = H[q]?) → cX D aC ad0 s.heap.size σ0 (.inr ex) σ' (exN ex) s t := by
      intro t hvm hz hq
      refine ⟨ex, ad, rfl, rfl, g1, g0, g2, hW.grow hq, Nat.le_trans hS.1 hz, fun q h1 h2 => ?_⟩
      rw [hq q (Nat.lt_of_lt_of_le h1 hS.1)]
      exact hS.2.1 q h1 h2
    rcases t8 with ⟨t8, t9, t10⟩ | ⟨t8, t9, t10⟩
    · exact nx_throwS (names := exS) (text := text) F.exec F.code F.ntr (thr_dec ex t3).1 (thr_dec ex t3).2.1 (thr_dec ex t3).2.2.1 (thr_dec ex t3).2.2.2 hown (thr_fit ex t3) (by decide +kernel) (F.ts _ t4) (F.ts _ (thr_in ex t3)) hsa hat hgd F.st0.2.2.2.2.1 F.st0.2.2.2.2.2 hS ((lR_sz hL).trans F.maxL.symm) t6 t7 t8 t9 t10 (htab _) (by show 2 + 3 < _; omega) (by show _ + (13 * (2 + 1) + 43) ≤ _; omega) (by omega) (by omega) F.locks hxx hS.2.2 (by omega) (by omega)
    · exact nx_throwSW (names := exS) (text := text) F.exec F.code F.ntr (thr_dec ex t3).1 (thr_dec ex t3).2.1 (thr_dec ex t3).2.2.1 (thr_dec ex t3).2.2.2 hown (thr_fit ex t3) (by decide +kernel) (F.ts _ t4) (F.ts _ (thr_in ex t3)) hsa hat hgd F.st0.2.2.2.2.1 F.st0.2.2.2.2.2 hS ((lR_sz hL).trans F.maxL.symm) t6 t7 t8 t9 t10 (htab _) (by show 2 + 3 < _; omega) (by show _ + (13 * (2 + 1) + 43) ≤ _; omega) (by omega) (by omega) F.locks hxx hS.2.2 (by omega) (by omega)
  · subst hx
    intro ad H locs ls st q ce g0 g1 hW g2 hS hL hT hce hcv hcl
    refine vx_out (E := exN ex) (ce := ce) (fun x hx => ?_) F.locks hce hcv hcl (fun t ht hvm => ?_) hS.2.2 hu (by omega)
    · rw [F.tab, hh] at hx
      cases hx
    · refine ⟨ex, ad, rfl, rfl, g1, g0, g2, by rw [ht]; exact hW, hS.F ht⟩
end EN
end
section
/-! THE CHECK OF A STRAIGHT INSTRUCTION, AND THAT IT SUFFICES -/
def rgb (n : Int) : Bool := decide (-2147483648 ≤ n) && decide (n < 2147483648)
theorem rgb_ok {n : Int} (h : rgb n = true) : inR n := by
  unfold rgb at h
  simp only [Bool.and_eq_true, decide_eq_true_eq] at h
  exact h
/-- a link's place among the words, its kind, the class that holds it (by number), its index, what it names -/
abbrev mLk : Type := Nat × Nat × Nat × Nat × Nat × Nat
abbrev mK : Type := Nat → mLk
def cN (k : Nat) : String := match k with
  | 0 => RX0
  | 1 => RX1
  | 2 => RX2
  | 3 => RX3
  | 4 => RX4
  | 5 => RX5
  | 6 => RX6
  | 7 => RX7
  | 8 => RX8
  | 9 => RX9
  | 10 => RX10
  | 11 => RL
  | _ => RJ7
def libN (k : Nat) : MethodName := match k with
  | 1 => Lib.Math.max.name
  | 2 => Lib.Math.min.name
  | 3 => Lib.Math.abs.name
  | 4 => Lib.objectInit
  | 5 => arraycopyName
  | _ => ⟨"[I", "clone", "()Ljava/lang/Object;"⟩
def lkP (P : mP) (q : mLk) : Prop := match q.2.1 with
  | 0 => ∃ c : vw_C, mcl[q.2.2.2.2.1]? = some c ∧ lw_tbl[q.1]? = some (.fieldLink (cN q.2.2.1) q.2.2.2.1 (c.2.1 q.2.2.2.2.2).1 (c.2.1 q.2.2.2.2.2).2.1 (c.2.1 q.2.2.2.2.2).2.2.1)
  | 1 => lw_tbl[q.1]? = some (.methodLink (cN q.2.2.1) q.2.2.2.1 (P q.2.2.2.2.1).1.1)
  | 2 => ∃ h : String, lw_tbl[q.1]? = some (.methodLinkNest (cN q.2.2.1) q.2.2.2.1 (P q.2.2.2.2.1).1.1 h)
  | 3 => lw_tbl[q.1]? = some (.fieldLink (cN q.2.2.1) q.2.2.2.1 "SpatialPoints" (stN q.2.2.2.2.1) "[I")
  | 4 => lw_tbl[q.1]? = some (.fieldLinkNest (cN q.2.2.1) q.2.2.2.1 "SpatialPoints" (stN q.2.2.2.2.1) "[I" "SpatialPoints")
  | 5 => lw_tbl[q.1]? = some (.methodLink (cN q.2.2.1) q.2.2.2.1 (libN q.2.2.2.2.1))
  | 6 => ∃ c : vw_C, mcl[q.2.2.2.2.1]? = some c ∧ lw_tbl[q.1]? = some (.classLink (cN q.2.2.1) q.2.2.2.1 c.1)
  | 7 => lw_tbl[q.1]? = some (.classLink (cN q.2.2.1) q.2.2.2.1 (exN q.2.2.2.2.1))
  | 8 => ∃ t : String, lw_tbl[q.1]? = some (.stringRef (cN q.2.2.1) q.2.2.2.1 t)
  | 9 => lw_tbl[q.1]? = some (.classLink (cN q.2.2.1) q.2.2.2.1 "[I")
  | _ => True
def lkIs (K : mK) (pos k o i a b : Nat) : Bool := decide ((K pos).2 = (k, o, i, a, b))
theorem lk_ok {P : mP} {K : mK} {pos k o i a b : Nat} (hK : ∀ i, lkP P (K i)) (h : lkIs K pos k o i a b = true) : lkP P ((K pos).1, k, o, i, a, b) := by
  have h1 := hK pos
  have h2 : (K pos).2 = (k, o, i, a, b) := of_decide_eq_true h
  rw [← h2]
  exact h1
def refT (t : FieldType) : Bool := match t with
  | .object _ => true
  | .array _ => true
  | _ => false
def putOK (P : mP) (m a b kd : Nat) : Bool := match mcl[a]? with
  | some q => match kd with
    | 0 => !(q.2.1 b).2.2.2 && decide (mty a b = .int)
    | 1 => !(q.2.1 b).2.2.2 && decide (mty a b = .boolean)
    | _ => ((q.2.1 b).2.2.2 && refT (mty a b)) && (decide ((P m).1.1.name = "<init>") && decide ((q.2.1 b).1 = (P m).1.1.cls))
  | none => false
def okI (P : mP) (K : mK) (o m : Nat) (j : Instr) (a b pos kd len : Nat) : Bool := match j with
  | .iconst n => decide (len = 1) && rgb n
  | .bipush n => decide (len = 2) && (rgb n && decide ((Int8.ofInt n).toInt32 = Int32.ofInt n))
  | .sipush n => decide (len = 3) && (rgb n && decide ((Int16.ofInt n).toInt32 = Int32.ofInt n))
  | .lconst _ => decide (len = 1)
  | .dconst _ => decide (len = 1)
  | .iload_n _ => decide (len = 1)
  | .iload _ => decide (len = 2)
  | .aload_n _ => decide (len = 1)
  | .aload _ => decide (len = 2)
  | .dload_n _ => decide (len = 1)
  | .dload _ => decide (len = 2)
  | .istore_n _ => decide (len = 1)
  | .istore _ => decide (len = 2)
  | .astore_n _ => decide (len = 1)
  | .astore _ => decide (len = 2)
  | .dstore_n _ => decide (len = 1)
  | .dstore _ => decide (len = 2)
  | .iinc _ _ => decide (len = 3)
  | .iadd => decide (len = 1)
  | .isub => decide (len = 1)
  | .imul => decide (len = 1)
  | .ineg => decide (len = 1)
  | .irem => decide (len = 1)
  | .idiv => decide (len = 1)
  | .iand => decide (len = 1)
  | .i2l => decide (len = 1)
  | .i2c => decide (len = 1)
  | .i2d => decide (len = 1)
  | .lcmp => decide (len = 1)
  | .dcmp _ => decide (len = 1)
  | .dup => decide (len = 1)
  | .pop => decide (len = 1)
  | .dup2 => decide (len = 1)
  | .dup_x1 => decide (len = 1)
  | .getfield idx => decide (len = 3) && lkIs K pos 0 o idx a b
  | .putfield idx => decide (len = 3) && (lkIs K pos 0 o idx a b && putOK P m a b kd)
  | .getstatic idx => decide (len = 3) && (decide (a < 3) && (lkIs K pos 3 o idx a 0 || lkIs K pos 4 o idx a 0))
  | .invokestatic idx => decide (len = 3) && (decide (1 ≤ a ∧ a ≤ 3) && lkIs K pos 5 o idx a 0)
  | .invokespecial idx => decide (len = 3) && lkIs K pos 5 o idx 4 0
  | _ => false
section SO
variable {P : mP} {m d : Nat} {sc : Bool} {p : Program} {l : Launch} {e : Env} {R : Room} {s : State} {mid : MethodId} {args : Array Value} {below : List Frame} {meth : Method} {c : Code} {D : va_G} {aC : FieldType → ClassId} {ad0 : Nat → Nat} {n0 : Nat} {M0 : mM} {A : Nat → Prop} {Q : State → Prop}
variable {pc u : Nat} {L S : List mV} {σ : mS}
theorem fld_ok {K : mK} {o a b pos idx : Nat} (hK : ∀ i, lkP P (K i)) (ho : (P m).1.1.cls = cN o) (h : lkIs K pos 0 o idx a b = true) : ∃ q, mcl[a]? = some q ∧ lw_tbl[(K pos).1]? = some (.fieldLink (P m).1.1.cls idx (q.2.1 b).1 (q.2.1 b).2.1 (q.2.1 b).2.2.1) := by
  rw [ho]
  exact lk_ok hK h
theorem lib_ok {K : mK} {o a pos idx : Nat} (hK : ∀ i, lkP P (K i)) (ho : (P m).1.1.cls = cN o) (h : lkIs K pos 5 o idx a 0 = true) : lw_tbl[(K pos).1]? = some (.methodLink (P m).1.1.cls idx (libN a)) := by
  rw [ho]
  exact lk_ok hK h
theorem refT_ok {t : FieldType} (h : refT t = true) : (∃ n, t = .object n) ∨ ∃ z, t = .array z := by
  unfold refT at h
  split at h
  · exact Or.inl ⟨_, rfl⟩
  · exact Or.inr ⟨_, rfl⟩
  · cases h
theorem ldn_some {n : Nat} {st' : mSt} (h : ldn L S σ n = some st') : ∃ x, L[n]? = some (vi x) ∧ st' = (L, vi x :: S, σ) := by
  unfold ldn at h
  split at h
  · rename_i x hx
    exact ⟨x, hx, (Option.some.inj h).symm⟩
  · cases h
theorem lda_some {n : Nat} {st' : mSt} (h : lda L S σ n = some st') : ∃ x, L[n]? = some (.inr (.inl x)) ∧ st' = (L, (.inr (.inl x)) :: S, σ) := by
  unfold lda at h
  split at h
  · rename_i x hx
    exact ⟨x, hx, (Option.some.inj h).symm⟩
  · cases h
theorem ldd_some {n : Nat} {st' : mSt} (h : ldd L S σ n = some st') : ∃ x, L[n]? = some (vd x) ∧ st' = (L, vd x :: S, σ) := by
  unfold ldd at h
  split at h
  · rename_i x hx
    exact ⟨x, hx, (Option.some.inj h).symm⟩
  · cases h
theorem sti_some {n : Nat} {st' : mSt} (h : sti L S σ n = some st') : ∃ x r L', S = vi x :: r ∧ stI L n (vi x) = some L' ∧ st' = (L', r, σ) := by
  unfold sti at h
  split at h
  · rename_i x r
    obtain ⟨L', h1, h2⟩ := Option.map_eq_some_iff.mp h
    exact ⟨x, r, L', rfl, h1, h2.symm⟩
  · cases h
theorem std_some {n : Nat} {st' : mSt} (h : std L S σ n = some st') : ∃ x r L', S = vd x :: r ∧ stD L n (vd x) = some L' ∧ st' = (L', r, σ) := by
  unfold std at h
  split at h
  · rename_i x r
    obtain ⟨L', h1, h2⟩ := Option.map_eq_some_iff.mp h
    exact ⟨x, r, L', rfl, h1, h2.symm⟩
  · cases h
theorem sta_some {n : Nat} {st' : mSt} (h : sta L S σ n = some st') : ∃ v r L', (v = vj ∨ ∃ x, v = .inr (.inl x)) ∧ S = v :: r ∧ stI L n v = some L' ∧ st' = (L', r, σ) := by
  unfold sta at h
  split at h
  · rename_i x r
    obtain ⟨L', h1, h2⟩ := Option.map_eq_some_iff.mp h
    exact ⟨_, r, L', Or.inr ⟨x, rfl⟩, rfl, h1, h2.symm⟩
  · rename_i r
    obtain ⟨L', h1, h2⟩ := Option.map_eq_some_iff.mp h
    exact ⟨_, r, L', Or.inl rfl, rfl, h1, h2.symm⟩
  · cases h
theorem ar2_some {f : Int → Int → Int} {st' : mSt} (h : ar2 L S σ f = some st') : ∃ y x r, S = vi y :: vi x :: r ∧ st' = (L, vi (f x y) :: r, σ) := by
  unfold ar2 at h
  split at h
  · exact ⟨_, _, _, rfl, (Option.some.inj h).symm⟩
  · cases h
theorem arp_some {f : Int → Int → Int} {st' : mSt} (h : arp L S σ f = some st') : ∃ y x r, 0 < y ∧ S = vi y :: vi x :: r ∧ st' = (L, vi (f x y) :: r, σ) := by
  unfold arp at h
  split at h
  · split at h
    · rename_i hd
      exact ⟨_, _, _, of_decide_eq_true hd, rfl, (Option.some.inj h).symm⟩
    · cases h
  · cases h
theorem gtf_some {a b : Nat} {st' : mSt} (h : gtf L S σ a b = some st') : ∃ k fs r v, S = vr k :: r ∧ σ.1[k]? = some (0, a, fs) ∧ ((fs[b]? = some none ∧ v = vi (σ.2 k b)) ∨ ∃ t, fs[b]? = some (some t) ∧ v = .inr (.inl t)) ∧ st' = (L, v :: r, σ) := by
  unfold gtf at h
  split at h
  · split at h
    · rename_i ci fs hk
      split at h
      · rename_i hc
        have hc' : ci = a := by simpa using hc
        subst hc'
        split at h
        · rename_i hb
          exact ⟨_, fs, _, _, rfl, hk, Or.inl ⟨hb, rfl⟩, (Option.some.inj h).symm⟩
        · rename_i t hb
          exact ⟨_, fs, _, _, rfl, hk, Or.inr ⟨t, hb, rfl⟩, (Option.some.inj h).symm⟩
        · cases h
      · cases h
    · cases h
  · cases h
theorem ptf_some {a b kd : Nat} {st' : mSt} (h : ptf L S σ a b kd = some st') : ∃ k fs r, σ.1[k]? = some (0, a, fs) ∧
    ((∃ x, S = vi x :: vr k :: r ∧ fs[b]? = some none ∧ (kd = 0 ∨ (kd = 1 ∧ bit? x = true)) ∧ st' = (L, r, (σ.1, mset σ.2 k b x))) ∨
     ∃ t t0, S = .inr (.inl t) :: vr k :: r ∧ fs[b]? = some (some t0) ∧ kd = 2 ∧ st' = (L, r, (σ.1.set k (0, a, fs.set b (some t)), σ.2))) := by
  unfold ptf at h
  split at h
  · split at h
    · rename_i ci fs hk
      split at h
      · rename_i hc
        have hc' : ci = a := by simpa using hc
        subst hc'
        split at h
        · rename_i hb
          exact ⟨_, fs, _, hk, Or.inl ⟨_, rfl, hb, Or.inl rfl, (Option.some.inj h).symm⟩⟩
        · rename_i hb
          split at h
          · rename_i hx
            exact ⟨_, fs, _, hk, Or.inl ⟨_, rfl, hb, Or.inr ⟨rfl, hx⟩, (Option.some.inj h).symm⟩⟩
          · cases h
        · rename_i t0 t hb
          exact ⟨_, fs, _, hk, Or.inr ⟨_, _, rfl, hb, rfl, (Option.some.inj h).symm⟩⟩
        · cases h
      · cases h
    · cases h
  · cases h
theorem str_ok {K : mK} {o : Nat} (hK : ∀ i, lkP P (K i)) (ho : (P m).1.1.cls = cN o) (F : Fx P m d sc p l e R s mid args below meth c D aC ad0 n0 M0 A) {j : Instr} {a b pos kd len : Nat} {L' S' : List mV} {σ' : mS} (hu : u ≤ (P m).1.2.2.2.2.1) (hd : decode (P m).1.2.1 pc = .ok (j, len)) (hok : okI P K o m j a b pos kd len = true) (hs : sem j a b kd L S σ = some (L', S', σ')) (k : WG P m p l e R s mid args below meth c D aC ad0 n0 M0 A Q (pc + len) u L' S' σ') : WG P m p l e R s mid args below meth c D aC ad0 n0 M0 A Q pc u L S σ := by
  unfold sem at hs
  split at hs
  · cases hs
    have h := hok
    unfold okI at h
    simp only [Bool.and_eq_true, decide_eq_true_eq] at h
    obtain ⟨rfl, h⟩ := h
    exact s_iconst F hd (rgb_ok h) k
  · cases hs
    have h := hok
    unfold okI at h
    simp only [Bool.and_eq_true, decide_eq_true_eq] at h
    obtain ⟨rfl, h1, h2⟩ := h
    exact s_bipush F hd h2 (rgb_ok h1) k
  · cases hs
    have h := hok
    unfold okI at h
    simp only [Bool.and_eq_true, decide_eq_true_eq] at h
    obtain ⟨rfl, h1, h2⟩ := h
    exact s_sipush F hd h2 (rgb_ok h1) k
  · cases hs
    have e : len = 1 := of_decide_eq_true hok
    subst e
    exact s_lconst F hd k
  · split at hs
    · cases hs
      have e : len = 1 := of_decide_eq_true hok
      subst e
      exact s_dconst F hd k
    · cases hs
  · obtain ⟨x, h1, h2⟩ := ldn_some hs
    cases h2
    have e : len = 1 := of_decide_eq_true hok
    subst e
    exact s_iload_n F hd h1 k
  · obtain ⟨x, h1, h2⟩ := ldn_some hs
    cases h2
    have e : len = 2 := of_decide_eq_true hok
    subst e
    exact s_iload F hd h1 k
  · obtain ⟨x, h1, h2⟩ := lda_some hs
    cases h2
    have e : len = 1 := of_decide_eq_true hok
    subst e
    exact s_aload_n F hd h1 k
  · obtain ⟨x, h1, h2⟩ := lda_some hs
    cases h2
    have e : len = 2 := of_decide_eq_true hok
    subst e
    exact s_aload F hd h1 k
  · obtain ⟨x, h1, h2⟩ := ldd_some hs
    cases h2
    have e : len = 1 := of_decide_eq_true hok
    subst e
    exact s_dload_n F hd h1 k
  · obtain ⟨x, h1, h2⟩ := ldd_some hs
    cases h2
    have e : len = 2 := of_decide_eq_true hok
    subst e
    exact s_dload F hd h1 k
  · obtain ⟨x, r, L1, rfl, h1, h2⟩ := sti_some hs
    cases h2
    have e : len = 1 := of_decide_eq_true hok
    subst e
    exact s_istore_n F hd h1 k
  · obtain ⟨x, r, L1, rfl, h1, h2⟩ := sti_some hs
    cases h2
    have e : len = 2 := of_decide_eq_true hok
    subst e
    exact s_istore F hd h1 k
  · obtain ⟨v, r, L1, hv, rfl, h1, h2⟩ := sta_some hs
    cases h2
    have e : len = 1 := of_decide_eq_true hok
    subst e
    exact s_astore_n F hv hd h1 k
  · obtain ⟨v, r, L1, hv, rfl, h1, h2⟩ := sta_some hs
    cases h2
    have e : len = 2 := of_decide_eq_true hok
    subst e
    exact s_astore F hv hd h1 k
  · obtain ⟨x, r, L1, rfl, h1, h2⟩ := std_some hs
    cases h2
    have e : len = 1 := of_decide_eq_true hok
    subst e
    exact s_dstore_n F hd h1 k
  · obtain ⟨x, r, L1, rfl, h1, h2⟩ := std_some hs
    cases h2
    have e : len = 2 := of_decide_eq_true hok
    subst e
    exact s_dstore F hd h1 k
  · split at hs
    · rename_i x hx
      obtain ⟨L1, h1, h2⟩ := Option.map_eq_some_iff.mp hs
      cases h2
      have e : len = 3 := of_decide_eq_true hok
      subst e
      exact s_iinc F hd hx h1 k
    · cases hs
  · obtain ⟨y, x, r, rfl, h2⟩ := ar2_some hs
    cases h2
    have e : len = 1 := of_decide_eq_true hok
    subst e
    exact s_iadd F hd k
  · obtain ⟨y, x, r, rfl, h2⟩ := ar2_some hs
    cases h2
    have e : len = 1 := of_decide_eq_true hok
    subst e
    exact s_isub F hd k
  · obtain ⟨y, x, r, rfl, h2⟩ := ar2_some hs
    cases h2
    have e : len = 1 := of_decide_eq_true hok
    subst e
    exact s_imul F hd k
  · split at hs
    · cases hs
      have e : len = 1 := of_decide_eq_true hok
      subst e
      exact s_ineg F hd k
    · cases hs
  · obtain ⟨y, x, r, h0, rfl, h2⟩ := arp_some hs
    cases h2
    have e : len = 1 := of_decide_eq_true hok
    subst e
    exact s_irem F h0 hd k
  · obtain ⟨y, x, r, h0, rfl, h2⟩ := arp_some hs
    cases h2
    have e : len = 1 := of_decide_eq_true hok
    subst e
    exact s_idiv F h0 hd k
  · split at hs
    · split at hs
      · rename_i hy
        have hy' := of_decide_eq_true hy
        subst hy'
        cases hs
        have e : len = 1 := of_decide_eq_true hok
        subst e
        exact s_iand F hd k
      · cases hs
    · cases hs
  · split at hs
    · cases hs
      have e : len = 1 := of_decide_eq_true hok
      subst e
      exact s_i2l F hd k
    · cases hs
  · split at hs
    · cases hs
      have e : len = 1 := of_decide_eq_true hok
      subst e
      exact s_i2c F hd k
    · cases hs
  · split at hs
    · cases hs
      have e : len = 1 := of_decide_eq_true hok
      subst e
      exact s_i2d F hd k
    · cases hs
  · split at hs
    · cases hs
      have e : len = 1 := of_decide_eq_true hok
      subst e
      exact s_lcmp F hd k
    · cases hs
  · split at hs
    · cases hs
      have e : len = 1 := of_decide_eq_true hok
      subst e
      exact s_dcmp F hd k
    · cases hs
  · split at hs
    · split at hs
      · rename_i hc
        cases hs
        have e : len = 1 := of_decide_eq_true hok
        subst e
        exact s_dup F hc hd k
      · cases hs
    · cases hs
  · split at hs
    · split at hs
      · rename_i hc
        cases hs
        have e : len = 1 := of_decide_eq_true hok
        subst e
        exact s_pop F hc hd k
      · cases hs
    · cases hs
  · split at hs
    · split at hs
      · rename_i hc
        cases hs
        rw [Bool.or_eq_false_iff] at hc
        have e : len = 1 := of_decide_eq_true hok
        subst e
        exact s_dup2 F hc.1 hc.2 hd k
      · cases hs
    · cases hs
  · split at hs
    · split at hs
      · rename_i hc
        cases hs
        rw [Bool.or_eq_false_iff] at hc
        have e : len = 1 := of_decide_eq_true hok
        subst e
        exact s_dup_x1 F hc.1 hc.2 hd k
      · cases hs
    · cases hs
  · obtain ⟨kk, fs, r, v, rfl, h1, h2, h3⟩ := gtf_some hs
    cases h3
    have h := hok
    unfold okI at h
    simp only [Bool.and_eq_true, decide_eq_true_eq] at h
    obtain ⟨rfl, h⟩ := h
    obtain ⟨q, hq, hl⟩ := fld_ok hK ho h
    exact s_getf F h1 hq hl hd h2 k
  · obtain ⟨kk, fs, r, h1, h2⟩ := ptf_some hs
    have h := hok
    unfold okI at h
    simp only [Bool.and_eq_true, decide_eq_true_eq] at h
    obtain ⟨rfl, h, hp⟩ := h
    obtain ⟨q, hq, hl⟩ := fld_ok hK ho h
    unfold putOK at hp
    rw [hq] at hp
    rcases h2 with ⟨x, rfl, h3, h4, h5⟩ | ⟨t, t0, rfl, h3, rfl, h5⟩
    · cases h5
      rcases h4 with rfl | ⟨rfl, h4⟩
      · have hp : (!(q.2.1 b).2.2.2 && decide (mty a b = .int)) = true := hp
        simp only [Bool.and_eq_true, decide_eq_true_eq, Bool.not_eq_true'] at hp
        exact s_putf F h1 hq hl hd h3 hp.1 (Or.inl hp.2) k
      · have hp : (!(q.2.1 b).2.2.2 && decide (mty a b = .boolean)) = true := hp
        simp only [Bool.and_eq_true, decide_eq_true_eq, Bool.not_eq_true'] at hp
        exact s_putf F h1 hq hl hd h3 hp.1 (Or.inr ⟨hp.2, h4⟩) k
    · cases h5
      have hp : (((q.2.1 b).2.2.2 && refT (mty a b)) && (decide ((P m).1.1.name = "<init>") && decide ((q.2.1 b).1 = (P m).1.1.cls))) = true := hp
      simp only [Bool.and_eq_true, decide_eq_true_eq] at hp
      exact s_putr F h1 hq hl hd h3 hp.1.1 hp.2.1 hp.2.2 (refT_ok hp.1.2) k
  · cases hs
    have h := hok
    unfold okI at h
    simp only [Bool.and_eq_true, decide_eq_true_eq, Bool.or_eq_true] at h
    obtain ⟨rfl, h1, h2⟩ := h
    rcases h2 with h2 | h2
    · exact s_gets F h1 (by rw [ho]; exact lk_ok hK h2) hd k
    · exact s_getsN F h1 (by rw [ho]; exact lk_ok hK h2) hd k
  · have h := hok
    unfold okI at h
    rw [Bool.and_eq_true, Bool.and_eq_true, decide_eq_true_eq] at h
    obtain ⟨rfl, -, h⟩ := h
    split at hs
    · rename_i hl0
      obtain ⟨y, x, r, rfl, h2⟩ := ar2_some hs
      cases h2
      have hl9 := of_decide_eq_true hl0
      exact s_max F hu (by simp at hl9; omega) (lib_ok hK ho h) hd k
    · rename_i hl0
      obtain ⟨y, x, r, rfl, h2⟩ := ar2_some hs
      cases h2
      have hl9 := of_decide_eq_true hl0
      exact s_min F hu (by simp at hl9; omega) (lib_ok hK ho h) hd k
    · rename_i hl0
      split at hs
      · cases hs
        have hl9 := of_decide_eq_true hl0
        exact s_abs F hu (by simp at hl9; omega) (lib_ok hK ho h) hd k
      · cases hs
    · cases hs
  · have h := hok
    unfold okI at h
    simp only [Bool.and_eq_true, decide_eq_true_eq] at h
    obtain ⟨rfl, h⟩ := h
    split at hs
    · rename_i hl0
      cases hs
      have hl9 := of_decide_eq_true hl0
      exact s_objI F (by simp at hl9; omega) (lib_ok hK ho h) hd k
    · cases hs
  · cases hs
end SO
end
section
/-! THE CHECK OF A BLOCK'S END, OF A BLOCK, OF A METHOD -/
def pcB (P : mP) (m b : Nat) : Nat := match (P m).2[b]? with
  | some q => q.1
  | none => 0
def exH (k : Nat) : Option Nat := match k with
  | 13 => some 0
  | 15 => some 1
  | 21 => some 2
  | 40 => some 4
  | 67 => some 3
  | _ => none
def fndH (pc e : Nat) : List (Nat × Nat × Nat × Nat) → Option Nat
  | [] => none
  | q :: r => match decide (q.1 ≤ pc) && decide (pc < q.2.1) with
    | false => fndH pc e r
    | true => match exH q.2.2.2 with
      | none => none
      | some e' => match decide (e' = e) with
        | true => some q.2.2.1
        | false => fndH pc e r
def hOk (P : mP) (o m pc : Nat) (hs : List Nat) : Bool := match (P m).1.2.2.2.2.2.2 with
  | [] => hs.all fun h => decide (h ≤ 1)
  | q :: hh => decide (o = 11) && (decide (hs.length ≤ 5) && (List.range 5).all fun e => match hs.getD e 1 with
    | 0 => false
    | 1 => true
    | t + 2 => decide (fndH pc e (q :: hh) = some (pcB P m t)))
/-- of a method: its sort (0 of a thing, 1 static, 2 a constructor), its class's number, places of its words -/
abbrev mZ : Type := Nat → Nat × Nat × List Nat
def okM (P : mP) (Z : mZ) (a : Nat) : Bool :=
  (plainName (P a).1.1.cls && (decide ((P a).1.1.cls ≠ "java/lang/invoke/MethodHandle") && decide ((P a).1.1.cls ≠ "java/lang/invoke/VarHandle"))) &&
  ((decide (lw_tbl[(Z a).2.2.getD 0 0]? = some (cW P a)) && (decide (lw_tbl[(Z a).2.2.getD 1 0]? = some (.initialized (P a).1.1.cls)) && decide ((P a).1.2.2.1 ≤ 20))) &&
  (decide ((parseMethodDescriptor (P a).1.1.desc).map (fun d => d.parameters.length) = some ((P a).1.2.2.2.2.2.1 - (match (Z a).1 with
    | 1 => 0
    | _ => 1))) &&
   (match (Z a).1 with
    | 1 => decide (lw_tbl[(Z a).2.2.getD 2 0]? = some (.static (P a).1.1))
    | k => decide (lw_tbl[(Z a).2.2.getD 2 0]? = some (.instanceMethod (P a).1.1)) && (decide (1 ≤ (P a).1.2.2.2.2.2.1) && (match k with
      | 2 => decide ((P a).1.1.name = "<init>")
      | _ => decide ((P a).1.1.name ≠ "<init>") && decide (lw_tbl[(Z a).2.2.getD 3 0]? = some (.selects (P a).1.1.cls (P a).1.1 (P a).1.1)))))))
def ok3 (P : mP) (m pc a b : Nat) (j : Instr) (len : Nat) : Bool := match j with
  | .ifCond _ off => decide (len = 3) && (decide ((pc : Int) + off = (pcB P m a : Int)) && decide (pc + 3 = pcB P m b))
  | .if_icmp _ off => decide (len = 3) && (decide ((pc : Int) + off = (pcB P m a : Int)) && decide (pc + 3 = pcB P m b))
  | _ => false
def ok4 (P : mP) (m pc a b : Nat) (ts : List Nat) (j : Instr) : Bool := match j with
  | .tableswitch dflt lo hi offs => (decide (lo = (b : Int)) && (decide (ts.length = offs.size) && decide (hi = lo + ts.length - 1))) && (decide ((pc : Int) + dflt = (pcB P m a : Int)) && (List.range ts.length).all fun i => match offs[i]? with
    | some off => decide ((pc : Int) + off = (pcB P m (ts.getD i a) : Int))
    | none => false)
  | .lookupswitch dflt ps => ((ps.toList.zip (ps.toList.drop 1)).all (fun (a, next) => a.1 < next.1) && decide (ps.toList.map (fun q => q.1) = (List.range ts.length).map fun (i : Nat) => (b : Int) + (i : Int))) && (decide ((pc : Int) + dflt = (pcB P m a : Int)) && decide (ps.toList.map (fun q => (pc : Int) + q.2) = ts.map fun t => (pcB P m t : Int)))
  | _ => false
def ok5 (P : mP) (m a : Nat) (j : Instr) (len : Nat) : Bool := decide (len = 1) && (match a with
  | 0 => decide (j = .return_) && decide ((P m).1.2.2.2.1 = none)
  | 1 => decide (j = .ireturn) && decide ((P m).1.2.2.2.1 = some .int)
  | 2 => decide (j = .ireturn) && decide ((P m).1.2.2.2.1 = some .boolean)
  | _ => decide (j = .dreturn) && decide ((P m).1.2.2.2.1 = some .double))
def ok6 (P : mP) (K : mK) (Z : mZ) (N m pc a b pos : Nat) (fl : List Nat) (j : Instr) (len : Nat) : Bool := match fl with
  | n :: cc :: cm :: rc :: hs => ((decide (a < N) && decide (len = 3)) && ((decide (n = (P a).1.2.2.2.2.2.1) && decide (cc = (P a).1.2.2.2.2.1)) && (decide (cm = (P m).1.2.2.2.2.1) && (decide (pcB P m b = pc + 3) && hOk P (Z m).2.1 m pc hs)))) && (match j with
    | .invokevirtual idx => match rc with
      | 0 => false
      | ci + 1 => (decide (ci = (Z a).2.1) && (decide (ci < 11) && (decide ((Z a).1 = 0) && decide ((P a).1.2.2.2.2.2.2 = [])))) && lkIs K pos 1 (Z m).2.1 idx a 0
    | .invokestatic idx => decide ((Z a).1 = 1) && (lkIs K pos 1 (Z m).2.1 idx a 0 || (decide ((P a).1.2.2.2.2.2.2 = []) && lkIs K pos 2 (Z m).2.1 idx a 0))
    | .invokespecial idx => match rc with
      | 0 => false
      | _ + 1 => (decide ((Z a).1 = 2) && (decide ((P a).1.2.2.2.2.2.2 = []) && decide ((P a).1.2.2.2.1 = none))) && (lkIs K pos 1 (Z m).2.1 idx a 0 || lkIs K pos 2 (Z m).2.1 idx a 0)
    | _ => false)
  | _ => false
def ok7 (P : mP) (K : mK) (o m pc a pos : Nat) (fl : List Nat) (j : Instr) (len : Nat) : Bool := match fl, j with
  | cm :: p2 :: _, .new ik => (decide (cm = (P m).1.2.2.2.2.1) && (decide (len = 3) && (decide (a < 5) && decide (o = 9)))) && (decide ((P m).1.2.2.2.2.2.2 = []) && (lkIs K pos 7 9 ik a 0 && (match decode (P m).1.2.1 (pc + 4) with
    | .ok (.ldc k, l2) => decide (l2 = 2) && (lkIs K p2 8 9 k 0 0 && (decide (decode (P m).1.2.1 (pc + 3) = .ok (.dup, 1)) && (decide (decode (P m).1.2.1 (pc + 6) = .ok (.invokespecial (exI a), 3)) && decide (decode (P m).1.2.1 (pc + 9) = .ok (.athrow, 1)))))
    | .ok (.ldc_w k, l2) => decide (l2 = 3) && (lkIs K p2 8 9 k 0 0 && (decide (decode (P m).1.2.1 (pc + 3) = .ok (.dup, 1)) && (decide (decode (P m).1.2.1 (pc + 7) = .ok (.invokespecial (exI a), 3)) && decide (decode (P m).1.2.1 (pc + 10) = .ok (.athrow, 1)))))
    | _ => false)))
  | _, _ => false
def ok8 (P : mP) (sc : Bool) (m pc a b : Nat) (len : Nat) : Bool := decide (len = 1) && (decide (pcB P m a = pc + 1) && (decide (b = 0) || sc))
def ok9 (P : mP) (K : mK) (o m pc a pos : Nat) (j : Instr) (len : Nat) : Bool := decide (pcB P m a = pc + len) && (match j with
  | .invokestatic idx => decide (len = 3) && lkIs K pos 5 o idx 5 0
  | _ => decide (len = 1))
def nulB (v : Value) (z : Nat) : Bool := match v, z with
  | .int x, 0 => decide (x = 0)
  | .null, _ + 1 => true
  | _, _ => false
def ok10 (P : mP) (K : mK) (o m pc a b pos : Nat) (fl : List Nat) (j : Instr) (len : Nat) : Bool := match fl with
  | cm :: q :: fs => decide (cm = (P m).1.2.2.2.2.1) && (match j with
    | .new idx => (decide (len = 3) && decide (pcB P m a = pc + 3)) && (match mcl[b]? with
      | some c => (decide (fs.length = c.2.2) && decide (c.2.2 ≤ 2100)) && (lkIs K pos 6 o idx b 0 && (List.range fs.length).all fun j => nulB (defaultValue (mty b j)) (fs.getD j 0))
      | none => false)
    | .newarray t => (decide (len = 2) && decide (pcB P m a = pc + 2)) && (decide (atK t = q) && decide (q ≠ 0))
    | .invokevirtual idx => (decide (len = 3) && decide (pcB P m a = pc + 6)) && (lkIs K pos 5 o idx 6 0 && (match decode (P m).1.2.1 (pc + 3) with
      | .ok (.checkcast k, l2) => decide (l2 = 3) && lkIs K q 9 o k 0 0
      | _ => false))
    | _ => false)
  | _ => false
def okT (P : mP) (K : mK) (Z : mZ) (N : Nat) (sc : Bool) (m pc : Nat) (i : mI) : Bool := match decide (i.1 = 1) with
  | true => decide (pcB P m i.2.2.1 = pc)
  | false => match decode (P m).1.2.1 pc with
    | .error _ => false
    | .ok (j, len) => decide (i.2.1 = j) && (match i.1 with
      | 2 => match j with
        | .goto off => decide (len = 3) && decide ((pc : Int) + off = (pcB P m i.2.2.1 : Int))
        | _ => false
      | 3 => ok3 P m pc i.2.2.1 i.2.2.2.1 j len
      | 4 => ok4 P m pc i.2.2.1 i.2.2.2.1 i.2.2.2.2.2 j
      | 5 => ok5 P m i.2.2.1 j len
      | 6 => ok6 P K Z N m pc i.2.2.1 i.2.2.2.1 i.2.2.2.2.1 i.2.2.2.2.2 j len
      | 7 => ok7 P K (Z m).2.1 m pc i.2.2.1 i.2.2.2.2.1 i.2.2.2.2.2 j len
      | 8 => ok8 P sc m pc i.2.2.1 i.2.2.2.1 len
      | 9 => ok9 P K (Z m).2.1 m pc i.2.2.1 i.2.2.2.2.1 j len
      | 10 => ok10 P K (Z m).2.1 m pc i.2.2.1 i.2.2.2.1 i.2.2.2.2.1 i.2.2.2.2.2 j len
      | _ => false)
def chkL (P : mP) (K : mK) (Z : mZ) (N : Nat) (sc : Bool) (m : Nat) : Nat → List mI → Bool
  | _, [] => true
  | pc, i :: r => match i.1 with
    | 0 => match decode (P m).1.2.1 pc with
      | .error _ => false
      | .ok (j, len) => (decide (i.2.1 = j) && okI P K (Z m).2.1 m j i.2.2.1 i.2.2.2.1 i.2.2.2.2.1 (i.2.2.2.2.2.headD 0) len) && chkL P K Z N sc m (pc + len) r
    | _ => okT P K Z N sc m pc i
def chkM (P : mP) (K : mK) (Z : mZ) (N : Nat) (sc : Bool) (m : Nat) : Bool := ((decide (pcB P m 0 = 0) && decide ((P m).1.2.2.2.2.2.1 ≤ (P m).1.2.2.1)) && decide ((P m).1.1.cls = cN (Z m).2.1)) && (P m).2.all fun q => chkL P K Z N sc m q.1 q.2.2
theorem okM_ok {P : mP} {Z : mZ} {a : Nat} (h : okM P Z a = true) : mOk P a (decide ((Z a).1 = 1)) ∧ ((Z a).1 = 2 → (P a).1.1.name = "<init>") ∧ ((Z a).1 = 0 → (P a).1.1.name ≠ "<init>") := by
  unfold okM at h
  simp only [Bool.and_eq_true, decide_eq_true_eq] at h
  obtain ⟨⟨h1, h2, h3⟩, ⟨h4, h5, h6⟩, h7, h8⟩ := h
  have hw : goodWord (cW P a) = true := by
    unfold cW
    split <;> rfl
  by_cases hz : (Z a).1 = 1
  · rw [hz] at h7 h8
    refine ⟨⟨h1, ⟨h2, h3⟩, gd_mem h4 hw, gd_mem h5 rfl, h6, ?_, fun _ => gd_mem (of_decide_eq_true h8) rfl, fun q => ?_⟩, fun q => ?_, fun q => ?_⟩
    · rw [h7, hz]; rfl
    · rw [hz] at q; cases q
    · rw [hz] at q; cases q
    · rw [hz] at q; cases q
  · have h7' : (parseMethodDescriptor (P a).1.1.desc).map (fun d => d.parameters.length) = some ((P a).1.2.2.2.2.2.1 - 1) := by
      rw [h7]
      split
      · rename_i q; exact absurd q hz
      · rfl
    split at h8
    · rename_i q; exact absurd q hz
    · simp only [Bool.and_eq_true, decide_eq_true_eq] at h8
      obtain ⟨g1, g2, g3⟩ := h8
      refine ⟨⟨h1, ⟨h2, h3⟩, gd_mem h4 hw, gd_mem h5 rfl, h6, ?_, fun q => absurd (of_decide_eq_true q) hz, fun _ => ⟨gd_mem g1 rfl, g2, ?_⟩⟩, fun q => ?_, fun q => ?_⟩
      · rw [h7', if_neg (by rw [decide_eq_true_eq]; exact hz)]
      · split at g3
        · exact Or.inl (of_decide_eq_true g3)
        · rw [Bool.and_eq_true, decide_eq_true_eq, decide_eq_true_eq] at g3
          exact Or.inr (gd_mem g3.2 rfl)
      · rw [q] at g3
        exact of_decide_eq_true g3
      · rw [q] at g3
        have g3 : (decide ((P a).1.1.name ≠ "<init>") && decide (lw_tbl[(Z a).2.2.getD 3 0]? = some (.selects (P a).1.1.cls (P a).1.1 (P a).1.1))) = true := g3
        rw [Bool.and_eq_true, decide_eq_true_eq] at g3
        exact g3.1
theorem mcl_cN : ∀ (c : Nat) (q : vw_C), mcl[c]? = some q → q.1 = cN c := by
  intro c q hq
  match c, hq with
  | 0, hq => cases hq; rfl
  | 1, hq => cases hq; rfl
  | 2, hq => cases hq; rfl
  | 3, hq => cases hq; rfl
  | 4, hq => cases hq; rfl
  | 5, hq => cases hq; rfl
  | 6, hq => cases hq; rfl
  | 7, hq => cases hq; rfl
  | 8, hq => cases hq; rfl
  | 9, hq => cases hq; rfl
  | 10, hq => cases hq; rfl
  | k + 11, hq => simp [mcl] at hq
theorem cls_at : ∀ (c : Nat) (q : vw_C), mcl[c]? = some q → ∃ i1 i2 : Nat, lw_tbl[i1]? = some (Cond.instantiable q.1 q.2.2) ∧ lw_tbl[i2]? = some (Cond.initialized q.1) := by
  have key : ∀ x y : Cond, (decide (x ∈ lw_tbl) && decide (y ∈ lw_tbl)) = true → ∃ i1 i2 : Nat, lw_tbl[i1]? = some x ∧ lw_tbl[i2]? = some y := by
    intro x y h
    rw [Bool.and_eq_true, decide_eq_true_eq, decide_eq_true_eq] at h
    obtain ⟨i, hi⟩ := List.mem_iff_getElem?.mp h.1
    obtain ⟨j, hj⟩ := List.mem_iff_getElem?.mp h.2
    exact ⟨i, j, hi, hj⟩
  intro c q hq
  match c, hq with
  | 0, hq => cases hq; exact key _ _ (by decide +kernel)
  | 1, hq => cases hq; exact key _ _ (by decide +kernel)
  | 2, hq => cases hq; exact key _ _ (by decide +kernel)
  | 3, hq => cases hq; exact key _ _ (by decide +kernel)
  | 4, hq => cases hq; exact key _ _ (by decide +kernel)
  | 5, hq => cases hq; exact key _ _ (by decide +kernel)
  | 6, hq => cases hq; exact key _ _ (by decide +kernel)
  | 7, hq => cases hq; exact key _ _ (by decide +kernel)
  | 8, hq => cases hq; exact key _ _ (by decide +kernel)
  | 9, hq => cases hq; exact key _ _ (by decide +kernel)
  | 10, hq => cases hq; exact key _ _ (by decide +kernel)
  | k + 11, hq => simp [mcl] at hq
end
section
/-! THE CHECKED MACHINE IS SOUND -/
theorem no_some {α : Type} {r : α} (h : (none : Option α) = some r) : False := by cases h
theorem getD_some {α : Type} {l : List α} {i : Nat} {x y : α} (h : l[i]? = some x) : l.getD i y = x := by
  rw [List.getD_eq_getElem?_getD, h]; rfl
theorem ite2 {p : Prop} [Decidable p] {A B : mR} {q : mO × mS} (h : (if p then A else B) = some q) : (p → A = some q) ∧ (¬ p → B = some q) :=
  ⟨fun z => by rwa [if_pos z] at h, fun z => by rwa [if_neg z] at h⟩
theorem cmp_ok {J : mJ} {u a b : Nat} {L r : List mV} {σ : mS} {c : ClassFile.Cond} {x y : Int} {q : mO × mS} (h : goCmp J u a b L r σ c x y = some q) : (cmpI c x y → J u a L r σ = some q) ∧ (¬ cmpI c x y → J u b L r σ = some q) := by
  cases c with
  | eq => exact ⟨(ite2 (p := x = y) h).1, (ite2 (p := x = y) h).2⟩
  | ne => exact ⟨fun z => (ite2 (p := x = y) h).2 z, fun z => (ite2 (p := x = y) h).1 (Decidable.not_not.mp z)⟩
  | lt => exact ⟨(ite2 (p := x < y) h).1, (ite2 (p := x < y) h).2⟩
  | ge => exact ⟨fun z => (ite2 (p := x < y) h).2 (Int.not_lt.mpr z), fun z => (ite2 (p := x < y) h).1 (Int.not_le.mp z)⟩
  | gt => exact ⟨(ite2 (p := y < x) h).1, (ite2 (p := y < x) h).2⟩
  | le => exact ⟨fun z => (ite2 (p := y < x) h).2 (Int.not_lt.mpr z), fun z => (ite2 (p := y < x) h).1 (Int.not_le.mp z)⟩
theorem look_ok {P : mP} {m pc a : Nat} {dflt x : Int} (hd : (pc : Int) + dflt = (pcB P m a : Int)) : ∀ (ts : List Nat) (l : List (Int × Int)) (b : Nat), l.map (fun q => q.1) = (List.range ts.length).map (fun (i : Nat) => (b : Int) + (i : Int)) → l.map (fun q => (pc : Int) + q.2) = ts.map (fun t => (pcB P m t : Int)) →
    (pc : Int) + Op.lookupswitch.offset l dflt x = (pcB P m (swT b ts a x) : Int)
  | [], l, b, h1, h2 => by
    cases l with
    | cons _ _ => simp at h2
    | nil =>
      rw [Op.lookupswitch.offset_nil, hd]
      unfold swT
      split <;> rfl
  | t :: ts, l, b, h1, h2 => by
    cases l with
    | nil => simp at h2
    | cons q l =>
      obtain ⟨k, o⟩ := q
      rw [List.length_cons, List.range_succ_eq_map, List.map_cons, List.map_cons, List.map_map] at h1
      obtain ⟨e1, e2⟩ := List.cons.inj h1
      rw [List.map_cons, List.map_cons] at h2
      obtain ⟨f1, f2⟩ := List.cons.inj h2
      have e1 : k = (b : Int) := by simpa using e1
      have ih := look_ok (x := x) hd ts l (b + 1) (by
        rw [e2]
        apply List.map_congr_left
        intro i _
        show (b : Int) + ((i + 1 : Nat) : Int) = ((b + 1 : Nat) : Int) + (i : Int)
        omega) f2
      rw [Op.lookupswitch.offset_cons]
      by_cases hx : k = x
      · rw [if_pos hx, ← hx, e1]
        unfold swT
        rw [if_neg (by omega), show ((b : Int) - (b : Int)).toNat = 0 by omega]
        exact f1
      · rw [if_neg hx, ih]
        have : swT ((b + 1 : Nat) : Int) ts a x = swT (b : Int) (t :: ts) a x := by
          unfold swT
          by_cases h3 : x < (b : Int)
          · rw [if_pos h3, if_pos (by omega)]
          · rw [if_neg h3, if_neg (by omega), show (x - (b : Int)).toNat = (x - ((b + 1 : Nat) : Int)).toNat + 1 by omega]
            rfl
        rw [this]
theorem exH_ok {k e : Nat} (h : exH k = some e) : e < 5 ∧ k ≠ 0 ∧ Cond.classLink RL k (exN e) ∈ lw_gd := by
  unfold exH at h
  split at h
  · cases h; exact ⟨by decide, by decide, gd_all (ws := [Cond.classLink RL 13 (exN 0)]) (by decide +kernel) _ (List.mem_singleton.mpr rfl)⟩
  · cases h; exact ⟨by decide, by decide, gd_all (ws := [Cond.classLink RL 15 (exN 1)]) (by decide +kernel) _ (List.mem_singleton.mpr rfl)⟩
  · cases h; exact ⟨by decide, by decide, gd_all (ws := [Cond.classLink RL 21 (exN 2)]) (by decide +kernel) _ (List.mem_singleton.mpr rfl)⟩
  · cases h; exact ⟨by decide, by decide, gd_all (ws := [Cond.classLink RL 40 (exN 4)]) (by decide +kernel) _ (List.mem_singleton.mpr rfl)⟩
  · cases h; exact ⟨by decide, by decide, gd_all (ws := [Cond.classLink RL 67 (exN 3)]) (by decide +kernel) _ (List.mem_singleton.mpr rfl)⟩
  · cases h
theorem ex_self {e : Nat} (h : e < 5) : Cond.castable (exN e) (exN e) ∈ lw_ng := by
  rcases (show e = 0 ∨ e = 1 ∨ e = 2 ∨ e = 3 ∨ e = 4 by omega) with rfl | rfl | rfl | rfl | rfl <;> exact List.mem_filter.mpr ⟨by decide +kernel, rfl⟩
abbrev enT (q : Nat × Nat × Nat × Nat) : ExceptionTableEntry := ⟨q.1, q.2.1, q.2.2.1, q.2.2.2⟩
theorem fndH_ok {pc e hp : Nat} : ∀ l : List (Nat × Nat × Nat × Nat), fndH pc e l = some hp → ∃ (pre : List (Nat × Nat × Nat × Nat)) (x : Nat × Nat × Nat × Nat) (suf : List (Nat × Nat × Nat × Nat)), l = pre ++ x :: suf ∧ (∀ z ∈ pre, covers (enT z) pc = false ∨ ∃ e', exH z.2.2.2 = some e' ∧ e' ≠ e) ∧ covers (enT x) pc = true ∧ exH x.2.2.2 = some e ∧ x.2.2.1 = hp
  | [], h => by cases h
  | q :: r, h => by
    have h' := h
    unfold fndH at h'
    split at h'
    · rename_i hc
      obtain ⟨pre, x, suf, h1, h2, h3⟩ := fndH_ok r h'
      refine ⟨q :: pre, x, suf, by rw [h1]; rfl, fun z hz => ?_, h3⟩
      rcases List.mem_cons.mp hz with rfl | hz
      · exact Or.inl hc
      · exact h2 z hz
    · rename_i hc
      split at h'
      · cases h'
      · rename_i e' he
        split at h'
        · rename_i hee
          cases h'
          have := of_decide_eq_true hee
          subst this
          exact ⟨[], q, r, rfl, fun z hz => by simp at hz, hc, he, rfl⟩
        · rename_i hee
          obtain ⟨pre, x, suf, h1, h2, h3⟩ := fndH_ok r h'
          refine ⟨q :: pre, x, suf, by rw [h1]; rfl, fun z hz => ?_, h3⟩
          rcases List.mem_cons.mp hz with rfl | hz
          · exact Or.inr ⟨e', he, of_decide_eq_false hee⟩
          · exact h2 z hz
section TE
variable {P : mP} {m d : Nat} {sc : Bool} {p : Program} {l : Launch} {e : Env} {R : Room} {s : State} {mid : MethodId} {args : Array Value} {below : List Frame} {meth : Method} {c : Code} {D : va_G} {aC : FieldType → ClassId} {ad0 : Nat → Nat} {n0 : Nat} {M0 : mM} {A : Nat → Prop} {Q : State → Prop}
variable {pc u : Nat} {L S : List mV} {σ : mS}
variable {J : mJ} {C : mC} {K : mK} {Z : mZ} {N : Nat} {o : mO} {σ' : mS}
theorem catch_ok (F : Fx P m d sc p l e R s mid args below meth c D aC ad0 n0 M0 A) {ex hp : Nat} {h0 : List (Nat × Nat × Nat × Nat)} (hcl : (P m).1.1.cls = RL) (ht : (P m).1.2.2.2.2.2.2 = h0) (hf : fndH pc ex h0 = some hp) (k : WG P m p l e R s mid args below meth c D aC ad0 n0 M0 A Q hp u L [vj] σ) : XG P m p l e R s mid args below meth c D aC ad0 n0 M0 A Q pc u L S σ ex := by
  intro ad H locs ls st q ce g0 g1 hW g2 hS hL hT hce hcv hcl9
  obtain ⟨pre, x, suf, h1, h2, h3, h4, h5⟩ := fndH_ok h0 hf
  obtain ⟨e1, e2, e3⟩ := exH_ok h4
  have hown := F.own
  rw [hcl] at hown
  subst h5
  refine vx_catch (own := RL) (name := exN ex) (E := exN ex) (ce := ce) hown (pre.map enT) (enT x) (suf.map enT) ?_ (fun z hz => ?_) h3 e2 (F.ts _ e3) (va_Nw.use rfl (F.kn.2.1 _ (ex_self e1))) hce hcv hcl9 (k ad H locs ls _ g0 g1 hW g2 hS hL ⟨⟨Or.inr ⟨rfl, q, rfl⟩, trivial⟩, trivial⟩)
  · rw [F.tab, ht, h1]
    show List.map _ (pre ++ x :: suf) = _
    rw [List.map_append, List.map_cons]
  · obtain ⟨y, hy, rfl⟩ := List.mem_map.mp hz
    rcases h2 y hy with h | ⟨e', he, hne⟩
    · exact Or.inl h
    · obtain ⟨f1, f2, f3⟩ := exH_ok he
      exact Or.inr ⟨f2, exN e', F.ts _ f3, F.kn.2.2.2 ex e' e1 f1 (Ne.symm hne)⟩
theorem t3 (F : Fx P m d sc p l e R s mid args below meth c D aC ad0 n0 M0 A) {a b pos len : Nat} {fl : List Nat} {j : Instr} (hu : u ≤ (P m).1.2.2.2.2.1) (hd : decode (P m).1.2.1 pc = .ok (j, len)) (hok : ok3 P m pc a b j len = true) (hJ : ∀ u b L S σ, J u b L S σ = some (o, σ') → u ≤ (P m).1.2.2.2.2.1 → WG P m p l e R s mid args below meth c D aC ad0 n0 M0 A Q (pcB P m b) u L S σ) (h : goT J C u L S σ (3, j, a, b, pos, fl) = some (o, σ')) : WG P m p l e R s mid args below meth c D aC ad0 n0 M0 A Q pc u L S σ := by
  unfold ok3 at hok
  split at hok
  · simp only [Bool.and_eq_true, decide_eq_true_eq] at hok
    obtain ⟨rfl, h1, h2⟩ := hok
    rcases S with _ | ⟨x | v, r⟩
    · exact (no_some h).elim
    · obtain ⟨k1, k2⟩ := cmp_ok (J := J) h
      exact s_if F hd h1 (fun q => hJ _ _ _ _ _ (k1 q) hu) (fun q => by rw [h2]; exact hJ _ _ _ _ _ (k2 q) hu)
    · exact (no_some h).elim
  · simp only [Bool.and_eq_true, decide_eq_true_eq] at hok
    obtain ⟨rfl, h1, h2⟩ := hok
    rcases S with _ | ⟨x | v, r⟩
    · exact (no_some h).elim
    · rcases r with _ | ⟨y | v, r⟩
      · exact (no_some h).elim
      · obtain ⟨k1, k2⟩ := cmp_ok (J := J) h
        exact s_icmp F hd h1 (fun q => hJ _ _ _ _ _ (k1 q) hu) (fun q => by rw [h2]; exact hJ _ _ _ _ _ (k2 q) hu)
      · exact (no_some h).elim
    · exact (no_some h).elim
  · cases hok
theorem s_look (F : Fx P m d sc p l e R s mid args below meth c D aC ad0 n0 M0 A) {dflt : Int} {ps : Array (Int × Int)} {len a b : Nat} {ts : List Nat} {x : Int} {r : List mV} (hd : decode (P m).1.2.1 pc = .ok (.lookupswitch dflt ps, len)) (h0 : (ps.toList.zip (ps.toList.drop 1)).all (fun (a, next) => a.1 < next.1) = true) (h1 : ps.toList.map (fun q => q.1) = (List.range ts.length).map (fun (i : Nat) => (b : Int) + (i : Int))) (h2 : (pc : Int) + dflt = (pcB P m a : Int)) (h3 : ps.toList.map (fun q => (pc : Int) + q.2) = ts.map (fun t => (pcB P m t : Int)))
    (k : WG P m p l e R s mid args below meth c D aC ad0 n0 M0 A Q (pcB P m (swT b ts a x)) u L r σ) : WG P m p l e R s mid args below meth c D aC ad0 n0 M0 A Q pc u L (vi x :: r) σ := by
  intro ad H locs ls st g0 g1 hW g2 hS hL hT
  obtain ⟨_, st', rfl, f1, f2, f3⟩ := sR_cons hT
  cases sv_i f1
  refine lv_lookup F.exec F.code hd h0 rfl ?_ (k ad H locs ls _ g0 g1 hW g2 hS hL f3)
  rw [ofI_toInt f2]
  exact look_ok h2 ts ps.toList b h1 h3
theorem t4 (F : Fx P m d sc p l e R s mid args below meth c D aC ad0 n0 M0 A) {a b pos len : Nat} {fl : List Nat} {j : Instr} (hu : u ≤ (P m).1.2.2.2.2.1) (hd : decode (P m).1.2.1 pc = .ok (j, len)) (hok : ok4 P m pc a b fl j = true) (hJ : ∀ u b L S σ, J u b L S σ = some (o, σ') → u ≤ (P m).1.2.2.2.2.1 → WG P m p l e R s mid args below meth c D aC ad0 n0 M0 A Q (pcB P m b) u L S σ) (h : goT J C u L S σ (4, j, a, b, pos, fl) = some (o, σ')) : WG P m p l e R s mid args below meth c D aC ad0 n0 M0 A Q pc u L S σ := by
  rcases S with _ | ⟨x | v, r⟩
  · exact (no_some h).elim
  · replace h : J u (swT (b : Int) fl a x) L r σ = some (o, σ') := h
    unfold ok4 at hok
    split at hok
    · simp only [Bool.and_eq_true, decide_eq_true_eq] at hok
      obtain ⟨⟨rfl, h1, h2⟩, h3, h4⟩ := hok
      refine s_table F (pcs := pcB P m) hd h1 h2 h3 (fun i hi => ?_) (hJ _ _ _ _ _ h hu)
      have h5 := List.all_eq_true.mp h4 i (List.mem_range.mpr hi)
      split at h5
      · rename_i off ho
        exact ⟨off, ho, of_decide_eq_true h5⟩
      · cases h5
    · simp only [Bool.and_eq_true, decide_eq_true_eq] at hok
      obtain ⟨⟨h0, h1⟩, h2, h3⟩ := hok
      exact s_look F hd h0 h1 h2 h3 (hJ _ _ _ _ _ h hu)
    · cases hok
  · exact (no_some h).elim
theorem t5 (F : Fx P m d sc p l e R s mid args below meth c D aC ad0 n0 M0 A) {a b pos len : Nat} {fl : List Nat} {j : Instr} (hu : u ≤ (P m).1.2.2.2.2.1) (hd : decode (P m).1.2.1 pc = .ok (j, len)) (hok : ok5 P m a j len = true) (hF : Fin P m p l e R s mid args below meth c D aC ad0 n0 M0 A Q o σ') (h : goT J C u L S σ (5, j, a, b, pos, fl) = some (o, σ')) : WG P m p l e R s mid args below meth c D aC ad0 n0 M0 A Q pc u L S σ := by
  replace h : goRet S σ a = some (o, σ') := h
  unfold ok5 at hok
  rw [Bool.and_eq_true, decide_eq_true_eq] at hok
  obtain ⟨rfl, hok⟩ := hok
  unfold goRet at h
  split at h
  · simp only [Bool.and_eq_true, decide_eq_true_eq] at hok
    obtain ⟨rfl, h1⟩ := hok
    cases h
    exact hF.1 _ rfl pc u L _ hu (Or.inl ⟨hd, h1, rfl, rfl⟩)
  · rename_i x
    simp only [Bool.and_eq_true, decide_eq_true_eq] at hok
    obtain ⟨rfl, h1⟩ := hok
    cases h
    exact hF.1 _ rfl pc u L _ hu (Or.inr (Or.inl ⟨_, hd, Or.inl h1, rfl, rfl⟩))
  · rename_i x
    simp only [Bool.and_eq_true, decide_eq_true_eq] at hok
    obtain ⟨rfl, h1⟩ := hok
    split at h
    · rename_i hb
      cases h
      exact hF.1 _ rfl pc u L _ hu (Or.inr (Or.inl ⟨_, hd, Or.inr ⟨h1, hb⟩, rfl, rfl⟩))
    · cases h
  · rename_i x
    simp only [Bool.and_eq_true, decide_eq_true_eq] at hok
    obtain ⟨rfl, h1⟩ := hok
    cases h
    exact hF.1 _ rfl pc u L _ hu (Or.inr (Or.inr ⟨_, hd, h1, rfl, rfl⟩))
  · cases h
theorem t7 (F : Fx P m d sc p l e R s mid args below meth c D aC ad0 n0 M0 A) {a b pos len : Nat} {fl : List Nat} {j : Instr} (hd : decode (P m).1.2.1 pc = .ok (j, len)) (hK : ∀ i, lkP P (K i)) (ho : (P m).1.1.cls = cN (Z m).2.1) (hok : ok7 P K (Z m).2.1 m pc a pos fl j len = true) (hF : Fin P m p l e R s mid args below meth c D aC ad0 n0 M0 A Q o σ') (h : goT J C u L S σ (7, j, a, b, pos, fl) = some (o, σ')) : WG P m p l e R s mid args below meth c D aC ad0 n0 M0 A Q pc u L S σ := by
  unfold ok7 at hok
  split at hok
  · rename_i cm p2 r ik
    simp only [Bool.and_eq_true, decide_eq_true_eq] at hok
    obtain ⟨⟨rfl, rfl, h1, h2⟩, h3, h4, h5⟩ := hok
    have h2 : (P m).1.1.cls = RX9 := by rw [ho, h2]; rfl
    replace h : (match decide (u + 1 ≤ (P m).1.2.2.2.2.1) && decide (S.length ≤ 20) with
        | true => some (.inr a, σ)
        | false => none) = some (o, σ') := h
    have key : thrAt P m pc a → WG P m p l e R s mid args below meth c D aC ad0 n0 M0 A Q pc u L S σ := by
      intro ht
      split at h
      · rename_i hc
        rw [Bool.and_eq_true, decide_eq_true_eq, decide_eq_true_eq] at hc
        cases h
        exact hF.2.1 a rfl pc u L S hc.1 hc.2 ht
      · cases h
    split at h5
    · rename_i k l2 hd4
      simp only [Bool.and_eq_true, decide_eq_true_eq] at h5
      obtain ⟨rfl, h6, h7, h8, h9⟩ := h5
      obtain ⟨tx, ht⟩ := lk_ok hK h6
      exact key ⟨h2, h3, h1, ik, k, tx, gd_mem (lk_ok hK h4) rfl, List.mem_of_getElem? ht, hd, h7, Or.inl ⟨hd4, h8, h9⟩⟩
    · rename_i k l2 hd4
      simp only [Bool.and_eq_true, decide_eq_true_eq] at h5
      obtain ⟨rfl, h6, h7, h8, h9⟩ := h5
      obtain ⟨tx, ht⟩ := lk_ok hK h6
      exact key ⟨h2, h3, h1, ik, k, tx, gd_mem (lk_ok hK h4) rfl, List.mem_of_getElem? ht, hd, h7, Or.inr ⟨hd4, h8, h9⟩⟩
    · cases h5
  · cases hok
theorem t8 (F : Fx P m d sc p l e R s mid args below meth c D aC ad0 n0 M0 A) {a b pos len : Nat} {fl : List Nat} {j : Instr} (hu : u ≤ (P m).1.2.2.2.2.1) (hd : decode (P m).1.2.1 pc = .ok (j, len)) (hok : ok8 P sc m pc a b len = true) (hJ : ∀ u b L S σ, J u b L S σ = some (o, σ') → u ≤ (P m).1.2.2.2.2.1 → WG P m p l e R s mid args below meth c D aC ad0 n0 M0 A Q (pcB P m b) u L S σ) (h : goT J C u L S σ (8, j, a, b, pos, fl) = some (o, σ')) : WG P m p l e R s mid args below meth c D aC ad0 n0 M0 A Q pc u L S σ := by
  replace h : goRd J u a L S σ j b = some (o, σ') := h
  unfold ok8 at hok
  simp only [Bool.and_eq_true, Bool.or_eq_true, decide_eq_true_eq] at hok
  obtain ⟨rfl, h1, h2⟩ := hok
  unfold goRd at h
  split at h
  · split at h
    · split at h
      · rename_i hx
        exact s_iald F hx hd (by rw [← h1]; exact hJ _ _ _ _ _ h hu)
      · cases h
    · rename_i hb
      have hsc : sc = true := by
        rcases h2 with h2 | h2
        · exact absurd h2 hb
        · exact h2
      split at h
      · split at h
        · rename_i hx
          exact s_sld F hsc hx hd (by rw [← h1]; exact hJ _ _ _ _ _ h hu)
        · cases h
      · cases h
  · split at h
    · rename_i hx
      exact s_cald F hx hd (by rw [← h1]; exact hJ _ _ _ _ _ h hu)
    · cases h
  · split at h
    · rename_i hx
      exact s_lald F hx hd (by rw [← h1]; exact hJ _ _ _ _ _ h hu)
    · cases h
  · split at h
    · rename_i hx
      exact s_dald F hx hd (by rw [← h1]; exact hJ _ _ _ _ _ h hu)
    · cases h
  · split at h
    · split at h
      · rename_i hx
        exact s_alen F hx hd (by rw [← h1]; exact hJ _ _ _ _ _ h hu)
      · cases h
    · rename_i hb
      have hsc : sc = true := by
        rcases h2 with h2 | h2
        · exact absurd h2 hb
        · exact h2
      split at h
      · exact s_slen F hsc hd (by rw [← h1]; exact hJ _ _ _ _ _ h hu)
      · cases h
  · split at h
    · rename_i hx
      exact s_dadd F hx hd (by rw [← h1]; exact hJ _ _ _ _ _ h hu)
    · cases h
  · split at h
    · rename_i hx
      exact s_ddiv F hx hd (by rw [← h1]; exact hJ _ _ _ _ _ h hu)
    · cases h
  · cases h
theorem t9 (F : Fx P m d sc p l e R s mid args below meth c D aC ad0 n0 M0 A) {a b pos len : Nat} {fl : List Nat} {j : Instr} (hu : u ≤ (P m).1.2.2.2.2.1) (hd : decode (P m).1.2.1 pc = .ok (j, len)) (hK : ∀ i, lkP P (K i)) (ho : (P m).1.1.cls = cN (Z m).2.1) (hok : ok9 P K (Z m).2.1 m pc a pos j len = true) (hJ : ∀ u b L S σ, J u b L S σ = some (o, σ') → u ≤ (P m).1.2.2.2.2.1 → WG P m p l e R s mid args below meth c D aC ad0 n0 M0 A Q (pcB P m b) u L S σ) (h : goT J C u L S σ (9, j, a, b, pos, fl) = some (o, σ')) : WG P m p l e R s mid args below meth c D aC ad0 n0 M0 A Q pc u L S σ := by
  replace h : goWr J u a L S σ j = some (o, σ') := h
  unfold ok9 at hok
  rw [Bool.and_eq_true, decide_eq_true_eq] at hok
  obtain ⟨h1, hok⟩ := hok
  unfold goWr at h
  split at h
  · have e1 : len = 1 := of_decide_eq_true hok
    subst e1
    split at h
    · rename_i hx
      exact s_iast F hx hd (by rw [← h1]; exact hJ _ _ _ _ _ h hu)
    · cases h
  · have e1 : len = 1 := of_decide_eq_true hok
    subst e1
    split at h
    · rename_i hx
      exact s_cast F hx.1 hx.2 hd (by rw [← h1]; exact hJ _ _ _ _ _ h hu)
    · cases h
  · have e1 : len = 1 := of_decide_eq_true hok
    subst e1
    split at h
    · rename_i hx
      exact s_last F hx hd (by rw [← h1]; exact hJ _ _ _ _ _ h hu)
    · cases h
  · have e1 : len = 1 := of_decide_eq_true hok
    subst e1
    split at h
    · rename_i hx
      exact s_dast F hx hd (by rw [← h1]; exact hJ _ _ _ _ _ h hu)
    · cases h
  · have hok := hok
    simp only [Bool.and_eq_true, decide_eq_true_eq] at hok
    obtain ⟨rfl, h2⟩ := hok
    split at h
    · rename_i hx
      obtain ⟨⟨rfl, rfl, h3⟩, h4, h5, h6⟩ := hx
      exact s_copy F h3 h4 h5 h6 (by rw [ho]; exact lk_ok hK h2) hd (by rw [← h1]; exact hJ _ _ _ _ _ h hu)
    · cases h
  · cases h
theorem nul_ok {v : Value} {z : Nat} : nulB v z = true → v = match z with
  | 0 => .int 0
  | _ => .null := by
  intro h
  unfold nulB at h
  split at h
  · have := of_decide_eq_true h
    subst this
    rfl
  · rfl
  · cases h
theorem t10 (F : Fx P m d sc p l e R s mid args below meth c D aC ad0 n0 M0 A) {a b pos len : Nat} {fl : List Nat} {j : Instr} (hd : decode (P m).1.2.1 pc = .ok (j, len)) (hK : ∀ i, lkP P (K i)) (ho : (P m).1.1.cls = cN (Z m).2.1) (hok : ok10 P K (Z m).2.1 m pc a b pos fl j len = true) (hJ : ∀ u b L S σ, J u b L S σ = some (o, σ') → u ≤ (P m).1.2.2.2.2.1 → WG P m p l e R s mid args below meth c D aC ad0 n0 M0 A Q (pcB P m b) u L S σ) (h : goT J C u L S σ (10, j, a, b, pos, fl) = some (o, σ')) : WG P m p l e R s mid args below meth c D aC ad0 n0 M0 A Q pc u L S σ := by
  unfold ok10 at hok
  split at hok
  · rename_i cm q fs
    replace h : goNw J u a b L S σ j cm q fs = some (o, σ') := h
    rw [Bool.and_eq_true, decide_eq_true_eq] at hok
    obtain ⟨rfl, hok⟩ := hok
    unfold goNw at h
    split at h
    · simp only [Bool.and_eq_true, decide_eq_true_eq] at hok
      obtain ⟨⟨rfl, h1⟩, h2⟩ := hok
      split at h2
      · rename_i c9 hc9
        simp only [Bool.and_eq_true, decide_eq_true_eq] at h2
        obtain ⟨⟨h3, h4⟩, h5, h6⟩ := h2
        obtain ⟨c8, hc8, h5⟩ := lk_ok hK h5
        have hc8 : mcl[b]? = some c8 := hc8
        cases hc9.symm.trans hc8
        obtain ⟨i1, i2, j1, j2⟩ := cls_at b c9 hc9
        split at h
        · rename_i hu
          have hu := of_decide_eq_true hu
          exact s_new (i3 := 0) F hu hc9 h3 (fun j hj => nul_ok (List.all_eq_true.mp h6 j (List.mem_range.mpr hj))) (by rw [ho]; exact h5) j1 j2 h4 hd (by rw [← h1]; exact hJ _ _ _ _ _ h hu)
        · cases h
      · cases h2
    · simp only [Bool.and_eq_true, decide_eq_true_eq] at hok
      obtain ⟨⟨rfl, h1⟩, rfl, h2⟩ := hok
      split at h
      · rename_i hu
        simp only [Bool.and_eq_true, decide_eq_true_eq] at hu
        exact s_newa F hu.1 h2 hu.2 hd (by rw [← h1]; exact hJ _ _ _ _ _ h hu.1)
      · cases h
    · simp only [Bool.and_eq_true, decide_eq_true_eq] at hok
      obtain ⟨⟨rfl, h1⟩, h2, h3⟩ := hok
      split at h3
      · rename_i k l2 hd2
        simp only [Bool.and_eq_true, decide_eq_true_eq] at h3
        obtain ⟨rfl, h4⟩ := h3
        split at h
        · rename_i hu hk
          simp only [Bool.and_eq_true, decide_eq_true_eq] at hu
          exact s_clone F hu.1 hu.2 hk (by rw [ho]; exact lk_ok hK h2) (by rw [ho]; exact lk_ok hK h4) hd hd2 (by rw [← h1]; exact hJ _ _ _ _ _ h hu.1)
        · cases h
      · cases h3
    · cases h
  · cases hok
/-- what is asked of all methods and links -/
def okZ (P : mP) (K : mK) (Z : mZ) (N : Nat) : Prop := (∀ i, lkP P (K i)) ∧ ∀ a, a < N → (mOk P a (decide ((Z a).1 = 1)) ∧ ((Z a).1 = 2 → (P a).1.1.name = "<init>") ∧ ((Z a).1 = 0 → (P a).1.1.name ≠ "<init>")) ∧ (P a).1.1.cls = cN (Z a).2.1
theorem t6 (F : Fx P m d sc p l e R s mid args below meth c D aC ad0 n0 M0 A) {a b pos len : Nat} {fl : List Nat} {j : Instr} (hd : decode (P m).1.2.1 pc = .ok (j, len)) (ho : (P m).1.1.cls = cN (Z m).2.1) (hok : ok6 P K Z N m pc a b pos fl j len = true) (hZ : okZ P K Z N) (hF : Fin P m p l e R s mid args below meth c D aC ad0 n0 M0 A Q o σ') (hC : ∀ a as σ o1 σ1, a < N → as.all nj = true → as.length = (P a).1.2.2.2.2.2.1 → C a as σ = some (o1, σ1) → ∃ d', d = d' + 1 ∧ cMet P l a d' as σ o1 σ1)
    (hJ : ∀ u b L S σ, J u b L S σ = some (o, σ') → u ≤ (P m).1.2.2.2.2.1 → WG P m p l e R s mid args below meth c D aC ad0 n0 M0 A Q (pcB P m b) u L S σ) (h : goT J C u L S σ (6, j, a, b, pos, fl) = some (o, σ')) : WG P m p l e R s mid args below meth c D aC ad0 n0 M0 A Q pc u L S σ := by
  unfold ok6 at hok
  split at hok
  · rename_i n cc cm rc hs
    rw [Bool.and_eq_true] at hok
    obtain ⟨hk, hok⟩ := hok
    simp only [Bool.and_eq_true, decide_eq_true_eq] at hk
    obtain ⟨⟨haN, rfl⟩, ⟨hn, rfl⟩, rfl, hpb, hhs⟩ := hk
    have hK := hZ.1
    obtain ⟨⟨hz, hz2, hz0⟩, hcl⟩ := hZ.2 a haN
    replace h : (match ((decide (n ≤ S.length) && decide (c2sum (S.drop n) ≤ 8)) && decide (u + (P a).1.2.2.2.2.1 ≤ (P m).1.2.2.2.2.1)) && ((S.take n).all nj && rcvOk σ (S.take n).reverse rc) with
      | true => callK (C a (S.take n).reverse σ) (fun v σ1 => J (u + (P a).1.2.2.2.2.1) b L (psh v (S.drop n)) σ1) (fun e σ1 => match hs.getD e 1 with
        | 0 => some (.inr e, σ1)
        | 1 => none
        | t + 2 => J (u + (P a).1.2.2.2.2.1) t L [vj] σ1)
      | false => none) = some (o, σ') := h
    split at h
    · rename_i hd0
      simp only [Bool.and_eq_true, decide_eq_true_eq] at hd0
      obtain ⟨⟨⟨h1, h2⟩, h3⟩, h4, h5⟩ := hd0
      cases hc : C a (S.take n).reverse σ with
      | none => rw [hc] at h; exact (no_some h).elim
      | some q =>
        obtain ⟨o1, σ1⟩ := q
        rw [hc] at h
        obtain ⟨d', hd', hM⟩ := hC _ _ _ _ _ haN (by rw [List.all_reverse]; exact h4) (by rw [List.length_reverse, List.length_take, ← hn]; omega) hc
        have kr : ∀ v, o1 = .inl v → WG P m p l e R s mid args below meth c D aC ad0 n0 M0 A Q (pc + 3) (u + (P a).1.2.2.2.2.1) L (psh v (S.drop n)) σ1 := by
          intro v hv
          subst hv
          rw [← hpb]
          exact hJ _ _ _ _ _ h h3
        have kx : ∀ ex, o1 = .inr ex → XG P m p l e R s mid args below meth c D aC ad0 n0 M0 A Q pc (u + (P a).1.2.2.2.2.1) L (S.drop n) σ1 ex := by
          intro ex hx
          subst hx
          replace h : (match hs.getD ex 1 with
            | 0 => some (.inr ex, σ1)
            | 1 => none
            | t + 2 => J (u + (P a).1.2.2.2.2.1) t L [vj] σ1) = some (o, σ') := h
          unfold hOk at hhs
          split at hhs
          · rename_i hnil
            split at h
            · cases h
              exact hF.2.2 ex rfl pc _ L _ h3 hnil
            · cases h
            · rename_i t ht
              rw [List.getD_eq_getElem?_getD] at ht
              cases hq : hs[ex]? with
              | none => rw [hq] at ht; simp at ht
              | some w =>
                rw [hq] at ht
                have := of_decide_eq_true (List.all_eq_true.mp hhs w (List.mem_of_getElem? hq))
                have ht : w = t + 2 := ht
                omega
          · rename_i q0 hh ht0
            simp only [Bool.and_eq_true, decide_eq_true_eq] at hhs
            obtain ⟨f0, f2, f3⟩ := hhs
            have f1 : (P m).1.1.cls = RL := by rw [ho, f0]; rfl
            by_cases hex : ex < 5
            · have f4 := List.all_eq_true.mp f3 ex (List.mem_range.mpr hex)
              split at f4
              · cases f4
              · rename_i hg
                rw [hg] at h
                cases h
              · rename_i t hg
                rw [hg] at h
                exact catch_ok F f1 ht0 (of_decide_eq_true f4) (hJ _ _ _ _ _ h h3)
            · have hg : hs.getD ex 1 = 1 := by
                rw [List.getD_eq_getElem?_getD, List.getElem?_eq_none (by omega)]
                rfl
              rw [hg] at h
              cases h
        split at hok
        · split at hok
          · cases hok
          · rename_i ci
            simp only [Bool.and_eq_true, decide_eq_true_eq] at hok
            obtain ⟨⟨k1, k0, k2, k3⟩, k5⟩ := hok
            obtain ⟨q, hq⟩ : ∃ q, mcl[ci]? = some q := ⟨_, List.getElem?_eq_getElem k0⟩
            rw [k2] at hz
            exact s_callV F h1 h2 h3 h4 h5 hq ((mcl_cN _ _ hq).trans (by rw [k1]; exact hcl.symm)) hd' hz k3 hn (hz0 k2) (by rw [ho]; exact lk_ok hK k5) hd hM kr kx
        · simp only [Bool.and_eq_true, Bool.or_eq_true, decide_eq_true_eq] at hok
          obtain ⟨k2, k5⟩ := hok
          rw [k2] at hz
          by_cases k3 : (P a).1.2.2.2.2.2.2 = []
          · rcases k5 with k5 | ⟨-, k5⟩
            · exact s_callS F h1 h2 h3 h4 hd' hz k3 hn (by rw [ho]; exact lk_ok hK k5) hd hM kr kx
            · obtain ⟨host, k6⟩ := lk_ok hK k5
              exact s_callSN F h1 h2 h3 h4 hd' hz k3 hn (by rw [ho]; exact k6) hd hM kr kx
          · rcases k5 with k5 | ⟨k4, -⟩
            · exact s_callSX F h1 h2 h3 h4 hd' hz k3 hn (by rw [ho]; exact lk_ok hK k5) hd hM kr kx
            · exact absurd k4 k3
        · split at hok
          · cases hok
          · rename_i ci
            rw [Bool.and_eq_true, Bool.or_eq_true] at hok
            obtain ⟨hk, k5⟩ := hok
            simp only [Bool.and_eq_true, decide_eq_true_eq] at hk
            obtain ⟨k2, k3, k6⟩ := hk
            have k4 := hz2 k2
            rw [k2] at hz
            rcases k5 with k5 | k5
            · exact s_callI F h1 h2 h3 h4 h5 hd' hz k3 hn k4 k6 (by rw [ho]; exact lk_ok hK k5) hd hM kr kx
            · obtain ⟨host, k7⟩ := lk_ok hK k5
              exact s_callIN F h1 h2 h3 h4 h5 hd' hz k3 hn k4 k6 (by rw [ho]; exact k7) hd hM kr kx
        · cases hok
    · cases h
  · cases hok
theorem term_ok (F : Fx P m d sc p l e R s mid args below meth c D aC ad0 n0 M0 A) {i : mI} (hu : u ≤ (P m).1.2.2.2.2.1) (ho : (P m).1.1.cls = cN (Z m).2.1) (hok : okT P K Z N sc m pc i = true) (hZ : okZ P K Z N) (hF : Fin P m p l e R s mid args below meth c D aC ad0 n0 M0 A Q o σ') (hC : ∀ a as σ o1 σ1, a < N → as.all nj = true → as.length = (P a).1.2.2.2.2.2.1 → C a as σ = some (o1, σ1) → ∃ d', d = d' + 1 ∧ cMet P l a d' as σ o1 σ1)
    (hJ : ∀ u b L S σ, J u b L S σ = some (o, σ') → u ≤ (P m).1.2.2.2.2.1 → WG P m p l e R s mid args below meth c D aC ad0 n0 M0 A Q (pcB P m b) u L S σ) (h : goT J C u L S σ i = some (o, σ')) : WG P m p l e R s mid args below meth c D aC ad0 n0 M0 A Q pc u L S σ := by
  obtain ⟨k, ins, a, b, pos, fl⟩ := i
  unfold okT at hok
  split at hok
  · rename_i hk
    have hk : k = 1 := of_decide_eq_true hk
    subst hk
    have e1 : pcB P m a = pc := of_decide_eq_true hok
    subst e1
    exact hJ _ _ _ _ _ h hu
  · split at hok
    · cases hok
    · rename_i j len hd
      rw [Bool.and_eq_true, decide_eq_true_eq] at hok
      obtain ⟨e1, hok⟩ := hok
      have e1 : ins = j := e1
      subst e1
      split at hok
      · rename_i hk
        have hk : k = 2 := hk
        subst hk
        split at hok
        · simp only [Bool.and_eq_true, decide_eq_true_eq] at hok
          obtain ⟨rfl, h1⟩ := hok
          exact s_goto F hd h1 (hJ _ _ _ _ _ h hu)
        · cases hok
      · rename_i hk
        have hk : k = 3 := hk
        subst hk
        exact t3 F hu hd hok hJ h
      · rename_i hk
        have hk : k = 4 := hk
        subst hk
        exact t4 F hu hd hok hJ h
      · rename_i hk
        have hk : k = 5 := hk
        subst hk
        exact t5 F hu hd hok hF h
      · rename_i hk
        have hk : k = 6 := hk
        subst hk
        exact t6 F hd ho hok hZ hF hC hJ h
      · rename_i hk
        have hk : k = 7 := hk
        subst hk
        exact t7 F hd hZ.1 ho hok hF h
      · rename_i hk
        have hk : k = 8 := hk
        subst hk
        exact t8 F hu hd hok hJ h
      · rename_i hk
        have hk : k = 9 := hk
        subst hk
        exact t9 F hu hd hZ.1 ho hok hJ h
      · rename_i hk
        have hk : k = 10 := hk
        subst hk
        exact t10 F hd hZ.1 ho hok hJ h
      · cases hok
theorem chk_ok (F : Fx P m d sc p l e R s mid args below meth c D aC ad0 n0 M0 A) (hK : ∀ i, lkP P (K i)) (ho : (P m).1.1.cls = cN (Z m).2.1) (hu : u ≤ (P m).1.2.2.2.2.1) : ∀ (code : List mI) (pc : Nat) (st st' : mSt) (i : mI), chkL P K Z N sc m pc code = true → runS code st = some (st', i) → ∃ pc', okT P K Z N sc m pc' i = true ∧ (WG P m p l e R s mid args below meth c D aC ad0 n0 M0 A Q pc' u st'.1 st'.2.1 st'.2.2 → WG P m p l e R s mid args below meth c D aC ad0 n0 M0 A Q pc u st.1 st.2.1 st.2.2)
  | [], pc, st, st', i, _, hr => by cases hr
  | j :: r, pc, st, st', i, hc, hr => by
    obtain ⟨k, ins, a, b, pos, fl⟩ := j
    obtain ⟨L, S, σ⟩ := st
    cases k with
    | zero =>
      unfold chkL at hc
      have hc : (match decode (P m).1.2.1 pc with
        | .error _ => false
        | .ok (j, len) => (decide (ins = j) && okI P K (Z m).2.1 m j a b pos (fl.headD 0) len) && chkL P K Z N sc m (pc + len) r) = true := hc
      split at hc
      · cases hc
      · rename_i j len hd
        simp only [Bool.and_eq_true, decide_eq_true_eq] at hc
        obtain ⟨⟨rfl, h1⟩, h2⟩ := hc
        unfold runS at hr
        have hr : (match sem ins a b (fl.headD 0) L S σ with
          | some st' => runS r st'
          | none => none) = some (st', i) := hr
        split at hr
        · rename_i st2 hs
          obtain ⟨L2, S2, σ2⟩ := st2
          obtain ⟨pc', h3, h4⟩ := chk_ok F hK ho hu r (pc + len) _ _ _ h2 hr
          exact ⟨pc', h3, fun g => str_ok hK ho F hu hd h1 hs (h4 g)⟩
        · cases hr
    | succ k =>
      cases hr
      exact ⟨pc, hc, id⟩
end TE
end
section
/-! EVERY RUN OF THE CHECKED MACHINE IS A METHOD'S CONTRACT -/
def okP (P : mP) (K : mK) (Z : mZ) (N : Nat) : Prop := (∀ i, lkP P (K i)) ∧ ∀ a, a < N → okM P Z a = true ∧ chkM P K Z N false a = true
theorem chkM_ok {P : mP} {K : mK} {Z : mZ} {N m : Nat} {sc : Bool} (h : chkM P K Z N sc m = true) : pcB P m 0 = 0 ∧ (P m).1.2.2.2.2.2.1 ≤ (P m).1.2.2.1 ∧ (P m).1.1.cls = cN (Z m).2.1 ∧ ((P m).2.all fun q => chkL P K Z N sc m q.1 q.2.2) = true := by
  unfold chkM at h
  rw [Bool.and_eq_true, Bool.and_eq_true, Bool.and_eq_true, decide_eq_true_eq, decide_eq_true_eq, decide_eq_true_eq] at h
  exact ⟨h.1.1.1, h.1.1.2, h.1.2, h.2⟩
theorem okP_z {P : mP} {K : mK} {Z : mZ} {N : Nat} (h : okP P K Z N) : okZ P K Z N := ⟨h.1, fun a ha => ⟨okM_ok (h.2 a ha).1, (chkM_ok (h.2 a ha).2).2.2.1⟩⟩
section ME
variable {P : mP} {m d : Nat} {sc : Bool} {p : Program} {l : Launch} {e : Env} {R : Room} {s : State} {mid : MethodId} {args : Array Value} {below : List Frame} {meth : Method} {c : Code} {D : va_G} {aC : FieldType → ClassId} {ad0 : Nat → Nat} {n0 : Nat} {M0 : mM} {A : Nat → Prop} {Q : State → Prop}
variable {pc u : Nat} {L S : List mV} {σ : mS}
variable {J : mJ} {C : mC} {K : mK} {Z : mZ} {N : Nat} {o : mO} {σ' : mS}
theorem msk_G {bs : List Bool} (k : WG P m p l e R s mid args below meth c D aC ad0 n0 M0 A Q pc u (msk bs L) S σ) : WG P m p l e R s mid args below meth c D aC ad0 n0 M0 A Q pc u L S σ := fun ad H locs ls st g0 g1 hW g2 hS hL hT => k ad H locs ls st g0 g1 hW g2 hS (lR_msk bs hL) hT
theorem block_ok (F : Fx P m d sc p l e R s mid args below meth c D aC ad0 n0 M0 A) {b : Nat} (hu : u ≤ (P m).1.2.2.2.2.1) (hok : chkM P K Z N sc m = true) (hZ : okZ P K Z N) (hF : Fin P m p l e R s mid args below meth c D aC ad0 n0 M0 A Q o σ') (hC : ∀ a as σ o1 σ1, a < N → as.all nj = true → as.length = (P a).1.2.2.2.2.2.1 → C a as σ = some (o1, σ1) → ∃ d', d = d' + 1 ∧ cMet P l a d' as σ o1 σ1)
    (hJ : ∀ u b L S σ, J u b L S σ = some (o, σ') → u ≤ (P m).1.2.2.2.2.1 → WG P m p l e R s mid args below meth c D aC ad0 n0 M0 A Q (pcB P m b) u L S σ) (h : goP P m J C u b L S σ = some (o, σ')) : WG P m p l e R s mid args below meth c D aC ad0 n0 M0 A Q (pcB P m b) u L S σ := by
  unfold goP at h
  split at h
  · cases h
  · rename_i q hq
    unfold goB at h
    split at h
    · cases h
    · rename_i st' i hr
      obtain ⟨-, -, ho, hok⟩ := chkM_ok hok
      have h1 := List.all_eq_true.mp hok q (List.mem_of_getElem? hq)
      obtain ⟨pc', h2, h3⟩ := chk_ok (Q := Q) F hZ.1 ho hu q.2.2 q.1 _ _ _ h1 hr
      have e1 : pcB P m b = q.1 := by unfold pcB; rw [hq]
      rw [e1]
      exact h3 (term_ok F hu ho h2 hZ hF hC (fun u' b' L1 S1 σ1 hj hu' => msk_G (hJ _ _ _ _ _ hj hu')) h)
theorem nj_cat {ad : Nat → Nat} {w : mV} (h : nj w = true) : (vv ad w).category ≠ 2 := by
  rcases w with x | (_ | y) | z
  · exact (show (1 : Nat) ≠ 2 by decide)
  · exact (show (1 : Nat) ≠ 2 by decide)
  · exact (show (1 : Nat) ≠ 2 by decide)
  · cases h
theorem args_in {ad : Nat → Nat} : ∀ (as : List mV) (k : Nat), as.all nj = true → ∀ (i : Nat) (v : mV), as[i]? = some v → (k + i, vv ad v) ∈ lv_args k (as.map (vv ad))
  | [], k, _, i, v, h => by simp at h
  | w :: as, k, hn, i, v, h => by
    rw [List.all_cons, Bool.and_eq_true] at hn
    have hc : (vv ad w).category ≠ 2 := by
      exact nj_cat hn.1
    rw [List.map_cons]
    unfold lv_args
    rw [if_neg hc]
    cases i with
    | zero =>
      rw [List.getElem?_cons_zero] at h
      cases h
      exact List.mem_cons_self
    | succ i =>
      rw [List.getElem?_cons_succ] at h
      have := args_in (ad := ad) as (k + 1) hn.2 i v h
      rw [show k + (i + 1) = k + 1 + i by omega]
      exact List.mem_cons_of_mem _ this
theorem sl_len {ad : Nat → Nat} : ∀ (as : List mV), as.all nj = true → (lg_sl (as.map (vv ad))).length = as.length
  | [], _ => rfl
  | w :: as, hn => by
    rw [List.all_cons, Bool.and_eq_true] at hn
    have hc : (vv ad w).category ≠ 2 := by
      exact nj_cat hn.1
    have h1 := sl_len (ad := ad) as hn.2
    unfold lg_sl at h1 ⊢
    rw [List.map_cons, List.flatMap_cons, if_neg hc, List.length_append, h1]
    simp
    omega
theorem entry_lR {ad : Nat → Nat} {n a : Nat} {as : List mV} (hn : as.all nj = true) (hl : as.length ≤ (P a).1.2.2.1) (hok : ∀ v ∈ as, okV n v ∧ v ≠ vj) : lR ad n (pPad P a as) ((lg_sl (as.map (vv ad)) ++ List.replicate ((P a).1.2.2.1 - (lg_sl (as.map (vv ad))).length) Slot.unset).toArray) (P a).1.2.2.1 := by
  refine ⟨?_, lv_args 0 (as.map (vv ad)), lv_entry _ (by rw [sl_len as hn]; exact hl), fun i v hi hv => ?_⟩
  · unfold pPad
    rw [List.length_append, List.length_replicate]
    omega
  · unfold pPad at hi
    by_cases hia : i < as.length
    · rw [List.getElem?_append_left hia] at hi
      refine ⟨(hok v (List.mem_of_getElem? hi)).1, ?_⟩
      have := args_in (ad := ad) as 0 hn i v hi
      rw [Nat.zero_add] at this
      exact this
    · rw [List.getElem?_append_right (by omega)] at hi
      have := List.mem_of_getElem? hi
      exact absurd (List.eq_of_mem_replicate this) hv
/-- what runs from a block of a method's frame, ends -/
def okB (P : mP) (K : mK) (Z : mZ) (N : Nat) (l : Launch) (n : Nat) : Prop :=
  ∀ (m d : Nat) (sc : Bool) (p : Program) (e : Env) (R : Room) (s : State) (mid : MethodId) (args : Array Value) (below : List Frame) (meth : Method) (c : Code) (D : va_G) (aC : FieldType → ClassId) (ad0 : Nat → Nat) (n0 : Nat) (M0 : mM) (A : Nat → Prop) (Q : State → Prop) (u b : Nat) (L S : List mV) (σ : mS) (o : mO) (σ' : mS),
    chkM P K Z N sc m = true → Fx P m d sc p l e R s mid args below meth c D aC ad0 n0 M0 A → Fin P m p l e R s mid args below meth c D aC ad0 n0 M0 A Q o σ' → u ≤ (P m).1.2.2.2.2.1 → exec P n d m u b L S σ = some (o, σ') → WG P m p l e R s mid args below meth c D aC ad0 n0 M0 A Q (pcB P m b) u L S σ
theorem meth_of {n a : Nat} {as : List mV} (hl : l.stackTraces = false) (hP : okP P K Z N) (hB : okB P K Z N l n) (ha : a < N) (hnj : as.all nj = true) (hln : as.length = (P a).1.2.2.2.2.2.1) (hr : exec P n d a 0 0 (pPad P a as) [] σ = some (o, σ')) : cMet P l a d as σ o σ' := by
  intro D aC ad sz
  obtain ⟨q1, q2⟩ := hP.2 a ha
  have hm := (okM_ok q1).1
  obtain ⟨q4, q5, -, -⟩ := chkM_ok q2
  have body : ∀ (p : Program) (e : Env) (s : State) (mid : MethodId) (args : Array Value) (below : List Frame) (meth : Method) (c : Code) (s₁ : State), BodyLoose p l (P a).1.1 (headSpec (cWs P a) (cRm P a d)) (P a).1.2.1 (P a).1.2.2.1 (P a).1.2.2.2.1 e s mid args below meth c s₁ → c.maxLocals = (P a).1.2.2.1 → c.exceptionTable.toList = tableOf (P a).1.2.2.2.2.2.2 → cPre D aC ad sz as σ args s →
      W p l e (headSpec (cWs P a) (cRm P a d)).room s mid args below meth c s.heap [] 0 0 (vx_MQ below (cQ D aC ad sz σ o σ') (cX D aC ad sz σ o σ') args s (P a).1.2.2.2.2.1 (2100 * (P a).1.2.2.2.2.1) (mA ad σ.1.length sz)) (entryFrame mid args (P a).1.2.2.1) := by
    intro p e s mid args below meth c s₁ B hml htab hPc
    obtain ⟨hargs, hsz, hkn, hst, hW, hok⟩ := hPc
    have hts := atoms_spec (ws := cWs P a) B.pre
    subst hsz
    have F : Fx P a d false p l e (headSpec (cWs P a) (cRm P a d)).room s mid args below meth c D aC ad σ.1.length σ.2 (mA ad σ.1.length s.heap.size) :=
      ⟨B.exec, B.bytes, hml, findClass_of_methodNamed B.named, fun w hw => hts w (List.mem_cons_of_mem _ hw), B.notSynchronized, hkn, hst, fun q hq => Or.inr hq, ⟨Nat.le_refl _, Nat.le_refl _⟩, ⟨Nat.le_refl _, Nat.le_refl _⟩, htab, (fun z => by cases z), (name_of_methodNamed B.named B.method).1, hW.2.2.1.1, hl, B.returns⟩
    have key := hB a d false p e _ s mid args below meth c D aC ad σ.1.length σ.2 (mA ad σ.1.length s.heap.size) _ 0 0 (pPad P a as) [] σ o σ' q2 F (fin_meth (o := o) (σ' := σ') F) (Nat.zero_le _) hr
    rw [q4] at key
    have k2 := key ad s.heap [] _ [] (Nat.le_refl _) (fun k _ => rfl) hW (fun k _ => rfl) ⟨Nat.le_refl _, fun q _ _ => rfl, fun z hz => by cases hz⟩ (entry_lR hnj (by omega) hok) trivial
    rw [hargs, lg_entry_eq]
    rw [← hargs]
    exact k2
  have hm' := hm
  obtain ⟨m1, -⟩ := hm
  cases hh : (P a).1.2.2.2.2.2.2 with
  | nil =>
    refine vx_ofW (ws' := lw_gd) (cc := (P a).1.2.1) (maxL := (P a).1.2.2.1) (ret := (P a).1.2.2.2.1) m1 (by unfold cWs; rw [cW_code hh]) (fun p e s m args below meth c s₁ B hml htab hPc => ?_)
    refine body p e s m args below meth c s₁ B hml ?_ hPc
    rw [hh]
    cases ht : c.exceptionTable.toList with
    | nil => rfl
    | cons x y => exact (htab x (by rw [ht]; exact List.mem_cons_self)).elim
  | cons x y =>
    have hne : (P a).1.2.2.2.2.2.2 ≠ [] := by rw [hh]; exact List.cons_ne_nil _ _
    refine vx_ofWH (ws' := lw_gd) (cc := (P a).1.2.1) (maxL := (P a).1.2.2.1) (ret := (P a).1.2.2.2.1) (hh := (P a).1.2.2.2.2.2.2) m1 (by unfold cWs; rw [cW_codeW hne]) (fun p e s m args below meth c s₁ B hml hPc => ?_)
    refine body p e s m args below meth c s₁ B hml ?_ hPc
    have hts := atoms_spec (ws := cWs P a) B.pre
    exact vx_table (x := (P a).1.1) B (hts _ (by unfold cWs; rw [← cW_codeW hne]; exact List.mem_cons_self))
theorem exec_ok (hl : l.stackTraces = false) (hP : okP P K Z N) : ∀ n, okB P K Z N l n
  | 0 => by
    intro m d sc p e R s mid args below meth c D aC ad0 n0 M0 A Q u b L S σ o σ' hc F hF hu h
    cases h
  | n + 1 => by
    intro m d sc p e R s mid args below meth c D aC ad0 n0 M0 A Q u b L S σ o σ' hc F hF hu h
    have ih := exec_ok hl hP n
    refine block_ok F hu hc (okP_z hP) hF (fun a as σ2 o1 σ1 ha hnj hln hr => ?_) (fun u' b' L' S' σ2 h' hu' => ih m d sc p e R s mid args below meth c D aC ad0 n0 M0 A Q u' b' L' S' σ2 o σ' hc F hF hu' h') h
    cases d with
    | zero => cases hr
    | succ d => exact ⟨d, rfl, meth_of hl hP ih ha hnj hln hr⟩
/-- the contract of a method, by its run -/
theorem run_met {a : Nat} {as : List mV} (hl : l.stackTraces = false) (hP : okP P K Z N) (ha : a < N) (hnj : as.all nj = true) (hln : as.length = (P a).1.2.2.2.2.2.1) (hr : run P d a as σ = some (o, σ')) : cMet P l a d as σ o σ' := by
  obtain ⟨n, hn⟩ := ev_ex hr
  exact meth_of hl hP (exec_ok hl hP n) ha hnj hln hn
/-- a run from a block of a frame that stands -/
theorem ev_ok (F : Fx P m d sc p l e R s mid args below meth c D aC ad0 n0 M0 A) {b : Nat} (hl : l.stackTraces = false) (hP : okP P K Z N) (hc : chkM P K Z N sc m = true) (hF : Fin P m p l e R s mid args below meth c D aC ad0 n0 M0 A Q o σ') (hu : u ≤ (P m).1.2.2.2.2.1) (hr : ev P d m u b L S σ = some (o, σ')) : WG P m p l e R s mid args below meth c D aC ad0 n0 M0 A Q (pcB P m b) u L S σ := by
  obtain ⟨n, hn⟩ := ev_ex hr
  exact exec_ok hl hP n m d sc p e R s mid args below meth c D aC ad0 n0 M0 A Q u b L S σ o σ' hc F hF hu hn
end ME
end
section
/-! THE BLOCKS OF THE METHODS, 0 -/
abbrev zz (i : Instr) : mI := (0, i, 0, 0, 0, [])
noncomputable def pm_0 : mMt := ((yX2_init, cX2_init, 1, none, 4, 1, []), [(0, [true], [zz (.aload_n 0), zz (.invokespecial 3), zz (.aload_n 0), zz (.sipush 600), (10, .newarray .int, 1, 0, 0, [4, 1])]),
  (10, [true], [(0, .putfield 9, 2, 0, 1, [2]), zz (.aload_n 0), zz (.sipush 200), (10, .newarray .int, 2, 0, 0, [4, 1])]),
  (19, [true], [(0, .putfield 15, 2, 1, 2, [2]), zz (.aload_n 0), zz (.sipush 200), (10, .newarray .int, 3, 0, 0, [4, 1])]),
  (28, [true], [(0, .putfield 18, 2, 2, 3, [2]), zz (.aload_n 0), zz (.sipush 200), (10, .newarray .int, 4, 0, 0, [4, 1])]),
  (37, [true], [(0, .putfield 21, 2, 3, 4, [2]), zz (.aload_n 0), zz (.iconst 0), (0, .putfield 24, 2, 4, 5, [0]), zz (.aload_n 0), zz (.iconst 0), (0, .putfield 28, 2, 5, 6, [0]), (5, .return_, 0, 0, 0, [])])])
noncomputable def pm_1 : mMt := ((yX1_init, cX1_init, 1, none, 1, 1, []), [(0, [true], [zz (.aload_n 0), (0, .invokespecial 3, 0, 0, 7, []), zz (.aload_n 0), zz (.sipush 200), (10, .newarray .int, 1, 0, 0, [1, 1])]),
  (10, [true], [(0, .putfield 9, 1, 0, 8, [2]), zz (.aload_n 0), zz (.iconst 0), (0, .putfield 15, 1, 1, 9, [0]), (5, .return_, 0, 0, 0, [])])])
noncomputable def pm_2 : mMt := ((yJ7_fill_53178, cJ7_fill_53178, 4, none, 0, 2, []), [(0, [true, true, false, false], [zz (.iconst 0), zz (.istore_n 2), zz (.aload_n 0), (8, .arraylength, 1, 0, 0, [])]),
  (4, [true, true, true, false], [zz (.istore_n 3), (1, .return_, 2, 0, 0, [])]),
  (5, [true, true, true, true], [zz (.iload_n 2), zz (.iload_n 3), (3, .if_icmp .ge 13, 5, 3, 0, [])]),
  (10, [true, true, true, true], [zz (.aload_n 0), zz (.iload_n 2), zz (.iload_n 1), (9, .iastore, 4, 0, 0, [])]),
  (14, [true, true, true, true], [zz (.iinc 2 1), (2, .goto (-12), 2, 0, 0, [])]),
  (20, [false, false, false, false], [(5, .return_, 0, 0, 0, [])])])
noncomputable def pm_3 : mMt := ((yX8_init, cX8_init, 2, none, 12, 2, []), [(0, [true, true], [zz (.aload_n 0), (0, .invokespecial 3, 0, 0, 10, []), zz (.aload_n 0), zz (.sipush 400), (10, .newarray .int, 1, 0, 0, [12, 1])]),
  (10, [true, true], [(0, .putfield 9, 8, 1, 11, [2]), zz (.aload_n 0), zz (.sipush 200), (10, .newarray .int, 2, 0, 0, [12, 1])]),
  (19, [true, true], [(0, .putfield 15, 8, 2, 12, [2]), zz (.aload_n 0), zz (.sipush 200), (10, .newarray .int, 3, 0, 0, [12, 1])]),
  (28, [true, true], [(0, .putfield 18, 8, 3, 13, [2]), zz (.aload_n 0), zz (.sipush 200), (10, .newarray .int, 4, 0, 0, [12, 1])]),
  (37, [true, true], [(0, .putfield 21, 8, 4, 14, [2]), zz (.aload_n 0), zz (.sipush 200), (10, .newarray .int, 5, 0, 0, [12, 1])]),
  (46, [true, true], [(0, .putfield 24, 8, 5, 15, [2]), zz (.aload_n 0), zz (.sipush 600), (10, .newarray .int, 6, 0, 0, [12, 1])]),
  (55, [true, true], [(0, .putfield 27, 8, 6, 16, [2]), zz (.aload_n 0), zz (.sipush 600), (10, .newarray .int, 7, 0, 0, [12, 1])]),
  (64, [true, true], [(0, .putfield 30, 8, 7, 17, [2]), zz (.aload_n 0), zz (.sipush 200), (10, .newarray .int, 8, 0, 0, [12, 1])]),
  (73, [true, true], [(0, .putfield 33, 8, 8, 18, [2]), zz (.aload_n 0), (10, .new 36, 9, 1, 19, [12, 0, 1, 0])]),
  (80, [true, true], [zz (.dup), (6, .invokespecial 38, 1, 10, 20, [1, 1, 12, 2, 0, 0, 0, 0, 0])]),
  (84, [true, true], [(0, .putfield 39, 8, 9, 21, [2]), zz (.aload_n 0), (10, .new 36, 11, 1, 19, [12, 0, 1, 0])]),
  (91, [true, true], [zz (.dup), (6, .invokespecial 38, 1, 12, 20, [1, 1, 12, 2, 0, 0, 0, 0, 0])]),
  (95, [true, true], [(0, .putfield 43, 8, 10, 22, [2]), zz (.aload_n 0), zz (.iconst (-1)), (0, .putfield 46, 8, 11, 23, [0]), zz (.aload_n 0), zz (.aload_n 1), (0, .putfield 50, 8, 0, 24, [2]), zz (.aload_n 0), (0, .getfield 9, 8, 1, 11, []), zz (.iconst (-1)), (6, .invokestatic 54, 2, 13, 25, [2, 0, 12, 0, 0, 0, 0, 0, 0])]),
  (116, [true, false], [zz (.aload_n 0), (0, .getfield 18, 8, 3, 13, []), zz (.iconst (-1)), (6, .invokestatic 54, 2, 14, 25, [2, 0, 12, 0, 0, 0, 0, 0, 0])]),
  (124, [false, false], [(5, .return_, 0, 0, 0, [])])])
noncomputable def pm_4 : mMt := ((yX3_init, cX3_init, 3, none, 7, 3, []), [(0, [true, true, true], [zz (.aload_n 0), (0, .invokespecial 3, 0, 0, 26, []), zz (.aload_n 0), zz (.iconst 4), (10, .newarray .int, 1, 0, 0, [7, 1])]),
  (8, [true, true, true], [(0, .putfield 9, 3, 2, 27, [2]), zz (.aload_n 0), (10, .new 15, 2, 1, 28, [7, 0, 1, 0])]),
  (15, [true, true, true], [zz (.dup), (6, .invokespecial 17, 1, 3, 29, [1, 1, 7, 2, 0, 0, 0, 0, 0])]),
  (19, [true, true, true], [(0, .putfield 18, 3, 3, 30, [2]), zz (.aload_n 0), zz (.bipush 60), (10, .newarray .int, 4, 0, 0, [7, 1])]),
  (27, [true, true, true], [(0, .putfield 22, 3, 4, 31, [2]), zz (.aload_n 0), zz (.bipush 60), (10, .newarray .int, 5, 0, 0, [7, 1])]),
  (35, [true, true, true], [(0, .putfield 25, 3, 5, 32, [2]), zz (.aload_n 0), zz (.bipush 60), (10, .newarray .int, 6, 0, 0, [7, 1])]),
  (43, [true, true, true], [(0, .putfield 28, 3, 6, 33, [2]), zz (.aload_n 0), zz (.bipush 60), (10, .newarray .int, 7, 0, 0, [7, 1])]),
  (51, [true, true, true], [(0, .putfield 31, 3, 7, 34, [2]), zz (.aload_n 0), zz (.iconst 0), (0, .putfield 34, 3, 8, 35, [0]), zz (.aload_n 0), zz (.aload_n 1), (0, .putfield 38, 3, 0, 36, [2]), zz (.aload_n 0), zz (.aload_n 2), (0, .putfield 42, 3, 1, 37, [2]), (5, .return_, 0, 0, 0, [])])])
noncomputable def pm_5 : mMt := ((yX5_init, cX5_init, 1, none, 5, 1, []), [(0, [true], [zz (.aload_n 0), (0, .invokespecial 3, 0, 0, 38, []), zz (.aload_n 0), (0, .getstatic 9, 0, 0, 39, []), (10, .invokevirtual 13, 1, 0, 40, [5, 41])]),
  (14, [true], [(0, .putfield 18, 5, 0, 42, [2]), zz (.aload_n 0), zz (.iconst 3), (10, .newarray .int, 2, 0, 0, [5, 1])]),
  (21, [true], [(0, .putfield 23, 5, 1, 43, [2]), zz (.aload_n 0), zz (.iconst 3), (10, .newarray .int, 3, 0, 0, [5, 1])]),
  (28, [true], [(0, .putfield 26, 5, 2, 44, [2]), zz (.aload_n 0), zz (.iconst 3), (10, .newarray .int, 4, 0, 0, [5, 1])]),
  (35, [true], [(0, .putfield 29, 5, 3, 45, [2]), zz (.aload_n 0), zz (.bipush 10), (10, .newarray .int, 5, 0, 0, [5, 1])]),
  (43, [false], [(0, .putfield 32, 5, 4, 46, [2]), (5, .return_, 0, 0, 0, [])])])
noncomputable def pm_6 : mMt := ((yX6_init, cX6_init, 1, none, 32, 1, []), [(0, [true], [zz (.aload_n 0), (0, .invokespecial 3, 0, 0, 47, []), zz (.aload_n 0), (10, .new 9, 1, 2, 48, [32, 0, 1, 1, 1, 1, 0, 0])]),
  (8, [true], [zz (.dup), (6, .invokespecial 11, 0, 2, 49, [1, 4, 32, 3, 0, 0, 0, 0, 0])]),
  (12, [true], [(0, .putfield 12, 6, 0, 50, [2]), zz (.aload_n 0), (10, .new 18, 3, 8, 51, [32, 0, 1, 1, 1, 1, 1, 1, 1, 1, 1, 1, 1, 0])]),
  (19, [true], [zz (.dup), zz (.aload_n 0), (0, .getfield 12, 6, 0, 50, []), (6, .invokespecial 20, 3, 4, 52, [2, 12, 32, 9, 0, 0, 0, 0, 0])]),
  (27, [true], [(0, .putfield 23, 6, 1, 53, [2]), zz (.aload_n 0), (10, .new 27, 5, 3, 54, [32, 0, 1, 1, 1, 1, 1, 1, 1, 1, 0])]),
  (34, [true], [zz (.dup), zz (.aload_n 0), (0, .getfield 12, 6, 0, 50, []), zz (.aload_n 0), (0, .getfield 23, 6, 1, 53, []), (6, .invokespecial 29, 4, 6, 55, [3, 7, 32, 4, 0, 0, 0, 0, 0])]),
  (46, [true], [(0, .putfield 32, 6, 2, 56, [2]), zz (.aload_n 0), (10, .new 36, 7, 5, 57, [32, 0, 1, 1, 1, 1, 1])]),
  (53, [false], [zz (.dup), (6, .invokespecial 38, 5, 8, 58, [1, 5, 32, 6, 0, 0, 0, 0, 0])]),
  (57, [false], [(0, .putfield 39, 6, 3, 59, [2]), (5, .return_, 0, 0, 0, [])])])
noncomputable def pm_7 : mMt := ((yX4_init, cX4_init, 2, none, 6, 2, []), [(0, [true, true], [zz (.aload_n 0), (0, .invokespecial 3, 0, 0, 60, []), zz (.aload_n 0), (10, .new 9, 1, 1, 61, [6, 0, 1, 0])]),
  (8, [true, true], [zz (.dup), (6, .invokespecial 11, 1, 2, 62, [1, 1, 6, 2, 0, 0, 0, 0, 0])]),
  (12, [true, true], [(0, .putfield 12, 4, 3, 63, [2]), zz (.aload_n 0), zz (.bipush 60), (10, .newarray .int, 3, 0, 0, [6, 1])]),
  (20, [true, true], [(0, .putfield 18, 4, 4, 64, [2]), zz (.aload_n 0), zz (.bipush 60), (10, .newarray .int, 4, 0, 0, [6, 1])]),
  (28, [true, true], [(0, .putfield 22, 4, 5, 65, [2]), zz (.aload_n 0), (10, .new 9, 5, 1, 61, [6, 0, 1, 0])]),
  (35, [true, true], [zz (.dup), (6, .invokespecial 11, 1, 6, 62, [1, 1, 6, 2, 0, 0, 0, 0, 0])]),
  (39, [true, true], [(0, .putfield 25, 4, 6, 66, [2]), zz (.aload_n 0), zz (.iconst (-1)), (0, .putfield 28, 4, 7, 67, [0]), zz (.aload_n 0), zz (.iconst (-1)), (0, .putfield 32, 4, 8, 68, [0]), zz (.aload_n 0), zz (.iconst 0), (0, .putfield 35, 4, 9, 69, [0]), zz (.aload_n 0), zz (.aload_n 1), (0, .getfield 38, 6, 0, 70, []), (0, .putfield 44, 4, 0, 71, [2]), zz (.aload_n 0), zz (.aload_n 1), (0, .getfield 45, 6, 1, 72, []), (0, .putfield 49, 4, 1, 73, [2]), zz (.aload_n 0), zz (.aload_n 1), (0, .getfield 50, 6, 3, 74, []), (0, .putfield 54, 4, 2, 75, [2]), (5, .return_, 0, 0, 0, [])])])
noncomputable def pm_8 : mMt := ((yX0_init, cX0_init, 2, none, 4, 2, []), [(0, [true, true], [zz (.aload_n 0), (0, .invokespecial 3, 0, 0, 76, []), zz (.aload_n 0), (10, .new 9, 1, 1, 77, [4, 0, 1, 0])]),
  (8, [true, true], [zz (.dup), (6, .invokespecial 11, 1, 2, 78, [1, 1, 4, 2, 0, 0, 0, 0, 0])]),
  (12, [true, true], [(0, .putfield 12, 0, 1, 79, [2]), zz (.aload_n 0), (10, .new 9, 3, 1, 77, [4, 0, 1, 0])]),
  (19, [true, true], [zz (.dup), (6, .invokespecial 11, 1, 4, 78, [1, 1, 4, 2, 0, 0, 0, 0, 0])]),
  (23, [true, true], [(0, .putfield 18, 0, 2, 80, [2]), zz (.aload_n 0), zz (.iconst 0), (0, .putfield 21, 0, 3, 81, [0]), zz (.aload_n 0), zz (.iconst 0), (0, .putfield 25, 0, 4, 82, [1]), zz (.aload_n 0), zz (.aload_n 1), (0, .putfield 29, 0, 0, 83, [2]), (5, .return_, 0, 0, 0, [])])])
noncomputable def pm_9 : mMt := ((yX7_init, cX7_init, 1, none, 2, 1, []), [(0, [true], [zz (.aload_n 0), (0, .invokespecial 3, 0, 0, 84, []), zz (.aload_n 0), zz (.bipush 90), (10, .newarray .char, 1, 0, 0, [2, 2])]),
  (9, [true], [(0, .putfield 9, 7, 0, 85, [2]), zz (.aload_n 0), zz (.bipush 80), (10, .newarray .int, 2, 0, 0, [2, 1])]),
  (17, [true], [(0, .putfield 15, 7, 1, 86, [2]), zz (.aload_n 0), zz (.iconst 0), (0, .putfield 19, 7, 2, 87, [0]), zz (.aload_n 0), zz (.iconst 0), (0, .putfield 23, 7, 3, 88, [0]), zz (.aload_n 0), zz (.iconst 0), (0, .putfield 26, 7, 4, 89, [0]), zz (.aload_n 0), zz (.iconst (-1)), (0, .putfield 29, 7, 5, 90, [0]), zz (.aload_n 0), zz (.iconst 0), (0, .putfield 32, 7, 6, 91, [1]), (5, .return_, 0, 0, 0, [])])])
noncomputable def pm_10 : mMt := ((yX9_init, cX9_init, 1, none, 81, 1, []), [(0, [true], [zz (.aload_n 0), (0, .invokespecial 1, 0, 0, 92, []), zz (.aload_n 0), (10, .new 7, 1, 6, 93, [81, 0, 1, 1, 1, 1])]),
  (8, [true], [zz (.dup), (6, .invokespecial 9, 6, 2, 94, [1, 32, 81, 7, 0, 0, 0, 0, 0])]),
  (12, [true], [(0, .putfield 10, 9, 0, 95, [2]), zz (.aload_n 0), (10, .new 7, 3, 6, 93, [81, 0, 1, 1, 1, 1])]),
  (19, [true], [zz (.dup), (6, .invokespecial 9, 6, 4, 94, [1, 32, 81, 7, 0, 0, 0, 0, 0])]),
  (23, [true], [(0, .putfield 16, 9, 1, 96, [2]), zz (.aload_n 0), (10, .new 19, 5, 4, 97, [81, 0, 1, 1, 1, 1, 1, 1, 1, 0, 0, 0])]),
  (30, [true], [zz (.dup), zz (.aload_n 0), (0, .getfield 10, 9, 0, 95, []), (6, .invokespecial 21, 7, 6, 98, [2, 6, 81, 5, 0, 0, 0, 0, 0])]),
  (38, [true], [(0, .putfield 24, 9, 2, 99, [2]), zz (.aload_n 0), (10, .new 28, 7, 0, 100, [81, 0, 1, 1, 1, 0, 0])]),
  (45, [true], [zz (.dup), zz (.aload_n 0), (0, .getfield 10, 9, 0, 95, []), (0, .getfield 30, 6, 1, 101, []), (6, .invokespecial 34, 8, 8, 102, [2, 4, 81, 1, 0, 0, 0, 0, 0])]),
  (56, [true], [(0, .putfield 37, 9, 3, 103, [2]), zz (.aload_n 0), (10, .new 41, 9, 7, 104, [81, 0, 1, 1, 0, 0, 0, 0, 0])]),
  (63, [true], [zz (.dup), (6, .invokespecial 43, 9, 10, 105, [1, 2, 81, 8, 0, 0, 0, 0, 0])]),
  (67, [true], [(0, .putfield 44, 9, 4, 106, [2]), zz (.aload_n 0), zz (.iconst 0), (0, .putfield 48, 9, 5, 107, [1]), (5, .return_, 0, 0, 0, [])])])
noncomputable def pm_11 : mMt := ((yX10_init, cX10_init, 1, none, 8, 1, []), [(0, [true], [zz (.aload_n 0), (0, .invokespecial 1, 0, 0, 108, []), zz (.aload_n 0), zz (.sipush 2031), (10, .newarray .int, 1, 0, 0, [8, 1])]),
  (10, [true], [(0, .putfield 7, 10, 0, 109, [2]), zz (.aload_n 0), zz (.sipush 2031), (10, .newarray .int, 2, 0, 0, [8, 1])]),
  (19, [true], [(0, .putfield 13, 10, 1, 110, [2]), zz (.aload_n 0), zz (.sipush 200), (10, .newarray .int, 3, 0, 0, [8, 1])]),
  (28, [true], [(0, .putfield 16, 10, 4, 111, [2]), zz (.aload_n 0), zz (.sipush 200), (10, .newarray .int, 4, 0, 0, [8, 1])]),
  (37, [true], [(0, .putfield 19, 10, 6, 112, [2]), zz (.aload_n 0), zz (.bipush 60), (10, .newarray .int, 5, 0, 0, [8, 1])]),
  (45, [true], [(0, .putfield 22, 10, 7, 113, [2]), zz (.aload_n 0), zz (.sipush 200), (10, .newarray .int, 6, 0, 0, [8, 1])]),
  (54, [true], [(0, .putfield 25, 10, 9, 114, [2]), zz (.aload_n 0), zz (.bipush 90), (10, .newarray .int, 7, 0, 0, [8, 1])]),
  (62, [true], [(0, .putfield 28, 10, 12, 115, [2]), zz (.aload_n 0), zz (.iconst (-1)), (0, .putfield 31, 10, 16, 116, [0]), zz (.aload_n 0), zz (.bipush 100), (10, .newarray .int, 8, 0, 0, [8, 1])]),
  (75, [true], [(0, .putfield 35, 10, 17, 117, [2]), zz (.aload_n 0), (0, .getfield 7, 10, 0, 109, []), zz (.sipush 2000), zz (.iconst (-1)), (9, .iastore, 9, 0, 0, [])]),
  (87, [true], [zz (.aload_n 0), (0, .getfield 7, 10, 0, 109, []), zz (.sipush 2002), zz (.bipush 70), (9, .iastore, 10, 0, 0, [])]),
  (97, [true], [zz (.aload_n 0), (0, .getfield 7, 10, 0, 109, []), zz (.sipush 2003), zz (.bipush 50), (9, .iastore, 11, 0, 0, [])]),
  (107, [true], [zz (.aload_n 0), (0, .getfield 7, 10, 0, 109, []), zz (.sipush 2005), zz (.iconst 1), (9, .iastore, 12, 0, 0, [])]),
  (116, [true], [zz (.aload_n 0), (0, .getfield 7, 10, 0, 109, []), zz (.sipush 2006), zz (.iconst 1), (9, .iastore, 13, 0, 0, [])]),
  (125, [true], [zz (.aload_n 0), (0, .getfield 7, 10, 0, 109, []), zz (.sipush 2007), zz (.iconst 1), (9, .iastore, 14, 0, 0, [])]),
  (134, [false], [(5, .return_, 0, 0, 0, [])])])
noncomputable def pm_12 : mMt := ((yX9_isWithin, cX9_isWithin, 2, some .boolean, 0, 2, []), [(0, [true, true], [zz (.iload_n 0), zz (.iload_n 1), zz (.ineg), (3, .if_icmp .lt 12, 3, 1, 0, [])]),
  (6, [true, true], [zz (.iload_n 0), zz (.iload_n 1), (3, .if_icmp .gt 7, 3, 2, 0, [])]),
  (11, [false, false], [zz (.iconst 1), (2, .goto 4, 4, 0, 0, [])]),
  (15, [false, false], [zz (.iconst 0), (1, .return_, 4, 0, 0, [])]),
  (16, [false, false], [(5, .ireturn, 2, 0, 0, [])])])
noncomputable def pm_13 : mMt := ((yX9_isPlace, cX9_isPlace, 3, some .boolean, 0, 3, []), [(0, [true, true, true], [zz (.iload_n 0), zz (.bipush 100), (6, .invokestatic 132, 12, 1, 118, [2, 0, 0, 0, 0, 0, 0, 0, 0])]),
  (6, [false, true, true], [(3, .ifCond .eq 25, 7, 2, 0, [])]),
  (9, [false, true, true], [zz (.iload_n 1), zz (.bipush 100), (6, .invokestatic 132, 12, 3, 118, [2, 0, 0, 0, 0, 0, 0, 0, 0])]),
  (15, [false, false, true], [(3, .ifCond .eq 16, 7, 4, 0, [])]),
  (18, [false, false, true], [zz (.iload_n 2), zz (.bipush 100), (6, .invokestatic 132, 12, 5, 118, [2, 0, 0, 0, 0, 0, 0, 0, 0])]),
  (24, [false, false, false], [(3, .ifCond .eq 7, 7, 6, 0, [])]),
  (27, [false, false, false], [zz (.iconst 1), (2, .goto 4, 8, 0, 0, [])]),
  (31, [false, false, false], [zz (.iconst 0), (1, .return_, 8, 0, 0, [])]),
  (32, [false, false, false], [(5, .ireturn, 2, 0, 0, [])])])
noncomputable def pm_14 : mMt := ((yX9_isLabel, cX9_isLabel, 2, some .boolean, 0, 2, []), [(0, [true, true], [zz (.iload_n 0), (3, .ifCond .lt 23, 5, 1, 0, [])]),
  (4, [true, true], [zz (.iload_n 0), zz (.bipush 99), (3, .if_icmp .gt 17, 5, 2, 0, [])]),
  (10, [false, true], [zz (.iload_n 1), (3, .ifCond .lt 13, 5, 3, 0, [])]),
  (14, [false, true], [zz (.iload_n 1), zz (.bipush 9), (3, .if_icmp .gt 7, 5, 4, 0, [])]),
  (20, [false, false], [zz (.iconst 1), (2, .goto 4, 6, 0, 0, [])]),
  (24, [false, false], [zz (.iconst 0), (1, .return_, 6, 0, 0, [])]),
  (25, [false, false], [(5, .ireturn, 2, 0, 0, [])])])
noncomputable def pm_15 : mMt := ((yX2_hasRoomFor, cX2_hasRoomFor, 2, some .boolean, 0, 2, []), [(0, [true, true], [zz (.aload_n 0), (0, .getfield 28, 2, 5, 6, []), zz (.iload_n 1), zz (.iadd), zz (.bipush 60), (3, .if_icmp .gt 19, 3, 1, 0, [])]),
  (11, [true, true], [zz (.aload_n 0), (0, .getfield 24, 2, 4, 5, []), zz (.iload_n 1), zz (.iadd), zz (.sipush 200), (3, .if_icmp .gt 7, 3, 2, 0, [])]),
  (23, [false, false], [zz (.iconst 1), (2, .goto 4, 4, 0, 0, [])]),
  (27, [false, false], [zz (.iconst 0), (1, .return_, 4, 0, 0, [])]),
  (28, [false, false], [(5, .ireturn, 2, 0, 0, [])])])
noncomputable def pm_16 : mMt := ((yX0_invalidate, cX0_invalidate, 1, none, 0, 1, []), [(0, [true], [zz (.aload_n 0), zz (.iconst 0), (0, .putfield 25, 0, 4, 82, [1]), (5, .return_, 0, 0, 0, [])])])
noncomputable def pm_17 : mMt := ((yX9_put, cX9_put, 3, none, 0, 3, []), [(0, [true, true, true], [zz (.iload_n 1), (3, .ifCond .lt 13, 4, 1, 0, [])]),
  (4, [true, true, true], [zz (.iload_n 1), zz (.aload_n 0), (8, .arraylength, 2, 0, 0, [])]),
  (7, [true, true, true], [(3, .if_icmp .ge 7, 4, 3, 0, [])]),
  (10, [true, true, true], [zz (.aload_n 0), zz (.iload_n 1), zz (.iload_n 2), (9, .iastore, 4, 0, 0, [])]),
  (14, [false, false, false], [(5, .return_, 0, 0, 0, [])])])
noncomputable def pm_18 : mMt := ((yX2_addPoint, cX2_addPoint, 7, some .int, 0, 6, []), [(0, [true, true, true, true, true, true, false], [zz (.aload_n 0), (0, .getfield 24, 2, 4, 5, []), zz (.istore 6), zz (.aload_n 0), (0, .getfield 9, 2, 0, 1, []), zz (.iconst 3), zz (.iload 6), zz (.imul), zz (.iload_n 1), (6, .invokestatic 43, 17, 1, 119, [3, 0, 0, 0, 0, 0, 0, 0, 0])]),
  (18, [true, false, true, true, true, true, true], [zz (.aload_n 0), (0, .getfield 9, 2, 0, 1, []), zz (.iconst 3), zz (.iload 6), zz (.imul), zz (.iconst 1), zz (.iadd), zz (.iload_n 2), (6, .invokestatic 43, 17, 2, 119, [3, 0, 0, 0, 0, 0, 0, 0, 0])]),
  (32, [true, false, false, true, true, true, true], [zz (.aload_n 0), (0, .getfield 9, 2, 0, 1, []), zz (.iconst 3), zz (.iload 6), zz (.imul), zz (.iconst 2), zz (.iadd), zz (.iload_n 3), (6, .invokestatic 43, 17, 3, 119, [3, 0, 0, 0, 0, 0, 0, 0, 0])]),
  (46, [true, false, false, false, true, true, true], [zz (.aload_n 0), (0, .getfield 15, 2, 1, 2, []), zz (.iload 6), zz (.iload 4), (6, .invokestatic 43, 17, 4, 119, [3, 0, 0, 0, 0, 0, 0, 0, 0])]),
  (57, [true, false, false, false, false, true, true], [zz (.aload_n 0), (0, .getfield 18, 2, 2, 3, []), zz (.iload 6), zz (.iload 5), (6, .invokestatic 43, 17, 5, 119, [3, 0, 0, 0, 0, 0, 0, 0, 0])]),
  (68, [true, false, false, false, false, false, true], [zz (.aload_n 0), (0, .getfield 21, 2, 3, 4, []), zz (.iload 6), zz (.iconst 1), (6, .invokestatic 43, 17, 6, 119, [3, 0, 0, 0, 0, 0, 0, 0, 0])]),
  (78, [true, false, false, false, false, false, true], [zz (.aload_n 0), zz (.dup), (0, .getfield 24, 2, 4, 5, []), zz (.iconst 1), zz (.iadd), (0, .putfield 24, 2, 4, 5, [0]), zz (.aload_n 0), zz (.dup), (0, .getfield 28, 2, 5, 6, []), zz (.iconst 1), zz (.iadd), (0, .putfield 28, 2, 5, 6, [0]), zz (.iload 6), (5, .ireturn, 1, 0, 0, [])])])
noncomputable def pm_19 : mMt := ((yX9_valueAt, cX9_valueAt, 2, some .int, 0, 2, []), [(0, [true, true], [zz (.iload_n 1), (3, .ifCond .lt 15, 5, 1, 0, [])]),
  (4, [true, true], [zz (.iload_n 1), zz (.aload_n 0), (8, .arraylength, 2, 0, 0, [])]),
  (7, [true, true], [(3, .if_icmp .ge 9, 5, 3, 0, [])]),
  (10, [true, true], [zz (.aload_n 0), zz (.iload_n 1), (8, .iaload, 4, 0, 0, [])]),
  (13, [false, false], [(2, .goto 4, 6, 0, 0, [])]),
  (16, [false, false], [zz (.iconst (-1)), (1, .return_, 6, 0, 0, [])]),
  (17, [false, false], [(5, .ireturn, 1, 0, 0, [])])])
noncomputable def pm_20 : mMt := ((yX2_coordinateOf, cX2_coordinateOf, 3, some .int, 0, 3, []), [(0, [true, true, true], [zz (.aload_n 0), (0, .getfield 9, 2, 0, 1, []), zz (.iconst 3), zz (.iload_n 1), zz (.imul), zz (.iload_n 2), zz (.iadd), (6, .invokestatic 35, 19, 1, 120, [2, 0, 0, 0, 0, 0, 0, 0, 0])]),
  (12, [false, false, false], [(5, .ireturn, 1, 0, 0, [])])])
noncomputable def pm_21 : mMt := ((yX2_isBefore, cX2_isBefore, 6, some .boolean, 0, 4, []), [(0, [true, true, true, true, false, false], [zz (.aload_n 0), zz (.iload_n 1), zz (.iload_n 3), (6, .invokevirtual 39, 20, 1, 121, [3, 0, 0, 3, 0, 0, 0, 0, 0])]),
  (6, [true, true, true, true, false, false], [zz (.istore 4), zz (.aload_n 0), zz (.iload_n 2), zz (.iload_n 3), (6, .invokevirtual 39, 20, 2, 121, [3, 0, 0, 3, 0, 0, 0, 0, 0])]),
  (14, [false, true, true, false, true, false], [zz (.istore 5), zz (.iload 4), zz (.iload 5), (3, .if_icmp .lt 15, 5, 3, 0, [])]),
  (23, [false, true, true, false, true, true], [zz (.iload 4), zz (.iload 5), (3, .if_icmp .ne 12, 6, 4, 0, [])]),
  (30, [false, true, true, false, false, false], [zz (.iload_n 1), zz (.iload_n 2), (3, .if_icmp .ge 7, 6, 5, 0, [])]),
  (35, [false, false, false, false, false, false], [zz (.iconst 1), (2, .goto 4, 7, 0, 0, [])]),
  (39, [false, false, false, false, false, false], [zz (.iconst 0), (1, .return_, 7, 0, 0, [])]),
  (40, [false, false, false, false, false, false], [(5, .ireturn, 2, 0, 0, [])])])
noncomputable def pm_22 : mMt := ((yX8_hang, cX8_hang, 3, none, 0, 3, []), [(0, [true, true, true], [zz (.iload_n 1), zz (.iconst (-1)), (3, .if_icmp .ne 11, 2, 1, 0, [])]),
  (5, [true, false, true], [zz (.aload_n 0), zz (.iload_n 2), (0, .putfield 46, 8, 11, 23, [0]), (2, .goto 12, 3, 0, 0, [])]),
  (13, [true, true, true], [zz (.aload_n 0), (0, .getfield 9, 8, 1, 11, []), zz (.iload_n 1), zz (.iload_n 2), (6, .invokestatic 73, 17, 3, 122, [3, 0, 0, 0, 0, 0, 0, 0, 0])]),
  (22, [true, false, true], [zz (.iload_n 2), zz (.iconst (-1)), (3, .if_icmp .eq 27, 6, 4, 0, [])]),
  (27, [true, false, true], [zz (.aload_n 0), (0, .getfield 9, 8, 1, 11, []), zz (.iconst 2), zz (.iload_n 2), zz (.imul), zz (.iconst (-1)), (6, .invokestatic 73, 17, 5, 122, [3, 0, 0, 0, 0, 0, 0, 0, 0])]),
  (38, [true, false, true], [zz (.aload_n 0), (0, .getfield 9, 8, 1, 11, []), zz (.iconst 2), zz (.iload_n 2), zz (.imul), zz (.iconst 1), zz (.iadd), zz (.iconst (-1)), (6, .invokestatic 73, 17, 6, 122, [3, 0, 0, 0, 0, 0, 0, 0, 0])]),
  (51, [false, false, false], [(5, .return_, 0, 0, 0, [])])])
noncomputable def pm_23 : mMt := ((yX8_addLeaf, cX8_addLeaf, 5, none, 0, 2, []), [(0, [true, true, false, false, false], [zz (.iconst (-1)), zz (.istore_n 2), zz (.aload_n 0), (0, .getfield 46, 8, 11, 23, []), zz (.istore_n 3), zz (.iconst 0), zz (.istore 4), (1, .return_, 1, 0, 0, [])]),
  (10, [true, true, true, true, true], [zz (.iload 4), zz (.sipush 200), (3, .if_icmp .ge 49, 9, 2, 0, [])]),
  (18, [true, true, true, true, true], [zz (.iload_n 3), zz (.iconst (-1)), (3, .if_icmp .eq 44, 9, 3, 0, [])]),
  (23, [true, true, false, true, true], [zz (.iconst 2), zz (.iload_n 3), zz (.imul), zz (.aload_n 0), (0, .getfield 50, 8, 0, 24, []), zz (.iload_n 1), zz (.iload_n 3), zz (.iload 4), zz (.iconst 3), zz (.irem), (6, .invokevirtual 77, 21, 4, 123, [4, 0, 0, 3, 0, 0, 0, 0, 0])]),
  (39, [true, true, false, false, true], [(3, .ifCond .eq 7, 6, 5, 0, [])]),
  (42, [true, true, false, false, true], [zz (.iconst 0), (2, .goto 4, 7, 0, 0, [])]),
  (46, [true, true, false, false, true], [zz (.iconst 1), (1, .return_, 7, 0, 0, [])]),
  (47, [true, true, false, false, true], [zz (.iadd), zz (.istore_n 2), zz (.aload_n 0), (0, .getfield 9, 8, 1, 11, []), zz (.iload_n 2), (6, .invokestatic 60, 19, 8, 124, [2, 0, 0, 0, 0, 0, 0, 0, 0])]),
  (57, [true, true, true, false, true], [zz (.istore_n 3), zz (.iinc 4 1), (2, .goto (-51), 1, 0, 0, [])]),
  (64, [true, true, true, false, false], [zz (.aload_n 0), zz (.iload_n 2), zz (.iload_n 1), (6, .invokevirtual 83, 22, 10, 125, [3, 0, 0, 9, 0, 0, 0, 0, 0])]),
  (70, [false, false, false, false, false], [(5, .return_, 0, 0, 0, [])])])
noncomputable def pm_24 : mMt := ((yX1_clear, cX1_clear, 1, none, 0, 1, []), [(0, [true], [zz (.aload_n 0), zz (.iconst 0), (0, .putfield 15, 1, 1, 9, [0]), (5, .return_, 0, 0, 0, [])])])
noncomputable def pm_25 : mMt := ((yX1_add, cX1_add, 2, none, 0, 2, []), [(0, [true, true], [zz (.aload_n 0), (0, .getfield 15, 1, 1, 9, []), zz (.sipush 200), (3, .if_icmp .ge 25, 3, 1, 0, [])]),
  (10, [true, true], [zz (.aload_n 0), (0, .getfield 9, 1, 0, 8, []), zz (.aload_n 0), (0, .getfield 15, 1, 1, 9, []), zz (.iload_n 1), (6, .invokestatic 23, 17, 2, 126, [3, 0, 0, 0, 0, 0, 0, 0, 0])]),
  (22, [true, false], [zz (.aload_n 0), zz (.dup), (0, .getfield 15, 1, 1, 9, []), zz (.iconst 1), zz (.iadd), (0, .putfield 15, 1, 1, 9, [0]), (1, .return_, 3, 0, 0, [])]),
  (32, [false, false], [(5, .return_, 0, 0, 0, [])])])
noncomputable def pm_26 : mMt := ((yX8_reach, cX8_reach, 3, none, 0, 3, []), [(0, [true, true, true], [zz (.iload_n 1), zz (.iconst (-1)), (3, .if_icmp .ne 4, 2, 1, 0, [])]),
  (5, [false, false, false], [(5, .return_, 0, 0, 0, [])]),
  (6, [true, true, true], [zz (.aload_n 0), (0, .getfield 15, 8, 2, 12, []), zz (.iload_n 1), zz (.iload_n 2), (6, .invokestatic 73, 17, 3, 122, [3, 0, 0, 0, 0, 0, 0, 0, 0])]),
  (15, [true, true, true], [zz (.aload_n 0), (0, .getfield 18, 8, 3, 13, []), zz (.iload_n 1), zz (.iload_n 2), zz (.iconst (-1)), (3, .if_icmp .ne 7, 5, 4, 0, [])]),
  (25, [true, true, false], [zz (.iconst 0), (2, .goto 13, 7, 0, 0, [])]),
  (29, [true, true, true], [zz (.aload_n 0), (0, .getfield 18, 8, 3, 13, []), zz (.iload_n 2), (6, .invokestatic 60, 19, 6, 124, [2, 0, 0, 0, 0, 0, 0, 0, 0])]),
  (37, [true, true, false], [zz (.iconst 1), zz (.iadd), (1, .return_, 7, 0, 0, [])]),
  (39, [true, true, false], [(6, .invokestatic 73, 17, 8, 122, [3, 0, 0, 0, 0, 0, 0, 0, 0])]),
  (42, [true, true, false], [zz (.aload_n 0), (0, .getfield 43, 8, 10, 22, []), zz (.iload_n 1), (6, .invokevirtual 124, 25, 9, 127, [2, 0, 0, 2, 0, 0, 0, 0, 0])]),
  (50, [false, false, false], [(5, .return_, 0, 0, 0, [])])])
noncomputable def pm_27 : mMt := ((yX1_takeLast, cX1_takeLast, 1, some .int, 0, 1, []), [(0, [true], [zz (.aload_n 0), (0, .getfield 15, 1, 1, 9, []), (3, .ifCond .ne 5, 2, 1, 0, [])]),
  (7, [false], [zz (.iconst (-1)), (5, .ireturn, 1, 0, 0, [])]),
  (9, [true], [zz (.aload_n 0), zz (.dup), (0, .getfield 15, 1, 1, 9, []), zz (.iconst 1), zz (.isub), (0, .putfield 15, 1, 1, 9, [0]), zz (.aload_n 0), (0, .getfield 9, 1, 0, 8, []), zz (.aload_n 0), (0, .getfield 15, 1, 1, 9, []), (6, .invokestatic 19, 19, 3, 128, [2, 0, 0, 0, 0, 0, 0, 0, 0])]),
  (30, [false], [(5, .ireturn, 1, 0, 0, [])])])
noncomputable def pm_28 : mMt := ((yX8_childOf, cX8_childOf, 3, some .int, 0, 3, []), [(0, [true, true, true], [zz (.iload_n 1), (3, .ifCond .ge 7, 2, 1, 0, [])]),
  (4, [false, false, false], [zz (.iconst (-1)), (2, .goto 15, 3, 0, 0, [])]),
  (8, [true, true, true], [zz (.aload_n 0), (0, .getfield 9, 8, 1, 11, []), zz (.iconst 2), zz (.iload_n 1), zz (.imul), zz (.iload_n 2), zz (.iadd), (6, .invokestatic 60, 19, 3, 124, [2, 0, 0, 0, 0, 0, 0, 0, 0])]),
  (20, [false, false, false], [(5, .ireturn, 1, 0, 0, [])])])
noncomputable def pm_29 : mMt := ((yX8_listPreorder, cX8_listPreorder, 3, none, 0, 1, []), [(0, [true, false, false], [zz (.aload_n 0), (0, .getfield 18, 8, 3, 13, []), zz (.iconst (-1)), (6, .invokestatic 54, 2, 1, 25, [2, 0, 0, 0, 0, 0, 0, 0, 0])]),
  (8, [true, false, false], [zz (.aload_n 0), (0, .getfield 39, 8, 9, 21, []), (6, .invokevirtual 114, 24, 2, 129, [1, 0, 0, 2, 0, 0, 0, 0, 0])]),
  (15, [true, false, false], [zz (.aload_n 0), (0, .getfield 43, 8, 10, 22, []), (6, .invokevirtual 114, 24, 3, 129, [1, 0, 0, 2, 0, 0, 0, 0, 0])]),
  (22, [true, false, false], [zz (.aload_n 0), zz (.aload_n 0), (0, .getfield 46, 8, 11, 23, []), zz (.iconst (-1)), (6, .invokevirtual 117, 26, 4, 130, [3, 0, 0, 9, 0, 0, 0, 0, 0])]),
  (31, [true, false, false], [zz (.iconst 0), zz (.istore_n 1), (1, .return_, 5, 0, 0, [])]),
  (33, [true, true, false], [zz (.iload_n 1), zz (.sipush 200), (3, .if_icmp .ge 72, 15, 6, 0, [])]),
  (40, [true, true, false], [zz (.aload_n 0), (0, .getfield 43, 8, 10, 22, []), (0, .getfield 87, 1, 1, 131, []), (3, .ifCond .le 62, 15, 7, 0, [])]),
  (50, [true, true, false], [zz (.aload_n 0), (0, .getfield 43, 8, 10, 22, []), (6, .invokevirtual 120, 27, 8, 132, [1, 0, 0, 2, 0, 0, 0, 0, 0])]),
  (57, [true, true, false], [zz (.istore_n 2), zz (.aload_n 0), (0, .getfield 33, 8, 8, 18, []), zz (.iload_n 2), zz (.aload_n 0), (0, .getfield 39, 8, 9, 21, []), (0, .getfield 87, 1, 1, 131, []), (6, .invokestatic 73, 17, 9, 122, [3, 0, 0, 0, 0, 0, 0, 0, 0])]),
  (73, [true, true, true], [zz (.aload_n 0), (0, .getfield 39, 8, 9, 21, []), zz (.iload_n 2), (6, .invokevirtual 124, 25, 10, 127, [2, 0, 0, 2, 0, 0, 0, 0, 0])]),
  (81, [true, true, true], [zz (.aload_n 0), zz (.aload_n 0), zz (.iload_n 2), zz (.iconst 1), (6, .invokevirtual 70, 28, 11, 133, [3, 0, 0, 9, 0, 0, 0, 0, 0])]),
  (88, [true, true, true], [zz (.iload_n 2), (6, .invokevirtual 117, 26, 12, 130, [3, 0, 0, 9, 0, 0, 0, 0, 0])]),
  (92, [true, true, true], [zz (.aload_n 0), zz (.aload_n 0), zz (.iload_n 2), zz (.iconst 0), (6, .invokevirtual 70, 28, 13, 133, [3, 0, 0, 9, 0, 0, 0, 0, 0])]),
  (99, [true, true, true], [zz (.iload_n 2), (6, .invokevirtual 117, 26, 14, 130, [3, 0, 0, 9, 0, 0, 0, 0, 0])]),
  (103, [true, true, false], [zz (.iinc 1 1), (2, .goto (-73), 5, 0, 0, [])]),
  (109, [false, false, false], [(5, .return_, 0, 0, 0, [])])])
noncomputable def pm_30 : mMt := ((yX1_at, cX1_at, 2, some .int, 0, 2, []), [(0, [true, true], [zz (.aload_n 0), (0, .getfield 9, 1, 0, 8, []), zz (.iload_n 1), (6, .invokestatic 19, 19, 1, 128, [2, 0, 0, 0, 0, 0, 0, 0, 0])]),
  (8, [false, false], [(5, .ireturn, 1, 0, 0, [])])])
noncomputable def pm_31 : mMt := ((yX2_exists, cX2_exists, 2, some .boolean, 0, 2, []), [(0, [true, true], [zz (.iload_n 1), (3, .ifCond .lt 15, 3, 1, 0, [])]),
  (4, [true, true], [zz (.iload_n 1), zz (.aload_n 0), (0, .getfield 24, 2, 4, 5, []), (3, .if_icmp .ge 7, 3, 2, 0, [])]),
  (12, [false, false], [zz (.iconst 1), (2, .goto 4, 4, 0, 0, [])]),
  (16, [false, false], [zz (.iconst 0), (1, .return_, 4, 0, 0, [])]),
  (17, [false, false], [(5, .ireturn, 2, 0, 0, [])])])
noncomputable def pm_32 : mMt := ((yX2_isAlive, cX2_isAlive, 2, some .boolean, 0, 2, []), [(0, [true, true], [zz (.aload_n 0), zz (.iload_n 1), (6, .invokevirtual 31, 31, 1, 134, [2, 0, 0, 3, 0, 0, 0, 0, 0])]),
  (5, [true, true], [(3, .ifCond .eq 19, 5, 2, 0, [])]),
  (8, [true, true], [zz (.aload_n 0), (0, .getfield 21, 2, 3, 4, []), zz (.iload_n 1), (6, .invokestatic 35, 19, 3, 120, [2, 0, 0, 0, 0, 0, 0, 0, 0])]),
  (16, [false, false], [zz (.iconst 1), (3, .if_icmp .ne 7, 5, 4, 0, [])]),
  (20, [false, false], [zz (.iconst 1), (2, .goto 4, 6, 0, 0, [])]),
  (24, [false, false], [zz (.iconst 0), (1, .return_, 6, 0, 0, [])]),
  (25, [false, false], [(5, .ireturn, 2, 0, 0, [])])])
noncomputable def pm_33 : mMt := ((yX8_sizeOf, cX8_sizeOf, 2, some .int, 0, 2, []), [(0, [true, true], [zz (.iload_n 1), (3, .ifCond .ge 7, 2, 1, 0, [])]),
  (4, [false, false], [zz (.iconst 0), (2, .goto 11, 3, 0, 0, [])]),
  (8, [true, true], [zz (.aload_n 0), (0, .getfield 21, 8, 4, 14, []), zz (.iload_n 1), (6, .invokestatic 60, 19, 3, 124, [2, 0, 0, 0, 0, 0, 0, 0, 0])]),
  (16, [false, false], [(5, .ireturn, 1, 0, 0, [])])])
noncomputable def pm_34 : mMt := ((yX8_liveSizeOf, cX8_liveSizeOf, 2, some .int, 0, 2, []), [(0, [true, true], [zz (.iload_n 1), (3, .ifCond .ge 7, 2, 1, 0, [])]),
  (4, [false, false], [zz (.iconst 0), (2, .goto 11, 3, 0, 0, [])]),
  (8, [true, true], [zz (.aload_n 0), (0, .getfield 24, 8, 5, 15, []), zz (.iload_n 1), (6, .invokestatic 60, 19, 3, 124, [2, 0, 0, 0, 0, 0, 0, 0, 0])]),
  (16, [false, false], [(5, .ireturn, 1, 0, 0, [])])])
noncomputable def pm_35 : mMt := ((yX8_lowOf, cX8_lowOf, 3, some .int, 0, 3, []), [(0, [true, true, true], [zz (.iload_n 1), (3, .ifCond .ge 8, 2, 1, 0, [])]),
  (4, [false, false, false], [zz (.bipush 101), (2, .goto 15, 3, 0, 0, [])]),
  (9, [true, true, true], [zz (.aload_n 0), (0, .getfield 27, 8, 6, 16, []), zz (.iconst 3), zz (.iload_n 1), zz (.imul), zz (.iload_n 2), zz (.iadd), (6, .invokestatic 60, 19, 3, 124, [2, 0, 0, 0, 0, 0, 0, 0, 0])]),
  (21, [false, false, false], [(5, .ireturn, 1, 0, 0, [])])])
noncomputable def pm_36 : mMt := ((yX8_highOf, cX8_highOf, 3, some .int, 0, 3, []), [(0, [true, true, true], [zz (.iload_n 1), (3, .ifCond .ge 8, 2, 1, 0, [])]),
  (4, [false, false, false], [zz (.bipush (-101)), (2, .goto 15, 3, 0, 0, [])]),
  (9, [true, true, true], [zz (.aload_n 0), (0, .getfield 30, 8, 7, 17, []), zz (.iconst 3), zz (.iload_n 1), zz (.imul), zz (.iload_n 2), zz (.iadd), (6, .invokestatic 60, 19, 3, 124, [2, 0, 0, 0, 0, 0, 0, 0, 0])]),
  (21, [false, false, false], [(5, .ireturn, 1, 0, 0, [])])])
noncomputable def pm_37 : mMt := ((yX8_summarise, cX8_summarise, 9, none, 0, 2, []), [(0, [true, true, false, false, false, false, false, false, false], [zz (.aload_n 0), zz (.iload_n 1), zz (.iconst 0), (6, .invokevirtual 70, 28, 1, 133, [3, 0, 0, 9, 0, 0, 0, 0, 0])]),
  (6, [true, true, false, false, false, false, false, false, false], [zz (.istore_n 2), zz (.aload_n 0), zz (.iload_n 1), zz (.iconst 1), (6, .invokevirtual 70, 28, 2, 133, [3, 0, 0, 9, 0, 0, 0, 0, 0])]),
  (13, [true, true, true, false, false, false, false, false, false], [zz (.istore_n 3), zz (.aload_n 0), (0, .getfield 50, 8, 0, 24, []), zz (.iload_n 1), (6, .invokevirtual 127, 32, 3, 135, [2, 0, 0, 3, 0, 0, 0, 0, 0])]),
  (22, [true, true, true, true, false, false, false, false, false], [zz (.istore 4), zz (.aload_n 0), (0, .getfield 21, 8, 4, 14, []), zz (.iload_n 1), zz (.iconst 1), zz (.aload_n 0), zz (.iload_n 2), (6, .invokevirtual 131, 33, 4, 136, [2, 0, 0, 9, 0, 0, 0, 0, 0])]),
  (35, [true, true, true, true, true, false, false, false, false], [zz (.iadd), zz (.aload_n 0), zz (.iload_n 3), (6, .invokevirtual 131, 33, 5, 136, [2, 0, 0, 9, 0, 0, 0, 0, 0])]),
  (41, [true, true, true, true, true, false, false, false, false], [zz (.iadd), (6, .invokestatic 73, 17, 6, 122, [3, 0, 0, 0, 0, 0, 0, 0, 0])]),
  (45, [true, true, true, true, true, false, false, false, false], [zz (.aload_n 0), (0, .getfield 24, 8, 5, 15, []), zz (.iload_n 1), zz (.iload 4), (3, .ifCond .eq 7, 8, 7, 0, [])]),
  (55, [true, true, true, true, true, false, false, false, false], [zz (.iconst 1), (2, .goto 4, 9, 0, 0, [])]),
  (59, [true, true, true, true, true, false, false, false, false], [zz (.iconst 0), (1, .return_, 9, 0, 0, [])]),
  (60, [true, true, true, true, true, false, false, false, false], [zz (.aload_n 0), zz (.iload_n 2), (6, .invokevirtual 134, 34, 10, 137, [2, 0, 0, 9, 0, 0, 0, 0, 0])]),
  (65, [true, true, true, true, true, false, false, false, false], [zz (.iadd), zz (.aload_n 0), zz (.iload_n 3), (6, .invokevirtual 134, 34, 11, 137, [2, 0, 0, 9, 0, 0, 0, 0, 0])]),
  (71, [true, true, true, true, true, false, false, false, false], [zz (.iadd), (6, .invokestatic 73, 17, 12, 122, [3, 0, 0, 0, 0, 0, 0, 0, 0])]),
  (75, [true, true, true, true, true, false, false, false, false], [zz (.iconst 0), zz (.istore 5), (1, .return_, 13, 0, 0, [])]),
  (78, [true, true, true, true, true, true, false, false, false], [zz (.iload 5), zz (.iconst 3), (3, .if_icmp .ge 119, 28, 14, 0, [])]),
  (84, [true, true, true, true, true, true, false, false, false], [zz (.aload_n 0), (0, .getfield 50, 8, 0, 24, []), zz (.iload_n 1), zz (.iload 5), (6, .invokevirtual 94, 20, 15, 138, [3, 0, 0, 3, 0, 0, 0, 0, 0])]),
  (94, [true, true, true, true, true, true, false, false, false], [zz (.istore 6), zz (.aload_n 0), zz (.iload_n 2), zz (.iload 5), (6, .invokevirtual 137, 35, 16, 139, [3, 0, 0, 9, 0, 0, 0, 0, 0])]),
  (103, [true, true, true, true, true, true, true, false, false], [zz (.aload_n 0), zz (.iload_n 3), zz (.iload 5), (6, .invokevirtual 137, 35, 17, 139, [3, 0, 0, 9, 0, 0, 0, 0, 0])]),
  (110, [true, true, true, true, true, true, true, false, false], [(0, .invokestatic 140, 2, 0, 140, []), zz (.istore 7), zz (.aload_n 0), zz (.iload_n 2), zz (.iload 5), (6, .invokevirtual 143, 36, 18, 141, [3, 0, 0, 9, 0, 0, 0, 0, 0])]),
  (122, [true, true, true, true, true, true, true, true, false], [zz (.aload_n 0), zz (.iload_n 3), zz (.iload 5), (6, .invokevirtual 143, 36, 19, 141, [3, 0, 0, 9, 0, 0, 0, 0, 0])]),
  (129, [true, true, true, true, true, true, true, true, false], [(0, .invokestatic 64, 1, 0, 142, []), zz (.istore 8), zz (.aload_n 0), (0, .getfield 27, 8, 6, 16, []), zz (.iconst 3), zz (.iload_n 1), zz (.imul), zz (.iload 5), zz (.iadd), zz (.iload 4), (3, .ifCond .eq 13, 21, 20, 0, [])]),
  (149, [true, true, true, true, true, true, true, true, true], [zz (.iload 7), zz (.iload 6), (0, .invokestatic 140, 2, 0, 140, []), (2, .goto 5, 22, 0, 0, [])]),
  (159, [true, true, true, true, true, true, true, true, true], [zz (.iload 7), (1, .return_, 22, 0, 0, [])]),
  (161, [true, true, true, true, true, true, true, false, true], [(6, .invokestatic 73, 17, 23, 122, [3, 0, 0, 0, 0, 0, 0, 0, 0])]),
  (164, [true, true, true, true, true, true, true, false, true], [zz (.aload_n 0), (0, .getfield 30, 8, 7, 17, []), zz (.iconst 3), zz (.iload_n 1), zz (.imul), zz (.iload 5), zz (.iadd), zz (.iload 4), (3, .ifCond .eq 13, 25, 24, 0, [])]),
  (179, [true, true, true, true, true, true, true, false, true], [zz (.iload 8), zz (.iload 6), (0, .invokestatic 64, 1, 0, 142, []), (2, .goto 5, 26, 0, 0, [])]),
  (189, [true, true, true, true, true, true, false, false, true], [zz (.iload 8), (1, .return_, 26, 0, 0, [])]),
  (191, [true, true, true, true, true, true, false, false, false], [(6, .invokestatic 73, 17, 27, 122, [3, 0, 0, 0, 0, 0, 0, 0, 0])]),
  (194, [true, true, true, true, true, true, false, false, false], [zz (.iinc 5 1), (2, .goto (-119), 13, 0, 0, [])]),
  (200, [false, false, false, false, false, false, false, false, false], [(5, .return_, 0, 0, 0, [])])])
noncomputable def pm_38 : mMt := ((yX8_refresh, cX8_refresh, 2, none, 0, 1, []), [(0, [true, false], [zz (.aload_n 0), (6, .invokevirtual 107, 29, 1, 143, [1, 0, 0, 9, 0, 0, 0, 0, 0])]),
  (4, [true, false], [zz (.aload_n 0), (0, .getfield 39, 8, 9, 21, []), (0, .getfield 87, 1, 1, 131, []), zz (.iconst 1), zz (.isub), zz (.istore_n 1), (1, .return_, 2, 0, 0, [])]),
  (14, [true, true], [zz (.iload_n 1), (3, .ifCond .lt 21, 6, 3, 0, [])]),
  (18, [true, true], [zz (.aload_n 0), zz (.aload_n 0), (0, .getfield 39, 8, 9, 21, []), zz (.iload_n 1), (6, .invokevirtual 90, 30, 4, 144, [2, 0, 0, 2, 0, 0, 0, 0, 0])]),
  (27, [true, true], [(6, .invokevirtual 110, 37, 5, 145, [2, 0, 0, 9, 0, 0, 0, 0, 0])]),
  (30, [true, true], [zz (.iinc 1 (-1)), (2, .goto (-19), 2, 0, 0, [])]),
  (36, [false, false], [(5, .return_, 0, 0, 0, [])])])
noncomputable def pm_39 : mMt := ((yX5_optionValue, cX5_optionValue, 2, some .int, 0, 2, []), [(0, [true, true], [zz (.aload_n 0), (0, .getfield 18, 5, 0, 42, []), zz (.iload_n 1), (6, .invokestatic 35, 19, 1, 146, [2, 0, 0, 0, 0, 0, 0, 0, 0])]),
  (8, [false, false], [(5, .ireturn, 1, 0, 0, [])])])
noncomputable def pm_40 : mMt := ((yX6_isUnbalanced, cX6_isUnbalanced, 5, some .boolean, 0, 2, []), [(0, [true, true, false, false, false], [zz (.aload_n 0), (0, .getfield 23, 6, 1, 53, []), zz (.aload_n 0), (0, .getfield 23, 6, 1, 53, []), zz (.iload_n 1), zz (.iconst 0), (6, .invokevirtual 74, 28, 1, 147, [3, 0, 0, 9, 0, 0, 0, 0, 0])]),
  (13, [true, true, false, false, false], [(6, .invokevirtual 78, 33, 2, 148, [2, 0, 0, 9, 0, 0, 0, 0, 0])]),
  (16, [true, true, false, false, false], [zz (.istore_n 2), zz (.aload_n 0), (0, .getfield 23, 6, 1, 53, []), zz (.aload_n 0), (0, .getfield 23, 6, 1, 53, []), zz (.iload_n 1), zz (.iconst 1), (6, .invokevirtual 74, 28, 3, 147, [3, 0, 0, 9, 0, 0, 0, 0, 0])]),
  (30, [true, true, true, false, false], [(6, .invokevirtual 78, 33, 4, 148, [2, 0, 0, 9, 0, 0, 0, 0, 0])]),
  (33, [true, true, true, false, false], [zz (.istore_n 3), zz (.iload_n 2), zz (.iload_n 3), (0, .invokestatic 81, 1, 0, 149, []), zz (.istore 4), zz (.iload 4), zz (.bipush 100), zz (.imul), zz (.aload_n 0), (0, .getfield 39, 6, 3, 59, []), zz (.iconst 0), (6, .invokevirtual 86, 39, 5, 150, [2, 0, 0, 6, 0, 0, 0, 0, 0])]),
  (54, [true, true, false, false, false], [zz (.aload_n 0), (0, .getfield 23, 6, 1, 53, []), zz (.iload_n 1), (6, .invokevirtual 78, 33, 6, 148, [2, 0, 0, 9, 0, 0, 0, 0, 0])]),
  (62, [false, false, false, false, false], [zz (.imul), (3, .if_icmp .le 7, 8, 7, 0, [])]),
  (66, [false, false, false, false, false], [zz (.iconst 1), (2, .goto 4, 9, 0, 0, [])]),
  (70, [false, false, false, false, false], [zz (.iconst 0), (1, .return_, 9, 0, 0, [])]),
  (71, [false, false, false, false, false], [(5, .ireturn, 2, 0, 0, [])])])
noncomputable def pm_41 : mMt := ((yX6_highestUnbalanced, cX6_highestUnbalanced, 5, some .int, 0, 2, []), [(0, [true, true, false, false, false], [zz (.iconst (-1)), zz (.istore_n 2), zz (.iload_n 1), zz (.istore_n 3), zz (.iconst 0), zz (.istore 4), (1, .return_, 1, 0, 0, [])]),
  (7, [true, false, true, true, true], [zz (.iload 4), zz (.sipush 200), (3, .if_icmp .ge 36, 8, 2, 0, [])]),
  (15, [true, false, true, true, true], [zz (.iload_n 3), zz (.iconst (-1)), (3, .if_icmp .eq 31, 8, 3, 0, [])]),
  (20, [true, false, true, true, true], [zz (.aload_n 0), zz (.iload_n 3), (6, .invokevirtual 62, 40, 4, 151, [2, 0, 0, 7, 0, 0, 0, 0, 0])]),
  (25, [true, false, true, true, true], [(3, .ifCond .eq 5, 6, 5, 0, [])]),
  (28, [true, false, false, true, true], [zz (.iload_n 3), zz (.istore_n 2), (1, .return_, 6, 0, 0, [])]),
  (30, [true, false, true, true, true], [zz (.aload_n 0), (0, .getfield 23, 6, 1, 53, []), (0, .getfield 66, 8, 2, 152, []), zz (.iload_n 3), (6, .invokestatic 70, 19, 7, 153, [2, 0, 0, 0, 0, 0, 0, 0, 0])]),
  (41, [true, false, true, false, true], [zz (.istore_n 3), zz (.iinc 4 1), (2, .goto (-38), 1, 0, 0, [])]),
  (48, [false, false, true, false, false], [zz (.iload_n 2), (5, .ireturn, 1, 0, 0, [])])])
noncomputable def pm_42 : mMt := ((yX3_gatherMembers, cX3_gatherMembers, 6, none, 0, 2, []), [(0, [true, true, false, false, false, false], [zz (.aload_n 0), (0, .getfield 18, 3, 3, 30, []), (6, .invokevirtual 84, 24, 1, 154, [1, 0, 0, 2, 0, 0, 0, 0, 0])]),
  (7, [true, true, false, false, false, false], [zz (.aload_n 0), (0, .getfield 42, 3, 1, 37, []), (0, .getfield 87, 8, 8, 155, []), zz (.iload_n 1), (6, .invokestatic 46, 19, 2, 156, [2, 0, 0, 0, 0, 0, 0, 0, 0])]),
  (18, [true, true, false, false, false, false], [zz (.istore_n 2), zz (.iload_n 2), zz (.aload_n 0), (0, .getfield 42, 3, 1, 37, []), zz (.iload_n 1), (6, .invokevirtual 90, 33, 3, 157, [2, 0, 0, 9, 0, 0, 0, 0, 0])]),
  (28, [true, false, true, false, false, false], [zz (.iadd), zz (.istore_n 3), zz (.iload_n 2), zz (.istore 4), (1, .return_, 4, 0, 0, [])]),
  (33, [true, false, false, true, true, false], [zz (.iload 4), zz (.iload_n 3), (3, .if_icmp .ge 44, 10, 5, 0, [])]),
  (39, [true, false, false, true, true, false], [zz (.aload_n 0), (0, .getfield 42, 3, 1, 37, []), (0, .getfield 93, 8, 9, 158, []), zz (.iload 4), (6, .invokevirtual 96, 30, 6, 159, [2, 0, 0, 2, 0, 0, 0, 0, 0])]),
  (51, [true, false, false, true, true, false], [zz (.istore 5), zz (.aload_n 0), (0, .getfield 38, 3, 0, 36, []), zz (.iload 5), (6, .invokevirtual 99, 32, 7, 160, [2, 0, 0, 3, 0, 0, 0, 0, 0])]),
  (62, [true, false, false, true, true, true], [(3, .ifCond .eq 12, 9, 8, 0, [])]),
  (65, [true, false, false, true, true, true], [zz (.aload_n 0), (0, .getfield 18, 3, 3, 30, []), zz (.iload 5), (6, .invokevirtual 105, 25, 9, 161, [2, 0, 0, 2, 0, 0, 0, 0, 0])]),
  (74, [true, false, false, true, true, false], [zz (.iinc 4 1), (2, .goto (-44), 4, 0, 0, [])]),
  (80, [false, false, false, false, false, false], [(5, .return_, 0, 0, 0, [])])])
noncomputable def pm_43 : mMt := ((yX8_slotOf, cX8_slotOf, 3, some .int, 0, 2, []), [(0, [true, true, false], [zz (.aload_n 0), (0, .getfield 15, 8, 2, 12, []), zz (.iload_n 1), (6, .invokestatic 60, 19, 1, 124, [2, 0, 0, 0, 0, 0, 0, 0, 0])]),
  (8, [true, true, false], [zz (.istore_n 2), zz (.iload_n 2), zz (.iconst (-1)), (3, .if_icmp .ne 5, 3, 2, 0, [])]),
  (14, [false, false, false], [zz (.iconst (-1)), (5, .ireturn, 1, 0, 0, [])]),
  (16, [true, true, true], [zz (.iconst 2), zz (.iload_n 2), zz (.imul), zz (.aload_n 0), zz (.iload_n 2), zz (.iconst 0), (6, .invokevirtual 70, 28, 4, 133, [3, 0, 0, 9, 0, 0, 0, 0, 0])]),
  (25, [false, true, false], [zz (.iload_n 1), (3, .if_icmp .ne 7, 6, 5, 0, [])]),
  (29, [false, false, false], [zz (.iconst 0), (2, .goto 4, 7, 0, 0, [])]),
  (33, [false, false, false], [zz (.iconst 1), (1, .return_, 7, 0, 0, [])]),
  (34, [false, false, false], [zz (.iadd), (5, .ireturn, 1, 0, 0, [])])])
noncomputable def pm_44 : mMt := ((yX3_addTask, cX3_addTask, 5, none, 0, 5, []), [(0, [true, true, true, true, true], [zz (.iload_n 1), zz (.iload_n 2), (3, .if_icmp .lt 4, 2, 1, 0, [])]),
  (5, [false, false, false, false, false], [(5, .return_, 0, 0, 0, [])]),
  (6, [true, true, true, true, true], [zz (.aload_n 0), (0, .getfield 22, 3, 4, 31, []), zz (.aload_n 0), (0, .getfield 34, 3, 8, 35, []), zz (.iload_n 1), (6, .invokestatic 50, 17, 3, 162, [3, 0, 0, 0, 0, 0, 0, 0, 0])]),
  (18, [true, false, true, true, true], [zz (.aload_n 0), (0, .getfield 25, 3, 5, 32, []), zz (.aload_n 0), (0, .getfield 34, 3, 8, 35, []), zz (.iload_n 2), (6, .invokestatic 50, 17, 4, 162, [3, 0, 0, 0, 0, 0, 0, 0, 0])]),
  (30, [true, false, false, true, true], [zz (.aload_n 0), (0, .getfield 28, 3, 6, 33, []), zz (.aload_n 0), (0, .getfield 34, 3, 8, 35, []), zz (.iload_n 3), (6, .invokestatic 50, 17, 5, 162, [3, 0, 0, 0, 0, 0, 0, 0, 0])]),
  (42, [true, false, false, false, true], [zz (.aload_n 0), (0, .getfield 31, 3, 7, 34, []), zz (.aload_n 0), (0, .getfield 34, 3, 8, 35, []), zz (.iload 4), (6, .invokestatic 50, 17, 6, 162, [3, 0, 0, 0, 0, 0, 0, 0, 0])]),
  (55, [true, false, false, false, false], [zz (.aload_n 0), zz (.dup), (0, .getfield 34, 3, 8, 35, []), zz (.iconst 1), zz (.iadd), (0, .putfield 34, 3, 8, 35, [0]), (5, .return_, 0, 0, 0, [])])])
noncomputable def pm_45 : mMt := ((yX3_sortMembers, cX3_sortMembers, 7, none, 0, 4, []), [(0, [true, true, true, true, false, false, false], [zz (.iload_n 1), zz (.iconst 1), zz (.iadd), zz (.istore 4), (1, .return_, 1, 0, 0, [])]),
  (5, [true, true, true, true, true, false, false], [zz (.iload 4), zz (.iload_n 2), (3, .if_icmp .ge 97, 13, 2, 0, [])]),
  (11, [true, true, true, true, true, false, false], [zz (.aload_n 0), (0, .getfield 18, 3, 3, 30, []), zz (.iload 4), (6, .invokevirtual 96, 30, 3, 159, [2, 0, 0, 2, 0, 0, 0, 0, 0])]),
  (20, [true, true, true, true, true, false, false], [zz (.istore 5), zz (.iload 4), zz (.istore 6), (1, .return_, 4, 0, 0, [])]),
  (26, [true, true, true, true, true, true, true], [zz (.iload 6), zz (.iload_n 1), (3, .if_icmp .le 56, 11, 5, 0, [])]),
  (32, [true, true, true, true, true, true, true], [zz (.aload_n 0), (0, .getfield 38, 3, 0, 36, []), zz (.iload 5), zz (.aload_n 0), (0, .getfield 18, 3, 3, 30, []), zz (.iload 6), zz (.iconst 1), zz (.isub), (6, .invokevirtual 96, 30, 6, 159, [2, 0, 0, 2, 0, 0, 0, 0, 0])]),
  (49, [true, true, true, true, true, true, true], [zz (.iload_n 3), (6, .invokevirtual 112, 21, 7, 163, [4, 0, 0, 3, 0, 0, 0, 0, 0])]),
  (53, [true, true, true, true, true, true, true], [(3, .ifCond .eq 32, 11, 8, 0, [])]),
  (56, [true, true, true, true, true, true, true], [zz (.aload_n 0), (0, .getfield 18, 3, 3, 30, []), (0, .getfield 116, 1, 0, 164, []), zz (.iload 6), zz (.aload_n 0), (0, .getfield 18, 3, 3, 30, []), zz (.iload 6), zz (.iconst 1), zz (.isub), (6, .invokevirtual 96, 30, 9, 159, [2, 0, 0, 2, 0, 0, 0, 0, 0])]),
  (76, [true, true, true, true, true, true, true], [(6, .invokestatic 50, 17, 10, 162, [3, 0, 0, 0, 0, 0, 0, 0, 0])]),
  (79, [true, true, true, true, true, true, true], [zz (.iinc 6 (-1)), (2, .goto (-56), 4, 0, 0, [])]),
  (85, [true, true, true, true, true, true, true], [zz (.aload_n 0), (0, .getfield 18, 3, 3, 30, []), (0, .getfield 116, 1, 0, 164, []), zz (.iload 6), zz (.iload 5), (6, .invokestatic 50, 17, 12, 162, [3, 0, 0, 0, 0, 0, 0, 0, 0])]),
  (99, [true, true, true, true, true, false, false], [zz (.iinc 4 1), (2, .goto (-97), 1, 0, 0, [])]),
  (105, [false, false, false, false, false, false, false], [(5, .return_, 0, 0, 0, [])])])
noncomputable def pm_46 : mMt := ((yX3_doTask, cX3_doTask, 7, none, 0, 2, []), [(0, [true, true, false, false, false, false, false], [zz (.aload_n 0), (0, .getfield 22, 3, 4, 31, []), zz (.iload_n 1), (6, .invokestatic 46, 19, 1, 156, [2, 0, 0, 0, 0, 0, 0, 0, 0])]),
  (8, [true, true, false, false, false, false, false], [zz (.istore_n 2), zz (.aload_n 0), (0, .getfield 25, 3, 5, 32, []), zz (.iload_n 1), (6, .invokestatic 46, 19, 2, 156, [2, 0, 0, 0, 0, 0, 0, 0, 0])]),
  (17, [true, true, true, false, false, false, false], [zz (.istore_n 3), zz (.aload_n 0), (0, .getfield 28, 3, 6, 33, []), zz (.iload_n 1), (6, .invokestatic 46, 19, 3, 156, [2, 0, 0, 0, 0, 0, 0, 0, 0])]),
  (26, [true, true, true, true, false, false, false], [zz (.istore 4), zz (.aload_n 0), zz (.iload_n 2), zz (.iload_n 3), zz (.iload 4), zz (.iconst 3), zz (.irem), (6, .invokevirtual 108, 45, 4, 165, [4, 0, 0, 4, 0, 0, 0, 0, 0])]),
  (38, [true, true, true, true, true, false, false], [zz (.iload_n 2), zz (.iload_n 3), zz (.iload_n 2), zz (.isub), zz (.iconst 2), zz (.idiv), zz (.iadd), zz (.istore 5), zz (.aload_n 0), (0, .getfield 18, 3, 3, 30, []), zz (.iload 5), (6, .invokevirtual 96, 30, 5, 159, [2, 0, 0, 2, 0, 0, 0, 0, 0])]),
  (56, [true, true, true, true, true, true, false], [zz (.istore 6), zz (.aload_n 0), (0, .getfield 42, 3, 1, 37, []), zz (.aload_n 0), (0, .getfield 31, 3, 7, 34, []), zz (.iload_n 1), (6, .invokestatic 46, 19, 6, 156, [2, 0, 0, 0, 0, 0, 0, 0, 0])]),
  (70, [true, false, true, true, true, true, true], [zz (.iload 6), (6, .invokevirtual 67, 22, 7, 166, [3, 0, 0, 9, 0, 0, 0, 0, 0])]),
  (75, [true, false, true, true, true, true, true], [zz (.aload_n 0), zz (.iload_n 2), zz (.iload 5), zz (.iload 4), zz (.iconst 1), zz (.iadd), zz (.iconst 2), zz (.iload 6), zz (.imul), (6, .invokevirtual 74, 44, 8, 167, [5, 0, 0, 4, 0, 0, 0, 0, 0])]),
  (90, [true, false, false, true, true, true, true], [zz (.aload_n 0), zz (.iload 5), zz (.iconst 1), zz (.iadd), zz (.iload_n 3), zz (.iload 4), zz (.iconst 1), zz (.iadd), zz (.iconst 2), zz (.iload 6), zz (.imul), zz (.iconst 1), zz (.iadd), (6, .invokevirtual 74, 44, 9, 167, [5, 0, 0, 4, 0, 0, 0, 0, 0])]),
  (109, [false, false, false, false, false, false, false], [(5, .return_, 0, 0, 0, [])])])
noncomputable def pm_47 : mMt := ((yX3_rebuildAt, cX3_rebuildAt, 5, none, 0, 3, []), [(0, [true, true, true, false, false], [zz (.aload_n 0), (0, .getfield 9, 3, 2, 27, []), zz (.iload_n 2), zz (.aload_n 0), (0, .getfield 9, 3, 2, 27, []), zz (.iload_n 2), (6, .invokestatic 46, 19, 1, 156, [2, 0, 0, 0, 0, 0, 0, 0, 0])]),
  (13, [true, true, false, false, false], [zz (.iconst 1), zz (.iadd), (6, .invokestatic 50, 17, 2, 162, [3, 0, 0, 0, 0, 0, 0, 0, 0])]),
  (18, [true, true, false, false, false], [zz (.iload_n 1), zz (.iconst (-1)), (3, .if_icmp .ne 4, 4, 3, 0, [])]),
  (23, [false, false, false, false, false], [(5, .return_, 0, 0, 0, [])]),
  (24, [true, true, false, false, false], [zz (.aload_n 0), zz (.iload_n 1), (6, .invokevirtual 54, 42, 5, 168, [2, 0, 0, 4, 0, 0, 0, 0, 0])]),
  (29, [true, true, false, false, false], [zz (.aload_n 0), (0, .getfield 9, 3, 2, 27, []), zz (.iconst 3), zz (.aload_n 0), (0, .getfield 9, 3, 2, 27, []), zz (.iconst 3), (6, .invokestatic 46, 19, 6, 156, [2, 0, 0, 0, 0, 0, 0, 0, 0])]),
  (42, [true, true, false, false, false], [zz (.aload_n 0), (0, .getfield 18, 3, 3, 30, []), (0, .getfield 58, 1, 1, 169, []), zz (.iadd), (6, .invokestatic 50, 17, 7, 162, [3, 0, 0, 0, 0, 0, 0, 0, 0])]),
  (53, [true, true, false, false, false], [zz (.aload_n 0), (0, .getfield 42, 3, 1, 37, []), zz (.iload_n 1), (6, .invokevirtual 61, 43, 8, 170, [2, 0, 0, 9, 0, 0, 0, 0, 0])]),
  (61, [true, true, false, false, false], [zz (.istore_n 3), zz (.aload_n 0), (0, .getfield 42, 3, 1, 37, []), zz (.iload_n 3), zz (.iconst (-1)), (6, .invokevirtual 67, 22, 9, 166, [3, 0, 0, 9, 0, 0, 0, 0, 0])]),
  (71, [true, true, false, true, false], [zz (.aload_n 0), zz (.iconst 0), (0, .putfield 34, 3, 8, 35, [0]), zz (.aload_n 0), zz (.iconst 0), zz (.aload_n 0), (0, .getfield 18, 3, 3, 30, []), (0, .getfield 58, 1, 1, 169, []), zz (.aload_n 0), (0, .getfield 42, 3, 1, 37, []), (0, .getfield 71, 8, 3, 171, []), zz (.iload_n 1), (6, .invokestatic 46, 19, 10, 156, [2, 0, 0, 0, 0, 0, 0, 0, 0])]),
  (96, [true, false, false, true, false], [zz (.iload_n 3), (6, .invokevirtual 74, 44, 11, 167, [5, 0, 0, 4, 0, 0, 0, 0, 0])]),
  (100, [true, false, false, false, false], [zz (.iconst 0), zz (.istore 4), (1, .return_, 12, 0, 0, [])]),
  (103, [true, false, false, false, true], [zz (.iload 4), zz (.aload_n 0), (0, .getfield 34, 3, 8, 35, []), (3, .if_icmp .ge 22, 16, 13, 0, [])]),
  (112, [true, false, false, false, true], [zz (.iload 4), zz (.bipush 60), (3, .if_icmp .ge 15, 16, 14, 0, [])]),
  (119, [true, false, false, false, true], [zz (.aload_n 0), zz (.iload 4), (6, .invokevirtual 78, 46, 15, 172, [2, 0, 0, 4, 0, 0, 0, 0, 0])]),
  (125, [true, false, false, false, true], [zz (.iinc 4 1), (2, .goto (-25), 12, 0, 0, [])]),
  (131, [true, false, false, false, false], [zz (.aload_n 0), (0, .getfield 42, 3, 1, 37, []), (6, .invokevirtual 81, 38, 17, 173, [1, 0, 0, 9, 0, 0, 0, 0, 0])]),
  (138, [false, false, false, false, false], [(5, .return_, 0, 0, 0, [])])])
noncomputable def pm_48 : mMt := ((yX6_createPoint, cX6_createPoint, 8, some .int, 0, 6, []), [(0, [true, true, true, true, true, true, false, false], [zz (.aload_n 0), (0, .getfield 12, 6, 0, 50, []), zz (.iload_n 1), zz (.iload_n 2), zz (.iload_n 3), zz (.iload 4), zz (.iload 5), (6, .invokevirtual 43, 18, 1, 174, [6, 0, 0, 3, 0, 0, 0, 0, 0])]),
  (14, [true, false, false, false, false, false, false, false], [zz (.istore 6), zz (.aload_n 0), (0, .getfield 23, 6, 1, 53, []), zz (.iload 6), (6, .invokevirtual 47, 23, 2, 175, [2, 0, 0, 9, 0, 0, 0, 0, 0])]),
  (25, [true, false, false, false, false, false, true, false], [zz (.aload_n 0), (0, .getfield 23, 6, 1, 53, []), (6, .invokevirtual 51, 38, 3, 176, [1, 0, 0, 9, 0, 0, 0, 0, 0])]),
  (32, [true, false, false, false, false, false, true, false], [zz (.aload_n 0), zz (.iload 6), (6, .invokevirtual 54, 41, 4, 177, [2, 0, 0, 7, 0, 0, 0, 0, 0])]),
  (38, [true, false, false, false, false, false, true, false], [zz (.istore 7), zz (.iload 7), zz (.iconst (-1)), (3, .if_icmp .eq 13, 6, 5, 0, [])]),
  (46, [true, false, false, false, false, false, true, true], [zz (.aload_n 0), (0, .getfield 32, 6, 2, 56, []), zz (.iload 7), zz (.iconst 0), (6, .invokevirtual 58, 47, 6, 178, [3, 0, 0, 4, 0, 0, 0, 0, 0])]),
  (56, [false, false, false, false, false, false, true, false], [zz (.iload 6), (5, .ireturn, 1, 0, 0, [])])])
noncomputable def pm_49 : mMt := ((yX9_insert, cX9_insert, 6, some .int, 1, 6, []), [(0, [true, true, true, true, true, true], [zz (.iload_n 1), zz (.iload_n 2), zz (.iload_n 3), (6, .invokestatic 52, 13, 1, 179, [3, 0, 1, 0, 0, 0, 0, 0, 0])]),
  (6, [true, true, true, true, true, true], [(3, .ifCond .eq 13, 4, 2, 0, [])]),
  (9, [true, true, true, true, true, true], [zz (.iload 4), zz (.iload 5), (6, .invokestatic 56, 14, 3, 180, [2, 0, 1, 0, 0, 0, 0, 0, 0])]),
  (16, [true, true, true, true, true, true], [(3, .ifCond .ne 13, 5, 4, 0, [])]),
  (19, [false, false, false, false, false, false], [(7, .new 60, 0, 0, 181, [1, 182])]),
  (29, [true, true, true, true, true, true], [zz (.aload_n 0), (0, .getfield 10, 9, 0, 95, []), (0, .getfield 67, 6, 0, 183, []), zz (.iconst 1), (6, .invokevirtual 71, 15, 6, 184, [2, 0, 1, 3, 0, 0, 0, 0, 0])]),
  (40, [true, true, true, true, true, true], [(3, .ifCond .ne 13, 8, 7, 0, [])]),
  (43, [false, false, false, false, false, false], [(7, .new 77, 1, 0, 185, [1, 186])]),
  (53, [true, true, true, true, true, true], [zz (.aload_n 0), (0, .getfield 37, 9, 3, 103, []), (6, .invokevirtual 82, 16, 9, 187, [1, 0, 1, 1, 0, 0, 0, 0, 0])]),
  (60, [true, true, true, true, true, true], [zz (.aload_n 0), (0, .getfield 10, 9, 0, 95, []), zz (.iload_n 1), zz (.iload_n 2), zz (.iload_n 3), zz (.iload 4), zz (.iload 5), (6, .invokevirtual 85, 48, 10, 188, [6, 0, 1, 7, 0, 0, 0, 0, 0])]),
  (74, [false, false, false, false, false, false], [(5, .ireturn, 1, 0, 0, [])])])
noncomputable def pm_50 : mMt := ((yL_insert, cL_insert, 8, some .int, 1, 7, [(0, 16, 19, 13), (0, 16, 23, 15)]), [(0, [true, true, true, true, true, true, true, false], [zz (.aload 6), zz (.iconst 0), zz (.aload_n 0), zz (.iload_n 1), zz (.iload_n 2), zz (.iload_n 3), zz (.iload 4), zz (.iload 5), (6, .invokevirtual 7, 49, 1, 189, [6, 1, 1, 10, 5, 6, 1, 1, 1])]),
  (14, [false, false, false, false, false, false, false, false], [zz (.i2l), (9, .lastore, 2, 0, 0, [])]),
  (16, [false, false, false, false, false, false, false, false], [(2, .goto 11, 5, 0, 0, [])]),
  (19, [false, false, false, false, false, false, false, false], [zz (.astore 7), zz (.iconst 1), (5, .ireturn, 1, 0, 0, [])]),
  (23, [false, false, false, false, false, false, false, false], [zz (.astore 7), zz (.iconst 2), (5, .ireturn, 1, 0, 0, [])]),
  (27, [false, false, false, false, false, false, false, false], [zz (.iconst 0), (5, .ireturn, 1, 0, 0, [])])])
noncomputable def pm_51 : mMt := ((yX10_in, cX10_in, 3, some .boolean, 0, 3, []), [(0, [true, true, true], [zz (.iload_n 0), zz (.iload_n 1), (3, .if_icmp .lt 12, 3, 1, 0, [])]),
  (5, [true, false, true], [zz (.iload_n 0), zz (.iload_n 2), (3, .if_icmp .gt 7, 3, 2, 0, [])]),
  (10, [false, false, false], [zz (.iconst 1), (2, .goto 4, 4, 0, 0, [])]),
  (14, [false, false, false], [zz (.iconst 0), (1, .return_, 4, 0, 0, [])]),
  (15, [false, false, false], [(5, .ireturn, 2, 0, 0, [])])])
noncomputable def pm_52 : mMt := ((yX10_isPlace, cX10_isPlace, 3, some .boolean, 0, 3, []), [(0, [true, true, true], [zz (.iload_n 0), zz (.bipush (-100)), zz (.bipush 100), (6, .invokestatic 41, 51, 1, 190, [3, 0, 0, 0, 0, 0, 0, 0, 0])]),
  (8, [false, true, true], [(3, .ifCond .eq 29, 7, 2, 0, [])]),
  (11, [false, true, true], [zz (.iload_n 1), zz (.bipush (-100)), zz (.bipush 100), (6, .invokestatic 41, 51, 3, 190, [3, 0, 0, 0, 0, 0, 0, 0, 0])]),
  (19, [false, false, true], [(3, .ifCond .eq 18, 7, 4, 0, [])]),
  (22, [false, false, true], [zz (.iload_n 2), zz (.bipush (-100)), zz (.bipush 100), (6, .invokestatic 41, 51, 5, 190, [3, 0, 0, 0, 0, 0, 0, 0, 0])]),
  (30, [false, false, false], [(3, .ifCond .eq 7, 7, 6, 0, [])]),
  (33, [false, false, false], [zz (.iconst 1), (2, .goto 4, 8, 0, 0, [])]),
  (37, [false, false, false], [zz (.iconst 0), (1, .return_, 8, 0, 0, [])]),
  (38, [false, false, false], [(5, .ireturn, 2, 0, 0, [])])])
noncomputable def pm_53 : mMt := ((yX10_fails, cX10_fails, 2, some .int, 0, 2, []), [(0, [true, true], [zz (.aload_n 0), zz (.iload_n 1), (0, .putfield 38, 10, 3, 191, [0]), zz (.iconst 0), (5, .ireturn, 1, 0, 0, [])])])
noncomputable def pm_54 : mMt := ((yX10_lives, cX10_lives, 3, some .int, 0, 1, []), [(0, [true, false, false], [zz (.iconst 0), zz (.istore_n 1), zz (.iconst 0), zz (.istore_n 2), (1, .return_, 1, 0, 0, [])]),
  (4, [true, true, true], [zz (.iload_n 2), zz (.aload_n 0), (0, .getfield 7, 10, 0, 109, []), zz (.sipush 2001), (8, .iaload, 2, 0, 0, [])]),
  (13, [true, true, true], [(3, .if_icmp .ge 22, 5, 3, 0, [])]),
  (16, [true, true, true], [zz (.iload_n 1), zz (.aload_n 0), (0, .getfield 7, 10, 0, 109, []), zz (.sipush 1000), zz (.iload_n 2), zz (.iadd), (8, .iaload, 4, 0, 0, [])]),
  (27, [true, false, true], [zz (.iadd), zz (.istore_n 1), zz (.iinc 2 1), (2, .goto (-28), 1, 0, 0, [])]),
  (35, [false, true, false], [zz (.iload_n 1), (5, .ireturn, 1, 0, 0, [])])])
noncomputable def pm_55 : mMt := ((yX10_isBefore, cX10_isBefore, 6, some .boolean, 0, 4, []), [(0, [true, true, true, true, false, false], [zz (.aload_n 0), (0, .getfield 7, 10, 0, 109, []), zz (.iconst 3), zz (.iload_n 1), zz (.imul), zz (.iload_n 3), zz (.iadd), (8, .iaload, 1, 0, 0, [])]),
  (10, [true, true, true, true, false, false], [zz (.istore 4), zz (.aload_n 0), (0, .getfield 7, 10, 0, 109, []), zz (.iconst 3), zz (.iload_n 2), zz (.imul), zz (.iload_n 3), zz (.iadd), (8, .iaload, 2, 0, 0, [])]),
  (22, [false, true, true, false, true, false], [zz (.istore 5), zz (.iload 4), zz (.iload 5), (3, .if_icmp .lt 15, 5, 3, 0, [])]),
  (31, [false, true, true, false, true, true], [zz (.iload 4), zz (.iload 5), (3, .if_icmp .ne 12, 6, 4, 0, [])]),
  (38, [false, true, true, false, false, false], [zz (.iload_n 1), zz (.iload_n 2), (3, .if_icmp .ge 7, 6, 5, 0, [])]),
  (43, [false, false, false, false, false, false], [zz (.iconst 1), (2, .goto 4, 7, 0, 0, [])]),
  (47, [false, false, false, false, false, false], [zz (.iconst 0), (1, .return_, 7, 0, 0, [])]),
  (48, [false, false, false, false, false, false], [(5, .ireturn, 2, 0, 0, [])])])
noncomputable def pm_56 : mMt := ((yX10_next, cX10_next, 4, some .int, 0, 4, []), [(0, [true, true, true, true], [zz (.aload_n 0), zz (.iload_n 2), zz (.iload_n 1), zz (.iload_n 3), zz (.iconst 3), zz (.irem), (6, .invokevirtual 72, 55, 1, 192, [4, 0, 0, 11, 0, 0, 0, 0, 0])]),
  (9, [true, true, false, false], [(3, .ifCond .eq 16, 4, 2, 0, [])]),
  (12, [true, true, false, false], [zz (.aload_n 0), (0, .getfield 7, 10, 0, 109, []), zz (.sipush 1400), zz (.iload_n 1), zz (.iadd), (8, .iaload, 3, 0, 0, [])]),
  (22, [false, false, false, false], [(2, .goto 13, 5, 0, 0, [])]),
  (25, [true, true, false, false], [zz (.aload_n 0), (0, .getfield 7, 10, 0, 109, []), zz (.sipush 1600), zz (.iload_n 1), zz (.iadd), (8, .iaload, 5, 0, 0, [])]),
  (35, [false, false, false, false], [(5, .ireturn, 1, 0, 0, [])])])
noncomputable def pm_57 : mMt := ((yX10_hangs, cX10_hangs, 5, none, 0, 2, []), [(0, [true, true, false, false, false], [zz (.iconst (-1)), zz (.istore_n 2), zz (.iconst 0), zz (.istore_n 3), zz (.aload_n 0), (0, .getfield 7, 10, 0, 109, []), zz (.sipush 2000), (8, .iaload, 1, 0, 0, [])]),
  (12, [true, true, true, true, false], [zz (.istore 4), (1, .return_, 2, 0, 0, [])]),
  (14, [true, true, true, true, true], [zz (.iload 4), (3, .ifCond .lt 24, 5, 3, 0, [])]),
  (19, [true, true, false, true, true], [zz (.iload 4), zz (.istore_n 2), zz (.iinc 3 1), zz (.aload_n 0), zz (.iload 4), zz (.iload_n 1), zz (.iload_n 3), zz (.iconst 1), zz (.isub), (6, .invokevirtual 86, 56, 4, 193, [4, 0, 0, 11, 0, 0, 0, 0, 0])]),
  (35, [true, true, true, true, false], [zz (.istore 4), (2, .goto (-23), 2, 0, 0, [])]),
  (40, [true, true, true, true, false], [zz (.aload_n 0), (0, .getfield 7, 10, 0, 109, []), zz (.sipush 1800), zz (.iload_n 1), zz (.iadd), zz (.iload_n 2), (9, .iastore, 6, 0, 0, [])]),
  (51, [true, true, true, true, false], [zz (.iload_n 2), (3, .ifCond .ge 15, 9, 7, 0, [])]),
  (55, [true, true, false, false, false], [zz (.aload_n 0), (0, .getfield 7, 10, 0, 109, []), zz (.sipush 2000), zz (.iload_n 1), (9, .iastore, 8, 0, 0, [])]),
  (64, [false, false, false, false, false], [(2, .goto 42, 14, 0, 0, [])]),
  (67, [true, true, true, true, false], [zz (.aload_n 0), zz (.iload_n 1), zz (.iload_n 2), zz (.iload_n 3), zz (.iconst 1), zz (.isub), zz (.iconst 3), zz (.irem), (6, .invokevirtual 72, 55, 10, 192, [4, 0, 0, 11, 0, 0, 0, 0, 0])]),
  (78, [true, true, true, false, false], [(3, .ifCond .eq 17, 13, 11, 0, [])]),
  (81, [true, true, true, false, false], [zz (.aload_n 0), (0, .getfield 7, 10, 0, 109, []), zz (.sipush 1400), zz (.iload_n 2), zz (.iadd), zz (.iload_n 1), (9, .iastore, 12, 0, 0, [])]),
  (92, [false, false, false, false, false], [(2, .goto 14, 14, 0, 0, [])]),
  (95, [true, true, true, false, false], [zz (.aload_n 0), (0, .getfield 7, 10, 0, 109, []), zz (.sipush 1600), zz (.iload_n 2), zz (.iadd), zz (.iload_n 1), (9, .iastore, 14, 0, 0, [])]),
  (106, [false, false, false, false, false], [(5, .return_, 0, 0, 0, [])])])
noncomputable def pm_58 : mMt := ((yX10_sizeOf, cX10_sizeOf, 2, some .int, 0, 2, []), [(0, [true, true], [zz (.iload_n 1), (3, .ifCond .ge 7, 2, 1, 0, [])]),
  (4, [false, false], [zz (.iconst 0), (2, .goto 34, 7, 0, 0, [])]),
  (8, [true, true], [zz (.iconst 1), zz (.aload_n 0), zz (.aload_n 0), (0, .getfield 7, 10, 0, 109, []), zz (.sipush 1400), zz (.iload_n 1), zz (.iadd), (8, .iaload, 3, 0, 0, [])]),
  (20, [true, true], [(6, .invokevirtual 55, 58, 4, 194, [2, 0, 0, 11, 0, 0, 0, 0, 0])]),
  (23, [true, true], [zz (.iadd), zz (.aload_n 0), zz (.aload_n 0), (0, .getfield 7, 10, 0, 109, []), zz (.sipush 1600), zz (.iload_n 1), zz (.iadd), (8, .iaload, 5, 0, 0, [])]),
  (35, [false, false], [(6, .invokevirtual 55, 58, 6, 194, [2, 0, 0, 11, 0, 0, 0, 0, 0])]),
  (38, [false, false], [zz (.iadd), (1, .return_, 7, 0, 0, [])]),
  (39, [false, false], [(5, .ireturn, 1, 0, 0, [])])])
noncomputable def pm_59 : mMt := ((yX10_isUneven, cX10_isUneven, 4, some .boolean, 0, 2, []), [(0, [true, true, false, false], [zz (.aload_n 0), zz (.aload_n 0), (0, .getfield 7, 10, 0, 109, []), zz (.sipush 1400), zz (.iload_n 1), zz (.iadd), (8, .iaload, 1, 0, 0, [])]),
  (11, [true, true, false, false], [(6, .invokevirtual 55, 58, 2, 194, [2, 0, 0, 11, 0, 0, 0, 0, 0])]),
  (14, [true, true, false, false], [zz (.istore_n 2), zz (.aload_n 0), zz (.aload_n 0), (0, .getfield 7, 10, 0, 109, []), zz (.sipush 1600), zz (.iload_n 1), zz (.iadd), (8, .iaload, 3, 0, 0, [])]),
  (26, [true, false, true, false], [(6, .invokevirtual 55, 58, 4, 194, [2, 0, 0, 11, 0, 0, 0, 0, 0])]),
  (29, [true, false, true, false], [zz (.istore_n 3), zz (.bipush 100), zz (.iload_n 2), zz (.iload_n 3), (3, .if_icmp .le 7, 6, 5, 0, [])]),
  (37, [true, false, true, true], [zz (.iload_n 2), (2, .goto 4, 7, 0, 0, [])]),
  (41, [true, false, true, true], [zz (.iload_n 3), (1, .return_, 7, 0, 0, [])]),
  (42, [true, false, true, true], [zz (.imul), zz (.aload_n 0), (0, .getfield 7, 10, 0, 109, []), zz (.sipush 2002), (8, .iaload, 8, 0, 0, [])]),
  (51, [false, false, true, true], [zz (.iconst 1), zz (.iload_n 2), zz (.iadd), zz (.iload_n 3), zz (.iadd), zz (.imul), (3, .if_icmp .le 7, 10, 9, 0, [])]),
  (60, [false, false, false, false], [zz (.iconst 1), (2, .goto 4, 11, 0, 0, [])]),
  (64, [false, false, false, false], [zz (.iconst 0), (1, .return_, 11, 0, 0, [])]),
  (65, [false, false, false, false], [(5, .ireturn, 2, 0, 0, [])])])
end
section
/-! THE BLOCKS OF THE METHODS, 1 -/
noncomputable def pm_60 : mMt := ((yX10_depthOf, cX10_depthOf, 4, some .int, 0, 2, []), [(0, [true, true, false, false], [zz (.iconst 0), zz (.istore_n 2), zz (.aload_n 0), (0, .getfield 7, 10, 0, 109, []), zz (.sipush 1800), zz (.iload_n 1), zz (.iadd), (8, .iaload, 1, 0, 0, [])]),
  (12, [true, false, true, false], [zz (.istore_n 3), (1, .return_, 2, 0, 0, [])]),
  (13, [true, false, true, true], [zz (.iload_n 3), (3, .ifCond .lt 20, 5, 3, 0, [])]),
  (17, [true, false, true, true], [zz (.iinc 2 1), zz (.aload_n 0), (0, .getfield 7, 10, 0, 109, []), zz (.sipush 1800), zz (.iload_n 3), zz (.iadd), (8, .iaload, 4, 0, 0, [])]),
  (30, [true, false, true, false], [zz (.istore_n 3), (2, .goto (-18), 2, 0, 0, [])]),
  (34, [false, false, true, false], [zz (.iload_n 2), (5, .ireturn, 1, 0, 0, [])])])
noncomputable def pm_61 : mMt := ((yX10_gathers, cX10_gathers, 2, none, 0, 2, []), [(0, [true, true], [zz (.iload_n 1), (3, .ifCond .ge 4, 2, 1, 0, [])]),
  (4, [false, false], [(5, .return_, 0, 0, 0, [])]),
  (5, [true, true], [zz (.aload_n 0), (0, .getfield 7, 10, 0, 109, []), zz (.sipush 1200), zz (.iload_n 1), zz (.iadd), zz (.iconst 0), (9, .iastore, 3, 0, 0, [])]),
  (16, [true, true], [zz (.aload_n 0), (0, .getfield 7, 10, 0, 109, []), zz (.sipush 1000), zz (.iload_n 1), zz (.iadd), (8, .iaload, 4, 0, 0, [])]),
  (26, [true, true], [zz (.iconst 1), (3, .if_icmp .ne 23, 7, 5, 0, [])]),
  (30, [true, true], [zz (.aload_n 0), (0, .getfield 16, 10, 4, 111, []), zz (.aload_n 0), (0, .getfield 65, 10, 5, 195, []), zz (.iload_n 1), (9, .iastore, 6, 0, 0, [])]),
  (40, [true, true], [zz (.aload_n 0), zz (.dup), (0, .getfield 65, 10, 5, 195, []), zz (.iconst 1), zz (.iadd), (0, .putfield 65, 10, 5, 195, [0]), (1, .return_, 7, 0, 0, [])]),
  (50, [true, true], [zz (.aload_n 0), zz (.aload_n 0), (0, .getfield 7, 10, 0, 109, []), zz (.sipush 1400), zz (.iload_n 1), zz (.iadd), (8, .iaload, 8, 0, 0, [])]),
  (61, [true, true], [(6, .invokevirtual 68, 61, 9, 196, [2, 0, 0, 11, 0, 0, 0, 0, 0])]),
  (64, [true, true], [zz (.aload_n 0), zz (.aload_n 0), (0, .getfield 7, 10, 0, 109, []), zz (.sipush 1600), zz (.iload_n 1), zz (.iadd), (8, .iaload, 10, 0, 0, [])]),
  (75, [false, false], [(6, .invokevirtual 68, 61, 11, 196, [2, 0, 0, 11, 0, 0, 0, 0, 0])]),
  (78, [false, false], [(5, .return_, 0, 0, 0, [])])])
noncomputable def pm_62 : mMt := ((yX10_sorts, cX10_sorts, 7, none, 0, 4, []), [(0, [true, true, true, true, false, false, false], [zz (.iload_n 1), zz (.iconst 1), zz (.iadd), zz (.istore 4), (1, .return_, 1, 0, 0, [])]),
  (5, [true, true, true, true, true, false, false], [zz (.iload 4), zz (.iload_n 2), (3, .if_icmp .ge 78, 13, 2, 0, [])]),
  (11, [true, true, true, true, true, false, false], [zz (.aload_n 0), (0, .getfield 16, 10, 4, 111, []), zz (.iload 4), (8, .iaload, 3, 0, 0, [])]),
  (18, [true, true, true, true, true, false, false], [zz (.istore 5), zz (.iload 4), zz (.istore 6), (1, .return_, 4, 0, 0, [])]),
  (24, [true, true, true, true, true, true, true], [zz (.iload 6), zz (.iload_n 1), (3, .if_icmp .le 44, 11, 5, 0, [])]),
  (30, [true, true, true, true, true, true, true], [zz (.aload_n 0), zz (.iload 5), zz (.aload_n 0), (0, .getfield 16, 10, 4, 111, []), zz (.iload 6), zz (.iconst 1), zz (.isub), (8, .iaload, 6, 0, 0, [])]),
  (42, [true, true, true, true, true, true, true], [zz (.iload_n 3), (6, .invokevirtual 72, 55, 7, 192, [4, 0, 0, 11, 0, 0, 0, 0, 0])]),
  (46, [true, true, true, true, true, true, true], [(3, .ifCond .eq 25, 11, 8, 0, [])]),
  (49, [true, true, true, true, true, true, true], [zz (.aload_n 0), (0, .getfield 16, 10, 4, 111, []), zz (.iload 6), zz (.aload_n 0), (0, .getfield 16, 10, 4, 111, []), zz (.iload 6), zz (.iconst 1), zz (.isub), (8, .iaload, 9, 0, 0, [])]),
  (64, [true, true, true, true, true, true, true], [(9, .iastore, 10, 0, 0, [])]),
  (65, [true, true, true, true, true, true, true], [zz (.iinc 6 (-1)), (2, .goto (-44), 4, 0, 0, [])]),
  (71, [true, true, true, true, true, true, true], [zz (.aload_n 0), (0, .getfield 16, 10, 4, 111, []), zz (.iload 6), zz (.iload 5), (9, .iastore, 12, 0, 0, [])]),
  (80, [true, true, true, true, true, false, false], [zz (.iinc 4 1), (2, .goto (-78), 1, 0, 0, [])]),
  (86, [false, false, false, false, false, false, false], [(5, .return_, 0, 0, 0, [])])])
noncomputable def pm_63 : mMt := ((yX10_builds, cX10_builds, 7, some .int, 0, 5, []), [(0, [true, true, true, true, true, false, false], [zz (.iload_n 1), zz (.iload_n 2), (3, .if_icmp .ne 5, 2, 1, 0, [])]),
  (5, [false, false, false, false, false, false, false], [zz (.iconst (-1)), (5, .ireturn, 1, 0, 0, [])]),
  (7, [true, true, true, true, true, false, false], [zz (.aload_n 0), zz (.iload_n 1), zz (.iload_n 2), zz (.iload_n 3), zz (.iconst 3), zz (.irem), (6, .invokevirtual 75, 62, 3, 197, [4, 0, 0, 11, 0, 0, 0, 0, 0])]),
  (16, [true, true, true, true, true, false, false], [zz (.iload_n 1), zz (.iload_n 2), zz (.iload_n 1), zz (.isub), zz (.iconst 2), zz (.idiv), zz (.iadd), zz (.istore 5), zz (.aload_n 0), (0, .getfield 16, 10, 4, 111, []), zz (.iload 5), (8, .iaload, 4, 0, 0, [])]),
  (32, [true, true, true, true, true, true, false], [zz (.istore 6), zz (.aload_n 0), (0, .getfield 7, 10, 0, 109, []), zz (.sipush 1200), zz (.iload 6), zz (.iadd), zz (.iconst 1), (9, .iastore, 5, 0, 0, [])]),
  (46, [true, true, true, true, true, true, true], [zz (.aload_n 0), (0, .getfield 7, 10, 0, 109, []), zz (.sipush 1800), zz (.iload 6), zz (.iadd), zz (.iload 4), (9, .iastore, 6, 0, 0, [])]),
  (59, [true, true, true, true, false, true, true], [zz (.aload_n 0), (0, .getfield 7, 10, 0, 109, []), zz (.sipush 1400), zz (.iload 6), zz (.iadd), zz (.aload_n 0), zz (.iload_n 1), zz (.iload 5), zz (.iload_n 3), zz (.iconst 1), zz (.iadd), zz (.iload 6), (6, .invokevirtual 79, 63, 7, 198, [5, 0, 0, 11, 0, 0, 0, 0, 0])]),
  (81, [true, false, true, true, false, true, true], [(9, .iastore, 8, 0, 0, [])]),
  (82, [true, false, true, true, false, true, true], [zz (.aload_n 0), (0, .getfield 7, 10, 0, 109, []), zz (.sipush 1600), zz (.iload 6), zz (.iadd), zz (.aload_n 0), zz (.iload 5), zz (.iconst 1), zz (.iadd), zz (.iload_n 2), zz (.iload_n 3), zz (.iconst 1), zz (.iadd), zz (.iload 6), (6, .invokevirtual 79, 63, 9, 198, [5, 0, 0, 11, 0, 0, 0, 0, 0])]),
  (106, [false, false, false, false, false, false, true], [(9, .iastore, 10, 0, 0, [])]),
  (107, [false, false, false, false, false, false, true], [zz (.iload 6), (5, .ireturn, 1, 0, 0, [])])])
noncomputable def pm_64 : mMt := ((yX10_anew, cX10_anew, 6, none, 0, 2, []), [(0, [true, true, false, false, false, false], [zz (.iload_n 1), (3, .ifCond .ge 4, 2, 1, 0, [])]),
  (4, [false, false, false, false, false, false], [(5, .return_, 0, 0, 0, [])]),
  (5, [true, true, false, false, false, false], [zz (.aload_n 0), (0, .getfield 7, 10, 0, 109, []), zz (.sipush 1800), zz (.iload_n 1), zz (.iadd), (8, .iaload, 3, 0, 0, [])]),
  (15, [true, true, false, false, false, false], [zz (.istore_n 2), zz (.aload_n 0), zz (.iload_n 1), (6, .invokevirtual 83, 60, 4, 199, [2, 0, 0, 11, 0, 0, 0, 0, 0])]),
  (21, [true, true, true, false, false, false], [zz (.istore_n 3), zz (.iload_n 2), (3, .ifCond .lt 21, 8, 5, 0, [])]),
  (26, [true, true, true, true, false, false], [zz (.aload_n 0), (0, .getfield 7, 10, 0, 109, []), zz (.sipush 1400), zz (.iload_n 2), zz (.iadd), (8, .iaload, 6, 0, 0, [])]),
  (36, [true, true, true, true, false, false], [zz (.iload_n 1), (3, .if_icmp .ne 7, 8, 7, 0, [])]),
  (40, [true, true, true, true, false, false], [zz (.iconst 1), (2, .goto 4, 9, 0, 0, [])]),
  (44, [true, true, true, true, false, false], [zz (.iconst 0), (1, .return_, 9, 0, 0, [])]),
  (45, [true, true, true, true, false, false], [zz (.istore 4), zz (.aload_n 0), zz (.iconst 0), (0, .putfield 65, 10, 5, 195, [0]), zz (.aload_n 0), zz (.iload_n 1), (6, .invokevirtual 68, 61, 10, 196, [2, 0, 0, 11, 0, 0, 0, 0, 0])]),
  (57, [true, false, true, true, true, false], [zz (.aload_n 0), (0, .getfield 7, 10, 0, 109, []), zz (.sipush 2030), zz (.dup2), (8, .iaload, 11, 0, 0, [])]),
  (66, [true, false, true, true, true, false], [zz (.aload_n 0), (0, .getfield 65, 10, 5, 195, []), zz (.iadd), (9, .iastore, 12, 0, 0, [])]),
  (72, [true, false, true, true, true, false], [zz (.aload_n 0), zz (.iconst 0), zz (.aload_n 0), (0, .getfield 65, 10, 5, 195, []), zz (.iload_n 3), zz (.iload_n 2), (6, .invokevirtual 79, 63, 13, 198, [5, 0, 0, 11, 0, 0, 0, 0, 0])]),
  (83, [true, false, true, false, true, false], [zz (.istore 5), zz (.iload_n 2), (3, .ifCond .ge 16, 16, 14, 0, [])]),
  (89, [true, false, false, false, false, true], [zz (.aload_n 0), (0, .getfield 7, 10, 0, 109, []), zz (.sipush 2000), zz (.iload 5), (9, .iastore, 15, 0, 0, [])]),
  (99, [false, false, false, false, false, false], [(2, .goto 35, 20, 0, 0, [])]),
  (102, [true, false, true, false, true, true], [zz (.iload 4), (3, .ifCond .eq 18, 19, 17, 0, [])]),
  (107, [true, false, true, false, false, true], [zz (.aload_n 0), (0, .getfield 7, 10, 0, 109, []), zz (.sipush 1400), zz (.iload_n 2), zz (.iadd), zz (.iload 5), (9, .iastore, 18, 0, 0, [])]),
  (119, [false, false, false, false, false, false], [(2, .goto 15, 20, 0, 0, [])]),
  (122, [true, false, true, false, false, true], [zz (.aload_n 0), (0, .getfield 7, 10, 0, 109, []), zz (.sipush 1600), zz (.iload_n 2), zz (.iadd), zz (.iload 5), (9, .iastore, 20, 0, 0, [])]),
  (134, [false, false, false, false, false, false], [(5, .return_, 0, 0, 0, [])])])
noncomputable def pm_65 : mMt := ((yX10_comes, cX10_comes, 9, some .int, 0, 6, []), [(0, [true, true, true, true, true, true, false, false, false], [zz (.aload_n 0), (0, .getfield 7, 10, 0, 109, []), zz (.sipush 2001), (8, .iaload, 1, 0, 0, [])]),
  (8, [true, true, true, true, true, true, false, false, false], [zz (.istore 6), zz (.aload_n 0), (0, .getfield 7, 10, 0, 109, []), zz (.sipush 2001), zz (.dup2), (8, .iaload, 2, 0, 0, [])]),
  (19, [true, true, true, true, true, true, true, false, false], [zz (.iconst 1), zz (.iadd), (9, .iastore, 3, 0, 0, [])]),
  (22, [true, true, true, true, true, true, true, false, false], [zz (.aload_n 0), (0, .getfield 7, 10, 0, 109, []), zz (.iconst 3), zz (.iload 6), zz (.imul), zz (.iload_n 1), (9, .iastore, 4, 0, 0, [])]),
  (32, [true, false, true, true, true, true, true, false, false], [zz (.aload_n 0), (0, .getfield 7, 10, 0, 109, []), zz (.iconst 3), zz (.iload 6), zz (.imul), zz (.iconst 1), zz (.iadd), zz (.iload_n 2), (9, .iastore, 5, 0, 0, [])]),
  (44, [true, false, false, true, true, true, true, false, false], [zz (.aload_n 0), (0, .getfield 7, 10, 0, 109, []), zz (.iconst 3), zz (.iload 6), zz (.imul), zz (.iconst 2), zz (.iadd), zz (.iload_n 3), (9, .iastore, 6, 0, 0, [])]),
  (56, [true, false, false, false, true, true, true, false, false], [zz (.aload_n 0), (0, .getfield 7, 10, 0, 109, []), zz (.sipush 600), zz (.iload 6), zz (.iadd), zz (.iload 4), (9, .iastore, 7, 0, 0, [])]),
  (69, [true, false, false, false, false, true, true, false, false], [zz (.aload_n 0), (0, .getfield 7, 10, 0, 109, []), zz (.sipush 800), zz (.iload 6), zz (.iadd), zz (.iload 5), (9, .iastore, 8, 0, 0, [])]),
  (82, [true, false, false, false, false, false, true, false, false], [zz (.aload_n 0), (0, .getfield 7, 10, 0, 109, []), zz (.sipush 1000), zz (.iload 6), zz (.iadd), zz (.iconst 1), (9, .iastore, 9, 0, 0, [])]),
  (94, [true, false, false, false, false, false, true, false, false], [zz (.aload_n 0), (0, .getfield 7, 10, 0, 109, []), zz (.sipush 1200), zz (.iload 6), zz (.iadd), zz (.iconst 1), (9, .iastore, 10, 0, 0, [])]),
  (106, [true, false, false, false, false, false, true, false, false], [zz (.aload_n 0), (0, .getfield 7, 10, 0, 109, []), zz (.sipush 1400), zz (.iload 6), zz (.iadd), zz (.iconst (-1)), (9, .iastore, 11, 0, 0, [])]),
  (118, [true, false, false, false, false, false, true, false, false], [zz (.aload_n 0), (0, .getfield 7, 10, 0, 109, []), zz (.sipush 1600), zz (.iload 6), zz (.iadd), zz (.iconst (-1)), (9, .iastore, 12, 0, 0, [])]),
  (130, [true, false, false, false, false, false, true, false, false], [zz (.aload_n 0), zz (.iload 6), (6, .invokevirtual 90, 57, 13, 200, [2, 0, 0, 11, 0, 0, 0, 0, 0])]),
  (136, [true, false, false, false, false, false, true, false, false], [zz (.aload_n 0), zz (.iconst 0), (0, .putfield 93, 10, 8, 201, [1]), zz (.iconst 0), zz (.istore 7), zz (.aload_n 0), (0, .getfield 7, 10, 0, 109, []), zz (.sipush 2000), (8, .iaload, 14, 0, 0, [])]),
  (152, [true, false, false, false, false, false, true, true, false], [zz (.istore 8), (1, .return_, 15, 0, 0, [])]),
  (154, [true, false, false, false, false, false, true, true, true], [zz (.iload 8), zz (.iload 6), (3, .if_icmp .eq 51, 24, 16, 0, [])]),
  (161, [true, false, false, false, false, false, true, true, true], [zz (.aload_n 0), zz (.iload 8), (6, .invokevirtual 97, 59, 17, 202, [2, 0, 0, 11, 0, 0, 0, 0, 0])]),
  (167, [true, false, false, false, false, false, true, true, true], [(3, .ifCond .eq 24, 22, 18, 0, [])]),
  (170, [true, false, false, false, false, false, true, false, true], [zz (.aload_n 0), (0, .getfield 7, 10, 0, 109, []), zz (.sipush 2027), zz (.dup2), (8, .iaload, 19, 0, 0, [])]),
  (179, [true, false, false, false, false, false, true, false, true], [zz (.iconst 1), zz (.iadd), (9, .iastore, 20, 0, 0, [])]),
  (182, [true, false, false, false, false, false, true, false, true], [zz (.aload_n 0), zz (.iload 8), (6, .invokevirtual 100, 64, 21, 203, [2, 0, 0, 11, 0, 0, 0, 0, 0])]),
  (188, [false, false, false, false, false, false, true, false, false], [zz (.iload 6), (5, .ireturn, 1, 0, 0, [])]),
  (191, [true, false, false, false, false, false, true, true, true], [zz (.aload_n 0), zz (.iload 8), zz (.iload 6), zz (.iload 7), (6, .invokevirtual 86, 56, 23, 193, [4, 0, 0, 11, 0, 0, 0, 0, 0])]),
  (201, [true, false, false, false, false, false, true, true, false], [zz (.istore 8), zz (.iinc 7 1), (2, .goto (-52), 15, 0, 0, [])]),
  (209, [false, false, false, false, false, false, true, false, false], [zz (.iload 6), (5, .ireturn, 1, 0, 0, [])])])
noncomputable def pm_66 : mMt := ((yX10_insert, cX10_insert, 6, some .int, 0, 6, []), [(0, [true, true, true, true, true, true], [zz (.aload_n 0), zz (.iconst 0), (0, .putfield 38, 10, 3, 191, [0]), zz (.iload_n 1), zz (.iload_n 2), zz (.iload_n 3), (6, .invokestatic 103, 52, 1, 204, [3, 0, 0, 0, 0, 0, 0, 0, 0])]),
  (11, [true, true, true, true, true, true], [(3, .ifCond .eq 25, 6, 2, 0, [])]),
  (14, [true, true, true, true, true, true], [zz (.iload 4), zz (.iconst 0), zz (.bipush 99), (6, .invokestatic 41, 51, 3, 190, [3, 0, 0, 0, 0, 0, 0, 0, 0])]),
  (22, [true, true, true, true, true, true], [(3, .ifCond .eq 14, 6, 4, 0, [])]),
  (25, [true, true, true, true, true, true], [zz (.iload 5), zz (.iconst 0), zz (.bipush 9), (6, .invokestatic 41, 51, 5, 190, [3, 0, 0, 0, 0, 0, 0, 0, 0])]),
  (33, [true, true, true, true, true, true], [(3, .ifCond .ne 9, 8, 6, 0, [])]),
  (36, [true, false, false, false, false, false], [zz (.aload_n 0), zz (.iconst 1), (6, .invokevirtual 106, 53, 7, 205, [2, 0, 0, 11, 0, 0, 0, 0, 0])]),
  (41, [false, false, false, false, false, false], [(5, .ireturn, 1, 0, 0, [])]),
  (42, [true, true, true, true, true, true], [zz (.aload_n 0), (6, .invokevirtual 109, 54, 9, 206, [1, 0, 0, 11, 0, 0, 0, 0, 0])]),
  (46, [true, true, true, true, true, true], [zz (.bipush 60), (3, .if_icmp .eq 17, 12, 10, 0, [])]),
  (51, [true, true, true, true, true, true], [zz (.aload_n 0), (0, .getfield 7, 10, 0, 109, []), zz (.sipush 2001), (8, .iaload, 11, 0, 0, [])]),
  (59, [true, true, true, true, true, true], [zz (.sipush 200), (3, .if_icmp .ne 11, 14, 12, 0, [])]),
  (65, [true, false, false, false, false, false], [zz (.aload_n 0), zz (.iconst 2), (6, .invokevirtual 106, 53, 13, 205, [2, 0, 0, 11, 0, 0, 0, 0, 0])]),
  (70, [false, false, false, false, false, false], [(2, .goto 14, 15, 0, 0, [])]),
  (73, [true, true, true, true, true, true], [zz (.aload_n 0), zz (.iload_n 1), zz (.iload_n 2), zz (.iload_n 3), zz (.iload 4), zz (.iload 5), (6, .invokevirtual 113, 65, 15, 207, [6, 0, 0, 11, 0, 0, 0, 0, 0])]),
  (84, [false, false, false, false, false, false], [(5, .ireturn, 1, 0, 0, [])])])
noncomputable def pm_67 : mMt := ((yX10_thrown, cX10_thrown, 1, some .int, 0, 1, []), [(0, [true], [zz (.aload_n 0), (0, .getfield 38, 10, 3, 191, []), (5, .ireturn, 1, 0, 0, [])])])
noncomputable def pm_68 : mMt := ((yX2_kill, cX2_kill, 2, none, 0, 2, []), [(0, [true, true], [zz (.aload_n 0), (0, .getfield 21, 2, 3, 4, []), zz (.iload_n 1), zz (.iconst 0), (6, .invokestatic 43, 17, 1, 119, [3, 0, 0, 0, 0, 0, 0, 0, 0])]),
  (9, [true, false], [zz (.aload_n 0), zz (.dup), (0, .getfield 28, 2, 5, 6, []), zz (.iconst 1), zz (.isub), (0, .putfield 28, 2, 5, 6, [0]), (5, .return_, 0, 0, 0, [])])])
noncomputable def pm_69 : mMt := ((yX6_removePoint, cX6_removePoint, 3, none, 0, 2, []), [(0, [true, true, false], [zz (.aload_n 0), (0, .getfield 12, 6, 0, 50, []), zz (.iload_n 1), (6, .invokevirtual 89, 68, 1, 208, [2, 0, 0, 3, 0, 0, 0, 0, 0])]),
  (8, [true, false, false], [zz (.aload_n 0), (0, .getfield 23, 6, 1, 53, []), (6, .invokevirtual 51, 38, 2, 176, [1, 0, 0, 9, 0, 0, 0, 0, 0])]),
  (15, [true, false, false], [zz (.aload_n 0), (0, .getfield 23, 6, 1, 53, []), (0, .getfield 92, 8, 9, 209, []), (0, .getfield 96, 1, 1, 210, []), zz (.aload_n 0), (0, .getfield 12, 6, 0, 50, []), (0, .getfield 102, 2, 5, 211, []), zz (.isub), zz (.istore_n 2), zz (.iload_n 2), zz (.bipush 100), zz (.imul), zz (.aload_n 0), (0, .getfield 39, 6, 3, 59, []), zz (.iconst 1), (6, .invokevirtual 86, 39, 3, 150, [2, 0, 0, 6, 0, 0, 0, 0, 0])]),
  (46, [true, false, false], [zz (.aload_n 0), (0, .getfield 23, 6, 1, 53, []), (0, .getfield 92, 8, 9, 209, []), (0, .getfield 96, 1, 1, 210, []), zz (.imul), (3, .if_icmp .le 18, 5, 4, 0, [])]),
  (60, [true, false, false], [zz (.aload_n 0), (0, .getfield 32, 6, 2, 56, []), zz (.aload_n 0), (0, .getfield 23, 6, 1, 53, []), (0, .getfield 105, 8, 11, 212, []), zz (.iconst 1), (6, .invokevirtual 58, 47, 5, 178, [3, 0, 0, 4, 0, 0, 0, 0, 0])]),
  (75, [false, false, false], [(5, .return_, 0, 0, 0, [])])])
noncomputable def pm_70 : mMt := ((yX9_remove, cX9_remove, 2, some .int, 1, 2, []), [(0, [true, true], [zz (.aload_n 0), (0, .getfield 10, 9, 0, 95, []), (0, .getfield 67, 6, 0, 183, []), zz (.iload_n 1), (6, .invokevirtual 89, 32, 1, 213, [2, 0, 1, 3, 0, 0, 0, 0, 0])]),
  (11, [true, true], [(3, .ifCond .ne 13, 3, 2, 0, [])]),
  (14, [false, false], [(7, .new 92, 2, 0, 214, [1, 215])]),
  (24, [true, true], [zz (.aload_n 0), (0, .getfield 37, 9, 3, 103, []), (6, .invokevirtual 82, 16, 4, 187, [1, 0, 1, 1, 0, 0, 0, 0, 0])]),
  (31, [true, true], [zz (.aload_n 0), (0, .getfield 10, 9, 0, 95, []), zz (.iload_n 1), (6, .invokevirtual 97, 69, 5, 216, [2, 0, 1, 7, 0, 0, 0, 0, 0])]),
  (39, [true, false], [zz (.aload_n 0), (0, .getfield 10, 9, 0, 95, []), (0, .getfield 67, 6, 0, 183, []), (0, .getfield 101, 2, 5, 217, []), (5, .ireturn, 1, 0, 0, [])])])
noncomputable def pm_71 : mMt := ((yL_remove, cL_remove, 4, some .int, 1, 3, [(0, 9, 12, 21)]), [(0, [true, true, true, false], [zz (.aload_n 2), zz (.iconst 0), zz (.aload_n 0), zz (.iload_n 1), (6, .invokevirtual 17, 70, 1, 218, [2, 1, 1, 10, 1, 1, 5, 1, 1])]),
  (7, [false, false, false, false], [zz (.i2l), (9, .lastore, 2, 0, 0, [])]),
  (9, [false, false, false, false], [(2, .goto 6, 4, 0, 0, [])]),
  (12, [false, false, false, false], [zz (.astore_n 3), zz (.iconst 1), (5, .ireturn, 1, 0, 0, [])]),
  (15, [false, false, false, false], [zz (.iconst 0), (5, .ireturn, 1, 0, 0, [])])])
noncomputable def pm_72 : mMt := ((yX10_isPoint, cX10_isPoint, 2, some .boolean, 0, 2, []), [(0, [true, true], [zz (.iload_n 1), zz (.iconst 0), zz (.aload_n 0), (0, .getfield 7, 10, 0, 109, []), zz (.sipush 2001), (8, .iaload, 1, 0, 0, [])]),
  (10, [false, false], [zz (.iconst 1), zz (.isub), (6, .invokestatic 41, 51, 2, 190, [3, 0, 0, 0, 0, 0, 0, 0, 0])]),
  (15, [false, false], [(5, .ireturn, 2, 0, 0, [])])])
noncomputable def pm_73 : mMt := ((yX10_isAlive, cX10_isAlive, 2, some .boolean, 0, 2, []), [(0, [true, true], [zz (.aload_n 0), zz (.iload_n 1), (6, .invokevirtual 45, 72, 1, 219, [2, 0, 0, 11, 0, 0, 0, 0, 0])]),
  (5, [true, true], [(3, .ifCond .eq 21, 5, 2, 0, [])]),
  (8, [true, true], [zz (.aload_n 0), (0, .getfield 7, 10, 0, 109, []), zz (.sipush 1000), zz (.iload_n 1), zz (.iadd), (8, .iaload, 3, 0, 0, [])]),
  (18, [false, false], [zz (.iconst 1), (3, .if_icmp .ne 7, 5, 4, 0, [])]),
  (22, [false, false], [zz (.iconst 1), (2, .goto 4, 6, 0, 0, [])]),
  (26, [false, false], [zz (.iconst 0), (1, .return_, 6, 0, 0, [])]),
  (27, [false, false], [(5, .ireturn, 2, 0, 0, [])])])
noncomputable def pm_74 : mMt := ((yX10_deadNodes, cX10_deadNodes, 3, some .int, 0, 1, []), [(0, [true, false, false], [zz (.iconst 0), zz (.istore_n 1), zz (.iconst 0), zz (.istore_n 2), (1, .return_, 1, 0, 0, [])]),
  (4, [true, true, true], [zz (.iload_n 2), zz (.aload_n 0), (0, .getfield 7, 10, 0, 109, []), zz (.sipush 2001), (8, .iaload, 2, 0, 0, [])]),
  (13, [true, true, true], [(3, .if_icmp .ge 44, 10, 3, 0, [])]),
  (16, [true, true, true], [zz (.iload_n 1), zz (.aload_n 0), (0, .getfield 7, 10, 0, 109, []), zz (.sipush 1200), zz (.iload_n 2), zz (.iadd), (8, .iaload, 4, 0, 0, [])]),
  (27, [true, false, true], [zz (.iconst 1), (3, .if_icmp .ne 20, 8, 5, 0, [])]),
  (31, [true, false, true], [zz (.aload_n 0), (0, .getfield 7, 10, 0, 109, []), zz (.sipush 1000), zz (.iload_n 2), zz (.iadd), (8, .iaload, 6, 0, 0, [])]),
  (41, [true, false, true], [(3, .ifCond .ne 7, 8, 7, 0, [])]),
  (44, [true, false, true], [zz (.iconst 1), (2, .goto 4, 9, 0, 0, [])]),
  (48, [true, false, true], [zz (.iconst 0), (1, .return_, 9, 0, 0, [])]),
  (49, [true, false, true], [zz (.iadd), zz (.istore_n 1), zz (.iinc 2 1), (2, .goto (-50), 1, 0, 0, [])]),
  (57, [false, true, false], [zz (.iload_n 1), (5, .ireturn, 1, 0, 0, [])])])
noncomputable def pm_75 : mMt := ((yX10_nodes, cX10_nodes, 3, some .int, 0, 1, []), [(0, [true, false, false], [zz (.iconst 0), zz (.istore_n 1), zz (.iconst 0), zz (.istore_n 2), (1, .return_, 1, 0, 0, [])]),
  (4, [true, true, true], [zz (.iload_n 2), zz (.aload_n 0), (0, .getfield 7, 10, 0, 109, []), zz (.sipush 2001), (8, .iaload, 2, 0, 0, [])]),
  (13, [true, true, true], [(3, .if_icmp .ge 22, 5, 3, 0, [])]),
  (16, [true, true, true], [zz (.iload_n 1), zz (.aload_n 0), (0, .getfield 7, 10, 0, 109, []), zz (.sipush 1200), zz (.iload_n 2), zz (.iadd), (8, .iaload, 4, 0, 0, [])]),
  (27, [true, false, true], [zz (.iadd), zz (.istore_n 1), zz (.iinc 2 1), (2, .goto (-28), 1, 0, 0, [])]),
  (35, [false, true, false], [zz (.iload_n 1), (5, .ireturn, 1, 0, 0, [])])])
noncomputable def pm_76 : mMt := ((yX10_remove, cX10_remove, 2, some .int, 0, 2, []), [(0, [true, true], [zz (.aload_n 0), zz (.iconst 0), (0, .putfield 38, 10, 3, 191, [0]), zz (.aload_n 0), zz (.iload_n 1), (6, .invokevirtual 49, 73, 1, 220, [2, 0, 0, 11, 0, 0, 0, 0, 0])]),
  (10, [true, true], [(3, .ifCond .ne 9, 4, 2, 0, [])]),
  (13, [true, false], [zz (.aload_n 0), zz (.iconst 1), (6, .invokevirtual 106, 53, 3, 205, [2, 0, 0, 11, 0, 0, 0, 0, 0])]),
  (18, [false, false], [(5, .ireturn, 1, 0, 0, [])]),
  (19, [true, true], [zz (.aload_n 0), (0, .getfield 7, 10, 0, 109, []), zz (.sipush 1000), zz (.iload_n 1), zz (.iadd), zz (.iconst 0), (9, .iastore, 5, 0, 0, [])]),
  (30, [true, false], [zz (.aload_n 0), zz (.iconst 0), (0, .putfield 93, 10, 8, 201, [1]), zz (.bipush 100), zz (.aload_n 0), (6, .invokevirtual 117, 74, 6, 221, [1, 0, 0, 11, 0, 0, 0, 0, 0])]),
  (41, [true, false], [zz (.imul), zz (.aload_n 0), (0, .getfield 7, 10, 0, 109, []), zz (.sipush 2003), (8, .iaload, 7, 0, 0, [])]),
  (50, [true, false], [zz (.aload_n 0), (6, .invokevirtual 120, 75, 8, 222, [1, 0, 0, 11, 0, 0, 0, 0, 0])]),
  (54, [true, false], [zz (.imul), (3, .if_icmp .le 27, 13, 9, 0, [])]),
  (58, [true, false], [zz (.aload_n 0), (0, .getfield 7, 10, 0, 109, []), zz (.sipush 2028), zz (.dup2), (8, .iaload, 10, 0, 0, [])]),
  (67, [true, false], [zz (.iconst 1), zz (.iadd), (9, .iastore, 11, 0, 0, [])]),
  (70, [true, false], [zz (.aload_n 0), zz (.aload_n 0), (0, .getfield 7, 10, 0, 109, []), zz (.sipush 2000), (8, .iaload, 12, 0, 0, [])]),
  (79, [true, false], [(6, .invokevirtual 100, 64, 13, 203, [2, 0, 0, 11, 0, 0, 0, 0, 0])]),
  (82, [true, false], [zz (.aload_n 0), (6, .invokevirtual 109, 54, 14, 206, [1, 0, 0, 11, 0, 0, 0, 0, 0])]),
  (86, [false, false], [(5, .ireturn, 1, 0, 0, [])])])
noncomputable def pm_77 : mMt := ((yX9_isLive, cX9_isLive, 2, some .boolean, 0, 2, []), [(0, [true, true], [zz (.aload_n 0), (0, .getfield 10, 9, 0, 95, []), (0, .getfield 67, 6, 0, 183, []), zz (.iload_n 1), (6, .invokevirtual 89, 32, 1, 213, [2, 0, 0, 3, 0, 0, 0, 0, 0])]),
  (11, [false, false], [(5, .ireturn, 2, 0, 0, [])])])
noncomputable def pm_78 : mMt := ((yX10_isLive, cX10_isLive, 2, some .boolean, 0, 2, []), [(0, [true, true], [zz (.aload_n 0), zz (.iconst 0), (0, .putfield 38, 10, 3, 191, [0]), zz (.aload_n 0), zz (.iload_n 1), (6, .invokevirtual 49, 73, 1, 220, [2, 0, 0, 11, 0, 0, 0, 0, 0])]),
  (10, [false, false], [(5, .ireturn, 2, 0, 0, [])])])
noncomputable def pm_79 : mMt := ((yX9_requirePoint, cX9_requirePoint, 2, none, 1, 2, []), [(0, [true, true], [zz (.aload_n 0), (0, .getfield 10, 9, 0, 95, []), (0, .getfield 67, 6, 0, 183, []), zz (.iload_n 1), (6, .invokevirtual 395, 31, 1, 223, [2, 0, 1, 3, 0, 0, 0, 0, 0])]),
  (11, [false, false], [(3, .ifCond .ne 14, 3, 2, 0, [])]),
  (14, [false, false], [(7, .new 92, 2, 0, 214, [1, 224])]),
  (25, [false, false], [(5, .return_, 0, 0, 0, [])])])
noncomputable def pm_80 : mMt := ((yX9_requireAxis, cX9_requireAxis, 2, none, 1, 2, []), [(0, [false, true], [zz (.iload_n 1), (3, .ifCond .lt 8, 2, 1, 0, [])]),
  (4, [false, true], [zz (.iload_n 1), zz (.iconst 3), (3, .if_icmp .lt 14, 3, 2, 0, [])]),
  (9, [false, false], [(7, .new 60, 0, 0, 181, [1, 225])]),
  (20, [false, false], [(5, .return_, 0, 0, 0, [])])])
noncomputable def pm_81 : mMt := ((yX9_coordinate, cX9_coordinate, 3, some .int, 2, 3, []), [(0, [true, true, true], [zz (.aload_n 0), zz (.iload_n 1), (6, .invokevirtual 105, 79, 1, 226, [2, 1, 2, 10, 0, 0, 0, 0, 0])]),
  (5, [true, true, true], [zz (.aload_n 0), zz (.iload_n 2), (6, .invokevirtual 108, 80, 2, 227, [2, 1, 2, 10, 0, 0, 0, 0, 0])]),
  (10, [true, true, true], [zz (.aload_n 0), (0, .getfield 10, 9, 0, 95, []), (0, .getfield 67, 6, 0, 183, []), zz (.iload_n 1), zz (.iload_n 2), (6, .invokevirtual 111, 20, 3, 228, [3, 0, 2, 3, 0, 0, 0, 0, 0])]),
  (22, [false, false, false], [(5, .ireturn, 1, 0, 0, [])])])
noncomputable def pm_82 : mMt := ((yL_coordinate, cL_coordinate, 5, some .int, 2, 4, [(0, 10, 13, 21), (0, 10, 17, 13)]), [(0, [true, true, true, true, false], [zz (.aload_n 3), zz (.iconst 0), zz (.aload_n 0), zz (.iload_n 1), zz (.iload_n 2), (6, .invokevirtual 23, 81, 1, 229, [3, 2, 2, 10, 6, 1, 5, 1, 1])]),
  (8, [false, false, false, false, false], [zz (.i2l), (9, .lastore, 2, 0, 0, [])]),
  (10, [false, false, false, false, false], [(2, .goto 11, 5, 0, 0, [])]),
  (13, [false, false, false, false, false], [zz (.astore 4), zz (.iconst 1), (5, .ireturn, 1, 0, 0, [])]),
  (17, [false, false, false, false, false], [zz (.astore 4), zz (.iconst 2), (5, .ireturn, 1, 0, 0, [])]),
  (21, [false, false, false, false, false], [zz (.iconst 0), (5, .ireturn, 1, 0, 0, [])])])
noncomputable def pm_83 : mMt := ((yX10_isAxis, cX10_isAxis, 1, some .boolean, 0, 1, []), [(0, [true], [zz (.iload_n 0), zz (.iconst 0), zz (.iconst 2), (6, .invokestatic 41, 51, 1, 190, [3, 0, 0, 0, 0, 0, 0, 0, 0])]),
  (6, [false], [(5, .ireturn, 2, 0, 0, [])])])
noncomputable def pm_84 : mMt := ((yX10_coordinate, cX10_coordinate, 3, some .int, 0, 3, []), [(0, [true, true, true], [zz (.aload_n 0), zz (.iconst 0), (0, .putfield 38, 10, 3, 191, [0]), zz (.aload_n 0), zz (.iload_n 1), (6, .invokevirtual 45, 72, 1, 219, [2, 0, 0, 11, 0, 0, 0, 0, 0])]),
  (10, [true, true, true], [(3, .ifCond .ne 9, 4, 2, 0, [])]),
  (13, [true, false, false], [zz (.aload_n 0), zz (.iconst 1), (6, .invokevirtual 106, 53, 3, 205, [2, 0, 0, 11, 0, 0, 0, 0, 0])]),
  (18, [false, false, false], [(5, .ireturn, 1, 0, 0, [])]),
  (19, [true, true, true], [zz (.iload_n 2), (6, .invokestatic 123, 83, 5, 230, [1, 0, 0, 0, 0, 0, 0, 0, 0])]),
  (23, [true, true, true], [(3, .ifCond .eq 16, 8, 6, 0, [])]),
  (26, [true, true, true], [zz (.aload_n 0), (0, .getfield 7, 10, 0, 109, []), zz (.iconst 3), zz (.iload_n 1), zz (.imul), zz (.iload_n 2), zz (.iadd), (8, .iaload, 7, 0, 0, [])]),
  (36, [false, false, false], [(2, .goto 8, 9, 0, 0, [])]),
  (39, [true, false, false], [zz (.aload_n 0), zz (.iconst 2), (6, .invokevirtual 106, 53, 9, 205, [2, 0, 0, 11, 0, 0, 0, 0, 0])]),
  (44, [false, false, false], [(5, .ireturn, 1, 0, 0, [])])])
noncomputable def pm_85 : mMt := ((yX9_weight, cX9_weight, 2, some .int, 1, 2, []), [(0, [true, true], [zz (.aload_n 0), zz (.iload_n 1), (6, .invokevirtual 105, 79, 1, 226, [2, 1, 1, 10, 0, 0, 0, 0, 0])]),
  (5, [true, true], [zz (.aload_n 0), (0, .getfield 10, 9, 0, 95, []), (0, .getfield 67, 6, 0, 183, []), (0, .getfield 115, 2, 1, 231, []), zz (.iload_n 1), (6, .invokestatic 119, 19, 2, 232, [2, 0, 1, 0, 0, 0, 0, 0, 0])]),
  (19, [false, false], [(5, .ireturn, 1, 0, 0, [])])])
noncomputable def pm_86 : mMt := ((yL_weight, cL_weight, 4, some .int, 1, 3, [(0, 9, 12, 21)]), [(0, [true, true, true, false], [zz (.aload_n 2), zz (.iconst 0), zz (.aload_n 0), zz (.iload_n 1), (6, .invokevirtual 27, 85, 1, 233, [2, 1, 1, 10, 1, 1, 5, 1, 1])]),
  (7, [false, false, false, false], [zz (.i2l), (9, .lastore, 2, 0, 0, [])]),
  (9, [false, false, false, false], [(2, .goto 6, 4, 0, 0, [])]),
  (12, [false, false, false, false], [zz (.astore_n 3), zz (.iconst 1), (5, .ireturn, 1, 0, 0, [])]),
  (15, [false, false, false, false], [zz (.iconst 0), (5, .ireturn, 1, 0, 0, [])])])
noncomputable def pm_87 : mMt := ((yX10_weight, cX10_weight, 2, some .int, 0, 2, []), [(0, [true, true], [zz (.aload_n 0), zz (.iconst 0), (0, .putfield 38, 10, 3, 191, [0]), zz (.aload_n 0), zz (.iload_n 1), (6, .invokevirtual 45, 72, 1, 219, [2, 0, 0, 11, 0, 0, 0, 0, 0])]),
  (10, [true, true], [(3, .ifCond .eq 16, 4, 2, 0, [])]),
  (13, [true, true], [zz (.aload_n 0), (0, .getfield 7, 10, 0, 109, []), zz (.sipush 600), zz (.iload_n 1), zz (.iadd), (8, .iaload, 3, 0, 0, [])]),
  (23, [false, false], [(2, .goto 8, 5, 0, 0, [])]),
  (26, [true, false], [zz (.aload_n 0), zz (.iconst 1), (6, .invokevirtual 106, 53, 5, 205, [2, 0, 0, 11, 0, 0, 0, 0, 0])]),
  (31, [false, false], [(5, .ireturn, 1, 0, 0, [])])])
noncomputable def pm_88 : mMt := ((yX9_tag, cX9_tag, 2, some .int, 1, 2, []), [(0, [true, true], [zz (.aload_n 0), zz (.iload_n 1), (6, .invokevirtual 105, 79, 1, 226, [2, 1, 1, 10, 0, 0, 0, 0, 0])]),
  (5, [true, true], [zz (.aload_n 0), (0, .getfield 10, 9, 0, 95, []), (0, .getfield 67, 6, 0, 183, []), (0, .getfield 123, 2, 2, 234, []), zz (.iload_n 1), (6, .invokestatic 119, 19, 2, 232, [2, 0, 1, 0, 0, 0, 0, 0, 0])]),
  (19, [false, false], [(5, .ireturn, 1, 0, 0, [])])])
noncomputable def pm_89 : mMt := ((yL_tag, cL_tag, 4, some .int, 1, 3, [(0, 9, 12, 21)]), [(0, [true, true, true, false], [zz (.aload_n 2), zz (.iconst 0), zz (.aload_n 0), zz (.iload_n 1), (6, .invokevirtual 30, 88, 1, 235, [2, 1, 1, 10, 1, 1, 5, 1, 1])]),
  (7, [false, false, false, false], [zz (.i2l), (9, .lastore, 2, 0, 0, [])]),
  (9, [false, false, false, false], [(2, .goto 6, 4, 0, 0, [])]),
  (12, [false, false, false, false], [zz (.astore_n 3), zz (.iconst 1), (5, .ireturn, 1, 0, 0, [])]),
  (15, [false, false, false, false], [zz (.iconst 0), (5, .ireturn, 1, 0, 0, [])])])
noncomputable def pm_90 : mMt := ((yX10_tag, cX10_tag, 2, some .int, 0, 2, []), [(0, [true, true], [zz (.aload_n 0), zz (.iconst 0), (0, .putfield 38, 10, 3, 191, [0]), zz (.aload_n 0), zz (.iload_n 1), (6, .invokevirtual 45, 72, 1, 219, [2, 0, 0, 11, 0, 0, 0, 0, 0])]),
  (10, [true, true], [(3, .ifCond .eq 16, 4, 2, 0, [])]),
  (13, [true, true], [zz (.aload_n 0), (0, .getfield 7, 10, 0, 109, []), zz (.sipush 800), zz (.iload_n 1), zz (.iadd), (8, .iaload, 3, 0, 0, [])]),
  (23, [false, false], [(2, .goto 8, 5, 0, 0, [])]),
  (26, [true, false], [zz (.aload_n 0), zz (.iconst 1), (6, .invokevirtual 106, 53, 5, 205, [2, 0, 0, 11, 0, 0, 0, 0, 0])]),
  (31, [false, false], [(5, .ireturn, 1, 0, 0, [])])])
noncomputable def pm_91 : mMt := ((yX9_label, cX9_label, 5, some .int, 2, 4, []), [(0, [true, true, true, true, false], [zz (.aload_n 0), zz (.iload_n 1), (6, .invokevirtual 105, 79, 1, 226, [2, 1, 2, 10, 0, 0, 0, 0, 0])]),
  (5, [true, true, true, true, false], [zz (.iload_n 2), zz (.iload_n 3), (6, .invokestatic 56, 14, 2, 180, [2, 0, 2, 0, 0, 0, 0, 0, 0])]),
  (10, [true, true, true, true, false], [(3, .ifCond .ne 13, 4, 3, 0, [])]),
  (13, [false, false, false, false, false], [(7, .new 60, 0, 0, 181, [2, 236])]),
  (23, [true, true, true, true, false], [zz (.bipush 10), zz (.aload_n 0), (0, .getfield 10, 9, 0, 95, []), (0, .getfield 67, 6, 0, 183, []), (0, .getfield 115, 2, 1, 231, []), zz (.iload_n 1), (6, .invokestatic 119, 19, 5, 232, [2, 0, 2, 0, 0, 0, 0, 0, 0])]),
  (39, [true, true, true, true, false], [zz (.imul), zz (.aload_n 0), (0, .getfield 10, 9, 0, 95, []), (0, .getfield 67, 6, 0, 183, []), (0, .getfield 123, 2, 2, 234, []), zz (.iload_n 1), (6, .invokestatic 119, 19, 6, 232, [2, 0, 2, 0, 0, 0, 0, 0, 0])]),
  (54, [true, true, true, true, false], [zz (.iadd), zz (.istore 4), zz (.aload_n 0), (0, .getfield 10, 9, 0, 95, []), (0, .getfield 67, 6, 0, 183, []), (0, .getfield 115, 2, 1, 231, []), zz (.iload_n 1), zz (.iload_n 2), (6, .invokestatic 128, 17, 7, 237, [3, 0, 2, 0, 0, 0, 0, 0, 0])]),
  (72, [true, true, false, true, true], [zz (.aload_n 0), (0, .getfield 10, 9, 0, 95, []), (0, .getfield 67, 6, 0, 183, []), (0, .getfield 123, 2, 2, 234, []), zz (.iload_n 1), zz (.iload_n 3), (6, .invokestatic 128, 17, 8, 237, [3, 0, 2, 0, 0, 0, 0, 0, 0])]),
  (87, [false, false, false, false, true], [zz (.iload 4), (5, .ireturn, 1, 0, 0, [])])])
noncomputable def pm_92 : mMt := ((yL_label, cL_label, 6, some .int, 2, 5, [(0, 12, 15, 21), (0, 12, 19, 13)]), [(0, [true, true, true, true, true, false], [zz (.aload 4), zz (.iconst 0), zz (.aload_n 0), zz (.iload_n 1), zz (.iload_n 2), zz (.iload_n 3), (6, .invokevirtual 33, 91, 1, 238, [4, 2, 2, 10, 6, 1, 5, 1, 1])]),
  (10, [false, false, false, false, false, false], [zz (.i2l), (9, .lastore, 2, 0, 0, [])]),
  (12, [false, false, false, false, false, false], [(2, .goto 11, 5, 0, 0, [])]),
  (15, [false, false, false, false, false, false], [zz (.astore 5), zz (.iconst 1), (5, .ireturn, 1, 0, 0, [])]),
  (19, [false, false, false, false, false, false], [zz (.astore 5), zz (.iconst 2), (5, .ireturn, 1, 0, 0, [])]),
  (23, [false, false, false, false, false, false], [zz (.iconst 0), (5, .ireturn, 1, 0, 0, [])])])
noncomputable def pm_93 : mMt := ((yX10_label, cX10_label, 5, some .int, 0, 4, []), [(0, [true, true, true, true, false], [zz (.aload_n 0), zz (.iconst 0), (0, .putfield 38, 10, 3, 191, [0]), zz (.aload_n 0), zz (.iload_n 1), (6, .invokevirtual 45, 72, 1, 219, [2, 0, 0, 11, 0, 0, 0, 0, 0])]),
  (10, [true, true, true, true, false], [(3, .ifCond .ne 9, 4, 2, 0, [])]),
  (13, [true, false, false, false, false], [zz (.aload_n 0), zz (.iconst 1), (6, .invokevirtual 106, 53, 3, 205, [2, 0, 0, 11, 0, 0, 0, 0, 0])]),
  (18, [false, false, false, false, false], [(5, .ireturn, 1, 0, 0, [])]),
  (19, [true, true, true, true, false], [zz (.iload_n 2), zz (.iconst 0), zz (.bipush 99), (6, .invokestatic 41, 51, 5, 190, [3, 0, 0, 0, 0, 0, 0, 0, 0])]),
  (26, [true, true, true, true, false], [(3, .ifCond .eq 13, 8, 6, 0, [])]),
  (29, [true, true, true, true, false], [zz (.iload_n 3), zz (.iconst 0), zz (.bipush 9), (6, .invokestatic 41, 51, 7, 190, [3, 0, 0, 0, 0, 0, 0, 0, 0])]),
  (36, [true, true, true, true, false], [(3, .ifCond .ne 9, 10, 8, 0, [])]),
  (39, [true, false, false, false, false], [zz (.aload_n 0), zz (.iconst 2), (6, .invokevirtual 106, 53, 9, 205, [2, 0, 0, 11, 0, 0, 0, 0, 0])]),
  (44, [false, false, false, false, false], [(5, .ireturn, 1, 0, 0, [])]),
  (45, [true, true, true, true, false], [zz (.bipush 10), zz (.aload_n 0), (0, .getfield 7, 10, 0, 109, []), zz (.sipush 600), zz (.iload_n 1), zz (.iadd), (8, .iaload, 11, 0, 0, [])]),
  (57, [true, true, true, true, false], [zz (.imul), zz (.aload_n 0), (0, .getfield 7, 10, 0, 109, []), zz (.sipush 800), zz (.iload_n 1), zz (.iadd), (8, .iaload, 12, 0, 0, [])]),
  (68, [true, true, true, true, false], [zz (.iadd), zz (.istore 4), zz (.aload_n 0), (0, .getfield 7, 10, 0, 109, []), zz (.sipush 600), zz (.iload_n 1), zz (.iadd), zz (.iload_n 2), (9, .iastore, 13, 0, 0, [])]),
  (82, [true, true, false, true, true], [zz (.aload_n 0), (0, .getfield 7, 10, 0, 109, []), zz (.sipush 800), zz (.iload_n 1), zz (.iadd), zz (.iload_n 3), (9, .iastore, 14, 0, 0, [])]),
  (93, [false, false, false, false, true], [zz (.iload 4), (5, .ireturn, 1, 0, 0, [])])])
noncomputable def pm_94 : mMt := ((yX8_canMove, cX8_canMove, 6, some .boolean, 0, 4, []), [(0, [true, true, true, true, false, false], [zz (.iconst 0), zz (.istore 4), (1, .return_, 1, 0, 0, [])]),
  (3, [true, true, true, true, true, false], [zz (.iload 4), zz (.aload_n 0), (0, .getfield 39, 8, 9, 21, []), (0, .getfield 87, 1, 1, 131, []), (3, .if_icmp .ge 64, 10, 2, 0, [])]),
  (15, [true, true, true, true, true, false], [zz (.aload_n 0), (0, .getfield 39, 8, 9, 21, []), zz (.iload 4), (6, .invokevirtual 90, 30, 3, 144, [2, 0, 0, 2, 0, 0, 0, 0, 0])]),
  (24, [true, true, true, true, true, false], [zz (.istore 5), zz (.aload_n 0), (0, .getfield 50, 8, 0, 24, []), zz (.iload 5), zz (.iconst 0), (6, .invokevirtual 94, 20, 4, 138, [3, 0, 0, 3, 0, 0, 0, 0, 0])]),
  (36, [true, true, true, true, true, true], [zz (.iload_n 1), zz (.iadd), zz (.aload_n 0), (0, .getfield 50, 8, 0, 24, []), zz (.iload 5), zz (.iconst 1), (6, .invokevirtual 94, 20, 5, 138, [3, 0, 0, 3, 0, 0, 0, 0, 0])]),
  (48, [true, true, true, true, true, true], [zz (.iload_n 2), zz (.iadd), zz (.aload_n 0), (0, .getfield 50, 8, 0, 24, []), zz (.iload 5), zz (.iconst 2), (6, .invokevirtual 94, 20, 6, 138, [3, 0, 0, 3, 0, 0, 0, 0, 0])]),
  (60, [true, true, true, true, true, false], [zz (.iload_n 3), zz (.iadd), (6, .invokestatic 97, 13, 7, 239, [3, 0, 0, 0, 0, 0, 0, 0, 0])]),
  (65, [true, true, true, true, true, false], [(3, .ifCond .ne 5, 9, 8, 0, [])]),
  (68, [false, false, false, false, false, false], [zz (.iconst 0), (5, .ireturn, 2, 0, 0, [])]),
  (70, [true, true, true, true, true, false], [zz (.iinc 4 1), (2, .goto (-70), 1, 0, 0, [])]),
  (76, [false, false, false, false, false, false], [zz (.iconst 1), (5, .ireturn, 2, 0, 0, [])])])
noncomputable def pm_95 : mMt := ((yX2_moveOn, cX2_moveOn, 4, none, 0, 4, []), [(0, [true, true, true, true], [zz (.aload_n 0), (0, .getfield 9, 2, 0, 1, []), zz (.iconst 3), zz (.iload_n 1), zz (.imul), zz (.iload_n 2), zz (.iadd), zz (.aload_n 0), zz (.iload_n 1), zz (.iload_n 2), (6, .invokevirtual 39, 20, 1, 121, [3, 0, 0, 3, 0, 0, 0, 0, 0])]),
  (15, [false, false, false, true], [zz (.iload_n 3), zz (.iadd), (6, .invokestatic 43, 17, 2, 119, [3, 0, 0, 0, 0, 0, 0, 0, 0])]),
  (20, [false, false, false, false], [(5, .return_, 0, 0, 0, [])])])
noncomputable def pm_96 : mMt := ((yX8_move, cX8_move, 6, none, 0, 4, []), [(0, [true, true, true, true, false, false], [zz (.iconst 0), zz (.istore 4), (1, .return_, 1, 0, 0, [])]),
  (3, [true, true, true, true, true, false], [zz (.iload 4), zz (.aload_n 0), (0, .getfield 39, 8, 9, 21, []), (0, .getfield 87, 1, 1, 131, []), (3, .if_icmp .ge 53, 7, 2, 0, [])]),
  (15, [true, true, true, true, true, false], [zz (.aload_n 0), (0, .getfield 39, 8, 9, 21, []), zz (.iload 4), (6, .invokevirtual 90, 30, 3, 144, [2, 0, 0, 2, 0, 0, 0, 0, 0])]),
  (24, [true, true, true, true, true, false], [zz (.istore 5), zz (.aload_n 0), (0, .getfield 50, 8, 0, 24, []), zz (.iload 5), zz (.iconst 0), zz (.iload_n 1), (6, .invokevirtual 100, 95, 4, 240, [4, 0, 0, 3, 0, 0, 0, 0, 0])]),
  (37, [true, true, true, true, true, true], [zz (.aload_n 0), (0, .getfield 50, 8, 0, 24, []), zz (.iload 5), zz (.iconst 1), zz (.iload_n 2), (6, .invokevirtual 100, 95, 5, 240, [4, 0, 0, 3, 0, 0, 0, 0, 0])]),
  (48, [true, true, true, true, true, true], [zz (.aload_n 0), (0, .getfield 50, 8, 0, 24, []), zz (.iload 5), zz (.iconst 2), zz (.iload_n 3), (6, .invokevirtual 100, 95, 6, 240, [4, 0, 0, 3, 0, 0, 0, 0, 0])]),
  (59, [true, true, true, true, true, false], [zz (.iinc 4 1), (2, .goto (-59), 1, 0, 0, [])]),
  (65, [true, false, false, false, false, false], [zz (.aload_n 0), (6, .invokevirtual 104, 38, 8, 241, [1, 0, 0, 9, 0, 0, 0, 0, 0])]),
  (69, [false, false, false, false, false, false], [(5, .return_, 0, 0, 0, [])])])
noncomputable def pm_97 : mMt := ((yX9_shift, cX9_shift, 4, some .int, 1, 4, []), [(0, [true, true, true, true], [zz (.iload_n 1), zz (.sipush 200), (6, .invokestatic 132, 12, 1, 118, [2, 0, 1, 0, 0, 0, 0, 0, 0])]),
  (7, [true, true, true, true], [(3, .ifCond .eq 23, 6, 2, 0, [])]),
  (10, [true, true, true, true], [zz (.iload_n 2), zz (.sipush 200), (6, .invokestatic 132, 12, 3, 118, [2, 0, 1, 0, 0, 0, 0, 0, 0])]),
  (17, [true, true, true, true], [(3, .ifCond .eq 13, 6, 4, 0, [])]),
  (20, [true, true, true, true], [zz (.iload_n 3), zz (.sipush 200), (6, .invokestatic 132, 12, 5, 118, [2, 0, 1, 0, 0, 0, 0, 0, 0])]),
  (27, [true, true, true, true], [(3, .ifCond .ne 13, 7, 6, 0, [])]),
  (30, [false, false, false, false], [(7, .new 60, 0, 0, 181, [1, 242])]),
  (40, [true, true, true, true], [zz (.aload_n 0), (0, .getfield 10, 9, 0, 95, []), (0, .getfield 30, 6, 1, 101, []), zz (.iload_n 1), zz (.iload_n 2), zz (.iload_n 3), (6, .invokevirtual 137, 94, 8, 243, [4, 0, 1, 9, 0, 0, 0, 0, 0])]),
  (53, [true, true, true, true], [(3, .ifCond .ne 13, 10, 9, 0, [])]),
  (56, [false, false, false, false], [(7, .new 142, 4, 0, 244, [1, 245])]),
  (66, [true, true, true, true], [zz (.aload_n 0), (0, .getfield 10, 9, 0, 95, []), (0, .getfield 30, 6, 1, 101, []), zz (.iload_n 1), zz (.iload_n 2), zz (.iload_n 3), (6, .invokevirtual 147, 96, 11, 246, [4, 0, 1, 9, 0, 0, 0, 0, 0])]),
  (79, [true, false, false, false], [zz (.aload_n 0), (0, .getfield 10, 9, 0, 95, []), (0, .getfield 30, 6, 1, 101, []), (0, .getfield 151, 8, 9, 247, []), (0, .getfield 155, 1, 1, 248, []), (5, .ireturn, 1, 0, 0, [])])])
noncomputable def pm_98 : mMt := ((yL_shift, cL_shift, 6, some .int, 1, 5, [(0, 12, 15, 13), (0, 12, 19, 40)]), [(0, [true, true, true, true, true, false], [zz (.aload 4), zz (.iconst 0), zz (.aload_n 0), zz (.iload_n 1), zz (.iload_n 2), zz (.iload_n 3), (6, .invokevirtual 37, 97, 1, 249, [4, 1, 1, 10, 5, 1, 1, 1, 6])]),
  (10, [false, false, false, false, false, false], [zz (.i2l), (9, .lastore, 2, 0, 0, [])]),
  (12, [false, false, false, false, false, false], [(2, .goto 11, 5, 0, 0, [])]),
  (15, [false, false, false, false, false, false], [zz (.astore 5), zz (.iconst 1), (5, .ireturn, 1, 0, 0, [])]),
  (19, [false, false, false, false, false, false], [zz (.astore 5), zz (.iconst 2), (5, .ireturn, 1, 0, 0, [])]),
  (23, [false, false, false, false, false, false], [zz (.iconst 0), (5, .ireturn, 1, 0, 0, [])])])
noncomputable def pm_99 : mMt := ((yX10_mayShift, cX10_mayShift, 5, some .boolean, 0, 5, []), [(0, [true, true, true, true, true], [zz (.aload_n 0), (0, .getfield 7, 10, 0, 109, []), zz (.sipush 1200), zz (.iload_n 1), zz (.iadd), (8, .iaload, 1, 0, 0, [])]),
  (10, [true, true, true, true, true], [(3, .ifCond .eq 44, 7, 2, 0, [])]),
  (13, [true, true, true, true, true], [zz (.aload_n 0), (0, .getfield 7, 10, 0, 109, []), zz (.iconst 3), zz (.iload_n 1), zz (.imul), (8, .iaload, 3, 0, 0, [])]),
  (21, [true, true, true, true, true], [zz (.iload_n 2), zz (.iadd), zz (.aload_n 0), (0, .getfield 7, 10, 0, 109, []), zz (.iconst 3), zz (.iload_n 1), zz (.imul), zz (.iconst 1), zz (.iadd), (8, .iaload, 4, 0, 0, [])]),
  (33, [true, true, false, true, true], [zz (.iload_n 3), zz (.iadd), zz (.aload_n 0), (0, .getfield 7, 10, 0, 109, []), zz (.iconst 3), zz (.iload_n 1), zz (.imul), zz (.iconst 2), zz (.iadd), (8, .iaload, 5, 0, 0, [])]),
  (45, [false, false, false, false, true], [zz (.iload 4), zz (.iadd), (6, .invokestatic 103, 52, 6, 204, [3, 0, 0, 0, 0, 0, 0, 0, 0])]),
  (51, [false, false, false, false, false], [(3, .ifCond .eq 7, 8, 7, 0, [])]),
  (54, [false, false, false, false, false], [zz (.iconst 1), (2, .goto 4, 9, 0, 0, [])]),
  (58, [false, false, false, false, false], [zz (.iconst 0), (1, .return_, 9, 0, 0, [])]),
  (59, [false, false, false, false, false], [(5, .ireturn, 2, 0, 0, [])])])
noncomputable def pm_100 : mMt := ((yX10_shift, cX10_shift, 5, some .int, 0, 4, []), [(0, [true, true, true, true, false], [zz (.aload_n 0), zz (.iconst 0), (0, .putfield 38, 10, 3, 191, [0]), zz (.iload_n 1), zz (.sipush (-200)), zz (.sipush 200), (6, .invokestatic 41, 51, 1, 190, [3, 0, 0, 0, 0, 0, 0, 0, 0])]),
  (15, [true, true, true, true, false], [(3, .ifCond .eq 29, 6, 2, 0, [])]),
  (18, [true, true, true, true, false], [zz (.iload_n 2), zz (.sipush (-200)), zz (.sipush 200), (6, .invokestatic 41, 51, 3, 190, [3, 0, 0, 0, 0, 0, 0, 0, 0])]),
  (28, [true, true, true, true, false], [(3, .ifCond .eq 16, 6, 4, 0, [])]),
  (31, [true, true, true, true, false], [zz (.iload_n 3), zz (.sipush (-200)), zz (.sipush 200), (6, .invokestatic 41, 51, 5, 190, [3, 0, 0, 0, 0, 0, 0, 0, 0])]),
  (41, [true, true, true, true, false], [(3, .ifCond .ne 9, 8, 6, 0, [])]),
  (44, [true, false, false, false, false], [zz (.aload_n 0), zz (.iconst 1), (6, .invokevirtual 106, 53, 7, 205, [2, 0, 0, 11, 0, 0, 0, 0, 0])]),
  (49, [false, false, false, false, false], [(5, .ireturn, 1, 0, 0, [])]),
  (50, [true, true, true, true, false], [zz (.iconst 0), zz (.istore 4), (1, .return_, 9, 0, 0, [])]),
  (53, [true, true, true, true, true], [zz (.iload 4), zz (.aload_n 0), (0, .getfield 7, 10, 0, 109, []), zz (.sipush 2001), (8, .iaload, 10, 0, 0, [])]),
  (63, [true, true, true, true, true], [(3, .if_icmp .ge 27, 16, 11, 0, [])]),
  (66, [true, true, true, true, true], [zz (.aload_n 0), zz (.iload 4), zz (.iload_n 1), zz (.iload_n 2), zz (.iload_n 3), (6, .invokevirtual 126, 99, 12, 250, [5, 0, 0, 11, 0, 0, 0, 0, 0])]),
  (75, [true, true, true, true, true], [(3, .ifCond .ne 9, 15, 13, 0, [])]),
  (78, [true, false, false, false, false], [zz (.aload_n 0), zz (.iconst 2), (6, .invokevirtual 106, 53, 14, 205, [2, 0, 0, 11, 0, 0, 0, 0, 0])]),
  (83, [false, false, false, false, false], [(5, .ireturn, 1, 0, 0, [])]),
  (84, [true, true, true, true, true], [zz (.iinc 4 1), (2, .goto (-34), 9, 0, 0, [])]),
  (90, [true, true, true, true, false], [zz (.iconst 0), zz (.istore 4), (1, .return_, 17, 0, 0, [])]),
  (93, [true, true, true, true, true], [zz (.iload 4), zz (.aload_n 0), (0, .getfield 7, 10, 0, 109, []), zz (.sipush 2001), (8, .iaload, 18, 0, 0, [])]),
  (103, [true, true, true, true, true], [(3, .if_icmp .ge 67, 28, 19, 0, [])]),
  (106, [true, true, true, true, true], [zz (.aload_n 0), (0, .getfield 7, 10, 0, 109, []), zz (.sipush 1200), zz (.iload 4), zz (.iadd), (8, .iaload, 20, 0, 0, [])]),
  (117, [true, true, true, true, true], [zz (.iconst 1), (3, .if_icmp .ne 46, 27, 21, 0, [])]),
  (121, [true, true, true, true, true], [zz (.aload_n 0), (0, .getfield 7, 10, 0, 109, []), zz (.iconst 3), zz (.iload 4), zz (.imul), zz (.dup2), (8, .iaload, 22, 0, 0, [])]),
  (131, [true, true, true, true, true], [zz (.iload_n 1), zz (.iadd), (9, .iastore, 23, 0, 0, [])]),
  (134, [true, true, true, true, true], [zz (.aload_n 0), (0, .getfield 7, 10, 0, 109, []), zz (.iconst 3), zz (.iload 4), zz (.imul), zz (.iconst 1), zz (.iadd), zz (.dup2), (8, .iaload, 24, 0, 0, [])]),
  (146, [true, true, true, true, true], [zz (.iload_n 2), zz (.iadd), (9, .iastore, 25, 0, 0, [])]),
  (149, [true, true, true, true, true], [zz (.aload_n 0), (0, .getfield 7, 10, 0, 109, []), zz (.iconst 3), zz (.iload 4), zz (.imul), zz (.iconst 2), zz (.iadd), zz (.dup2), (8, .iaload, 26, 0, 0, [])]),
  (161, [true, true, true, true, true], [zz (.iload_n 3), zz (.iadd), (9, .iastore, 27, 0, 0, [])]),
  (164, [true, true, true, true, true], [zz (.iinc 4 1), (2, .goto (-74), 17, 0, 0, [])]),
  (170, [true, false, false, false, false], [zz (.aload_n 0), (6, .invokevirtual 120, 75, 29, 222, [1, 0, 0, 11, 0, 0, 0, 0, 0])]),
  (174, [false, false, false, false, false], [(5, .ireturn, 1, 0, 0, [])])])
noncomputable def pm_101 : mMt := ((yX9_root, cX9_root, 1, some .int, 1, 1, []), [(0, [true], [zz (.aload_n 0), (0, .getfield 10, 9, 0, 95, []), (0, .getfield 30, 6, 1, 101, []), (0, .getfield 160, 8, 11, 251, []), zz (.iconst (-1)), (3, .if_icmp .ne 13, 2, 1, 0, [])]),
  (14, [false], [(7, .new 92, 2, 0, 214, [1, 252])]),
  (24, [true], [zz (.aload_n 0), (0, .getfield 10, 9, 0, 95, []), (0, .getfield 30, 6, 1, 101, []), (0, .getfield 160, 8, 11, 251, []), (5, .ireturn, 1, 0, 0, [])])])
noncomputable def pm_102 : mMt := ((yL_root, cL_root, 3, some .int, 1, 2, [(0, 8, 11, 21)]), [(0, [true, true, false], [zz (.aload_n 1), zz (.iconst 0), zz (.aload_n 0), (6, .invokevirtual 42, 101, 1, 253, [1, 1, 1, 10, 1, 1, 5, 1, 1])]),
  (6, [false, false, false], [zz (.i2l), (9, .lastore, 2, 0, 0, [])]),
  (8, [false, false, false], [(2, .goto 6, 4, 0, 0, [])]),
  (11, [false, false, false], [zz (.astore_n 2), zz (.iconst 1), (5, .ireturn, 1, 0, 0, [])]),
  (14, [false, false, false], [zz (.iconst 0), (5, .ireturn, 1, 0, 0, [])])])
noncomputable def pm_103 : mMt := ((yX10_root, cX10_root, 1, some .int, 0, 1, []), [(0, [true], [zz (.aload_n 0), zz (.iconst 0), (0, .putfield 38, 10, 3, 191, [0]), zz (.aload_n 0), (0, .getfield 7, 10, 0, 109, []), zz (.sipush 2000), (8, .iaload, 1, 0, 0, [])]),
  (13, [true], [(3, .ifCond .ge 11, 4, 2, 0, [])]),
  (16, [true], [zz (.aload_n 0), zz (.iconst 1), (6, .invokevirtual 106, 53, 3, 205, [2, 0, 0, 11, 0, 0, 0, 0, 0])]),
  (21, [false], [(2, .goto 11, 5, 0, 0, [])]),
  (24, [true], [zz (.aload_n 0), (0, .getfield 7, 10, 0, 109, []), zz (.sipush 2000), (8, .iaload, 5, 0, 0, [])]),
  (32, [false], [(5, .ireturn, 1, 0, 0, [])])])
noncomputable def pm_104 : mMt := ((yX8_contains, cX8_contains, 2, some .boolean, 0, 2, []), [(0, [true, true], [zz (.aload_n 0), (0, .getfield 18, 8, 3, 13, []), zz (.iload_n 1), (6, .invokestatic 60, 19, 1, 124, [2, 0, 0, 0, 0, 0, 0, 0, 0])]),
  (8, [false, false], [(3, .ifCond .lt 7, 3, 2, 0, [])]),
  (11, [false, false], [zz (.iconst 1), (2, .goto 4, 4, 0, 0, [])]),
  (15, [false, false], [zz (.iconst 0), (1, .return_, 4, 0, 0, [])]),
  (16, [false, false], [(5, .ireturn, 2, 0, 0, [])])])
noncomputable def pm_105 : mMt := ((yX9_requireNode, cX9_requireNode, 2, none, 1, 2, []), [(0, [true, true], [zz (.aload_n 0), (0, .getfield 10, 9, 0, 95, []), (0, .getfield 30, 6, 1, 101, []), zz (.iload_n 1), (6, .invokevirtual 400, 104, 1, 254, [2, 0, 1, 9, 0, 0, 0, 0, 0])]),
  (11, [false, false], [(3, .ifCond .ne 14, 3, 2, 0, [])]),
  (14, [false, false], [(7, .new 92, 2, 0, 214, [1, 255])]),
  (25, [false, false], [(5, .return_, 0, 0, 0, [])])])
noncomputable def pm_106 : mMt := ((yX9_child, cX9_child, 3, some .int, 2, 3, []), [(0, [true, true, true], [zz (.aload_n 0), zz (.iload_n 1), (6, .invokevirtual 165, 105, 1, 256, [2, 1, 2, 10, 0, 0, 0, 0, 0])]),
  (5, [true, true, true], [zz (.iload_n 2), (3, .ifCond .eq 18, 4, 2, 0, [])]),
  (9, [true, true, true], [zz (.iload_n 2), zz (.iconst 1), (3, .if_icmp .eq 13, 4, 3, 0, [])]),
  (14, [false, false, false], [(7, .new 60, 0, 0, 181, [2, 257])]),
  (24, [true, true, true], [zz (.aload_n 0), (0, .getfield 10, 9, 0, 95, []), (0, .getfield 30, 6, 1, 101, []), zz (.iload_n 1), zz (.iload_n 2), (6, .invokevirtual 170, 28, 5, 258, [3, 0, 2, 9, 0, 0, 0, 0, 0])]),
  (36, [false, false, false], [(5, .ireturn, 1, 0, 0, [])])])
noncomputable def pm_107 : mMt := ((yL_child, cL_child, 5, some .int, 2, 4, [(0, 10, 13, 21), (0, 10, 17, 13)]), [(0, [true, true, true, true, false], [zz (.aload_n 3), zz (.iconst 0), zz (.aload_n 0), zz (.iload_n 1), zz (.iload_n 2), (6, .invokevirtual 46, 106, 1, 259, [3, 2, 2, 10, 6, 1, 5, 1, 1])]),
  (8, [false, false, false, false, false], [zz (.i2l), (9, .lastore, 2, 0, 0, [])]),
  (10, [false, false, false, false, false], [(2, .goto 11, 5, 0, 0, [])]),
  (13, [false, false, false, false, false], [zz (.astore 4), zz (.iconst 1), (5, .ireturn, 1, 0, 0, [])]),
  (17, [false, false, false, false, false], [zz (.astore 4), zz (.iconst 2), (5, .ireturn, 1, 0, 0, [])]),
  (21, [false, false, false, false, false], [zz (.iconst 0), (5, .ireturn, 1, 0, 0, [])])])
noncomputable def pm_108 : mMt := ((yX10_isThere, cX10_isThere, 2, some .boolean, 0, 2, []), [(0, [true, true], [zz (.aload_n 0), zz (.iload_n 1), (6, .invokevirtual 45, 72, 1, 219, [2, 0, 0, 11, 0, 0, 0, 0, 0])]),
  (5, [true, true], [(3, .ifCond .eq 21, 5, 2, 0, [])]),
  (8, [true, true], [zz (.aload_n 0), (0, .getfield 7, 10, 0, 109, []), zz (.sipush 1200), zz (.iload_n 1), zz (.iadd), (8, .iaload, 3, 0, 0, [])]),
  (18, [false, false], [zz (.iconst 1), (3, .if_icmp .ne 7, 5, 4, 0, [])]),
  (22, [false, false], [zz (.iconst 1), (2, .goto 4, 6, 0, 0, [])]),
  (26, [false, false], [zz (.iconst 0), (1, .return_, 6, 0, 0, [])]),
  (27, [false, false], [(5, .ireturn, 2, 0, 0, [])])])
noncomputable def pm_109 : mMt := ((yX10_child, cX10_child, 3, some .int, 0, 3, []), [(0, [true, true, true], [zz (.aload_n 0), zz (.iconst 0), (0, .putfield 38, 10, 3, 191, [0]), zz (.aload_n 0), zz (.iload_n 1), (6, .invokevirtual 130, 108, 1, 260, [2, 0, 0, 11, 0, 0, 0, 0, 0])]),
  (10, [true, true, true], [(3, .ifCond .ne 9, 4, 2, 0, [])]),
  (13, [true, false, false], [zz (.aload_n 0), zz (.iconst 1), (6, .invokevirtual 106, 53, 3, 205, [2, 0, 0, 11, 0, 0, 0, 0, 0])]),
  (18, [false, false, false], [(5, .ireturn, 1, 0, 0, [])]),
  (19, [true, true, true], [zz (.iload_n 2), zz (.iconst 0), zz (.iconst 1), (6, .invokestatic 41, 51, 5, 190, [3, 0, 0, 0, 0, 0, 0, 0, 0])]),
  (25, [true, true, true], [(3, .ifCond .ne 9, 8, 6, 0, [])]),
  (28, [true, false, false], [zz (.aload_n 0), zz (.iconst 2), (6, .invokevirtual 106, 53, 7, 205, [2, 0, 0, 11, 0, 0, 0, 0, 0])]),
  (33, [false, false, false], [(5, .ireturn, 1, 0, 0, [])]),
  (34, [true, true, true], [zz (.iload_n 2), (3, .ifCond .ne 16, 11, 9, 0, [])]),
  (38, [true, true, false], [zz (.aload_n 0), (0, .getfield 7, 10, 0, 109, []), zz (.sipush 1400), zz (.iload_n 1), zz (.iadd), (8, .iaload, 10, 0, 0, [])]),
  (48, [false, false, false], [(2, .goto 13, 12, 0, 0, [])]),
  (51, [true, true, false], [zz (.aload_n 0), (0, .getfield 7, 10, 0, 109, []), zz (.sipush 1600), zz (.iload_n 1), zz (.iadd), (8, .iaload, 12, 0, 0, [])]),
  (61, [false, false, false], [(5, .ireturn, 1, 0, 0, [])])])
noncomputable def pm_110 : mMt := ((yX9_parent, cX9_parent, 2, some .int, 1, 2, []), [(0, [true, true], [zz (.aload_n 0), zz (.iload_n 1), (6, .invokevirtual 165, 105, 1, 256, [2, 1, 1, 10, 0, 0, 0, 0, 0])]),
  (5, [true, true], [zz (.aload_n 0), (0, .getfield 10, 9, 0, 95, []), (0, .getfield 30, 6, 1, 101, []), (0, .getfield 173, 8, 2, 261, []), zz (.iload_n 1), (6, .invokestatic 119, 19, 2, 232, [2, 0, 1, 0, 0, 0, 0, 0, 0])]),
  (19, [false, false], [(5, .ireturn, 1, 0, 0, [])])])
noncomputable def pm_111 : mMt := ((yL_parent, cL_parent, 4, some .int, 1, 3, [(0, 9, 12, 21)]), [(0, [true, true, true, false], [zz (.aload_n 2), zz (.iconst 0), zz (.aload_n 0), zz (.iload_n 1), (6, .invokevirtual 49, 110, 1, 262, [2, 1, 1, 10, 1, 1, 5, 1, 1])]),
  (7, [false, false, false, false], [zz (.i2l), (9, .lastore, 2, 0, 0, [])]),
  (9, [false, false, false, false], [(2, .goto 6, 4, 0, 0, [])]),
  (12, [false, false, false, false], [zz (.astore_n 3), zz (.iconst 1), (5, .ireturn, 1, 0, 0, [])]),
  (15, [false, false, false, false], [zz (.iconst 0), (5, .ireturn, 1, 0, 0, [])])])
noncomputable def pm_112 : mMt := ((yX10_parent, cX10_parent, 2, some .int, 0, 2, []), [(0, [true, true], [zz (.aload_n 0), zz (.iconst 0), (0, .putfield 38, 10, 3, 191, [0]), zz (.aload_n 0), zz (.iload_n 1), (6, .invokevirtual 130, 108, 1, 260, [2, 0, 0, 11, 0, 0, 0, 0, 0])]),
  (10, [true, true], [(3, .ifCond .eq 16, 4, 2, 0, [])]),
  (13, [true, true], [zz (.aload_n 0), (0, .getfield 7, 10, 0, 109, []), zz (.sipush 1800), zz (.iload_n 1), zz (.iadd), (8, .iaload, 3, 0, 0, [])]),
  (23, [false, false], [(2, .goto 8, 5, 0, 0, [])]),
  (26, [true, false], [zz (.aload_n 0), zz (.iconst 1), (6, .invokevirtual 106, 53, 5, 205, [2, 0, 0, 11, 0, 0, 0, 0, 0])]),
  (31, [false, false], [(5, .ireturn, 1, 0, 0, [])])])
noncomputable def pm_113 : mMt := ((yX9_depth, cX9_depth, 2, some .int, 1, 2, []), [(0, [true, true], [zz (.aload_n 0), zz (.iload_n 1), (6, .invokevirtual 165, 105, 1, 256, [2, 1, 1, 10, 0, 0, 0, 0, 0])]),
  (5, [true, true], [zz (.aload_n 0), (0, .getfield 10, 9, 0, 95, []), (0, .getfield 30, 6, 1, 101, []), (0, .getfield 176, 8, 3, 263, []), zz (.iload_n 1), (6, .invokestatic 119, 19, 2, 232, [2, 0, 1, 0, 0, 0, 0, 0, 0])]),
  (19, [false, false], [(5, .ireturn, 1, 0, 0, [])])])
noncomputable def pm_114 : mMt := ((yL_depth, cL_depth, 4, some .int, 1, 3, [(0, 9, 12, 21)]), [(0, [true, true, true, false], [zz (.aload_n 2), zz (.iconst 0), zz (.aload_n 0), zz (.iload_n 1), (6, .invokevirtual 52, 113, 1, 264, [2, 1, 1, 10, 1, 1, 5, 1, 1])]),
  (7, [false, false, false, false], [zz (.i2l), (9, .lastore, 2, 0, 0, [])]),
  (9, [false, false, false, false], [(2, .goto 6, 4, 0, 0, [])]),
  (12, [false, false, false, false], [zz (.astore_n 3), zz (.iconst 1), (5, .ireturn, 1, 0, 0, [])]),
  (15, [false, false, false, false], [zz (.iconst 0), (5, .ireturn, 1, 0, 0, [])])])
noncomputable def pm_115 : mMt := ((yX10_depth, cX10_depth, 2, some .int, 0, 2, []), [(0, [true, true], [zz (.aload_n 0), zz (.iconst 0), (0, .putfield 38, 10, 3, 191, [0]), zz (.aload_n 0), zz (.iload_n 1), (6, .invokevirtual 130, 108, 1, 260, [2, 0, 0, 11, 0, 0, 0, 0, 0])]),
  (10, [true, true], [(3, .ifCond .eq 11, 4, 2, 0, [])]),
  (13, [true, true], [zz (.aload_n 0), zz (.iload_n 1), (6, .invokevirtual 83, 60, 3, 199, [2, 0, 0, 11, 0, 0, 0, 0, 0])]),
  (18, [false, false], [(2, .goto 8, 5, 0, 0, [])]),
  (21, [true, false], [zz (.aload_n 0), zz (.iconst 1), (6, .invokevirtual 106, 53, 5, 205, [2, 0, 0, 11, 0, 0, 0, 0, 0])]),
  (26, [false, false], [(5, .ireturn, 1, 0, 0, [])])])
noncomputable def pm_116 : mMt := ((yX8_greatestDepth, cX8_greatestDepth, 3, some .int, 0, 1, []), [(0, [true, false, false], [zz (.iconst (-1)), zz (.istore_n 1), zz (.iconst 0), zz (.istore_n 2), (1, .return_, 1, 0, 0, [])]),
  (4, [true, true, true], [zz (.iload_n 2), zz (.aload_n 0), (0, .getfield 18, 8, 3, 13, []), (8, .arraylength, 2, 0, 0, [])]),
  (10, [true, true, true], [(3, .if_icmp .ge 20, 5, 3, 0, [])]),
  (13, [true, true, true], [zz (.iload_n 1), zz (.aload_n 0), (0, .getfield 18, 8, 3, 13, []), zz (.iload_n 2), (8, .iaload, 4, 0, 0, [])]),
  (20, [true, false, true], [(0, .invokestatic 64, 1, 0, 142, []), zz (.istore_n 1), zz (.iinc 2 1), (2, .goto (-23), 1, 0, 0, [])]),
  (30, [false, true, false], [zz (.iload_n 1), (5, .ireturn, 1, 0, 0, [])])])
noncomputable def pm_117 : mMt := ((yX9_height, cX9_height, 1, some .int, 0, 1, []), [(0, [true], [zz (.aload_n 0), (0, .getfield 10, 9, 0, 95, []), (0, .getfield 30, 6, 1, 101, []), (6, .invokevirtual 179, 116, 1, 265, [1, 0, 0, 9, 0, 0, 0, 0, 0])]),
  (10, [false], [zz (.iconst 1), zz (.iadd), (5, .ireturn, 1, 0, 0, [])])])
noncomputable def pm_118 : mMt := ((yX10_heightOf, cX10_heightOf, 4, some .int, 0, 2, []), [(0, [true, true, false, false], [zz (.iload_n 1), (3, .ifCond .ge 5, 2, 1, 0, [])]),
  (4, [false, false, false, false], [zz (.iconst 0), (5, .ireturn, 1, 0, 0, [])]),
  (6, [true, true, false, false], [zz (.aload_n 0), zz (.aload_n 0), (0, .getfield 7, 10, 0, 109, []), zz (.sipush 1400), zz (.iload_n 1), zz (.iadd), (8, .iaload, 3, 0, 0, [])]),
  (17, [true, true, false, false], [(6, .invokevirtual 62, 118, 4, 266, [2, 0, 0, 11, 0, 0, 0, 0, 0])]),
  (20, [true, true, false, false], [zz (.istore_n 2), zz (.aload_n 0), zz (.aload_n 0), (0, .getfield 7, 10, 0, 109, []), zz (.sipush 1600), zz (.iload_n 1), zz (.iadd), (8, .iaload, 5, 0, 0, [])]),
  (32, [false, false, true, false], [(6, .invokevirtual 62, 118, 6, 266, [2, 0, 0, 11, 0, 0, 0, 0, 0])]),
  (35, [false, false, true, false], [zz (.istore_n 3), zz (.iconst 1), zz (.iload_n 2), zz (.iload_n 3), (3, .if_icmp .le 7, 8, 7, 0, [])]),
  (42, [false, false, true, false], [zz (.iload_n 2), (2, .goto 4, 9, 0, 0, [])]),
  (46, [false, false, false, true], [zz (.iload_n 3), (1, .return_, 9, 0, 0, [])]),
  (47, [false, false, false, false], [zz (.iadd), (5, .ireturn, 1, 0, 0, [])])])
noncomputable def pm_119 : mMt := ((yX10_height, cX10_height, 1, some .int, 0, 1, []), [(0, [true], [zz (.aload_n 0), zz (.iconst 0), (0, .putfield 38, 10, 3, 191, [0]), zz (.aload_n 0), zz (.aload_n 0), (0, .getfield 7, 10, 0, 109, []), zz (.sipush 2000), (8, .iaload, 1, 0, 0, [])]),
  (14, [false], [(6, .invokevirtual 62, 118, 2, 266, [2, 0, 0, 11, 0, 0, 0, 0, 0])]),
  (17, [false], [(5, .ireturn, 1, 0, 0, [])])])
end
section
/-! THE BLOCKS OF THE METHODS, 2 -/
noncomputable def pm_120 : mMt := ((yX9_subtree, cX9_subtree, 3, some .int, 2, 3, []), [(0, [true, true, true], [zz (.aload_n 0), zz (.iload_n 1), (6, .invokevirtual 165, 105, 1, 256, [2, 1, 2, 10, 0, 0, 0, 0, 0])]),
  (5, [true, true, true], [zz (.iload_n 2), (3, .ifCond .eq 18, 4, 2, 0, [])]),
  (9, [true, true, true], [zz (.iload_n 2), zz (.iconst 1), (3, .if_icmp .eq 13, 4, 3, 0, [])]),
  (14, [false, false, false], [(7, .new 60, 0, 0, 181, [2, 267])]),
  (24, [true, true, true], [zz (.iload_n 2), (3, .ifCond .ne 17, 7, 5, 0, [])]),
  (28, [true, true, false], [zz (.aload_n 0), (0, .getfield 10, 9, 0, 95, []), (0, .getfield 30, 6, 1, 101, []), zz (.iload_n 1), (6, .invokevirtual 185, 33, 6, 268, [2, 0, 2, 9, 0, 0, 0, 0, 0])]),
  (39, [false, false, false], [(2, .goto 14, 8, 0, 0, [])]),
  (42, [true, true, false], [zz (.aload_n 0), (0, .getfield 10, 9, 0, 95, []), (0, .getfield 30, 6, 1, 101, []), zz (.iload_n 1), (6, .invokevirtual 189, 34, 8, 269, [2, 0, 2, 9, 0, 0, 0, 0, 0])]),
  (53, [false, false, false], [(5, .ireturn, 1, 0, 0, [])])])
noncomputable def pm_121 : mMt := ((yL_subtree, cL_subtree, 5, some .int, 2, 4, [(0, 10, 13, 21), (0, 10, 17, 13)]), [(0, [true, true, true, true, false], [zz (.aload_n 3), zz (.iconst 0), zz (.aload_n 0), zz (.iload_n 1), zz (.iload_n 2), (6, .invokevirtual 55, 120, 1, 270, [3, 2, 2, 10, 6, 1, 5, 1, 1])]),
  (8, [false, false, false, false, false], [zz (.i2l), (9, .lastore, 2, 0, 0, [])]),
  (10, [false, false, false, false, false], [(2, .goto 11, 5, 0, 0, [])]),
  (13, [false, false, false, false, false], [zz (.astore 4), zz (.iconst 1), (5, .ireturn, 1, 0, 0, [])]),
  (17, [false, false, false, false, false], [zz (.astore 4), zz (.iconst 2), (5, .ireturn, 1, 0, 0, [])]),
  (21, [false, false, false, false, false], [zz (.iconst 0), (5, .ireturn, 1, 0, 0, [])])])
noncomputable def pm_122 : mMt := ((yX10_livesOf, cX10_livesOf, 2, some .int, 0, 2, []), [(0, [true, true], [zz (.iload_n 1), (3, .ifCond .ge 7, 2, 1, 0, [])]),
  (4, [false, false], [zz (.iconst 0), (2, .goto 43, 8, 0, 0, [])]),
  (8, [true, true], [zz (.aload_n 0), (0, .getfield 7, 10, 0, 109, []), zz (.sipush 1000), zz (.iload_n 1), zz (.iadd), (8, .iaload, 3, 0, 0, [])]),
  (18, [true, true], [zz (.aload_n 0), zz (.aload_n 0), (0, .getfield 7, 10, 0, 109, []), zz (.sipush 1400), zz (.iload_n 1), zz (.iadd), (8, .iaload, 4, 0, 0, [])]),
  (29, [true, true], [(6, .invokevirtual 59, 122, 5, 271, [2, 0, 0, 11, 0, 0, 0, 0, 0])]),
  (32, [true, true], [zz (.iadd), zz (.aload_n 0), zz (.aload_n 0), (0, .getfield 7, 10, 0, 109, []), zz (.sipush 1600), zz (.iload_n 1), zz (.iadd), (8, .iaload, 6, 0, 0, [])]),
  (44, [false, false], [(6, .invokevirtual 59, 122, 7, 271, [2, 0, 0, 11, 0, 0, 0, 0, 0])]),
  (47, [false, false], [zz (.iadd), (1, .return_, 8, 0, 0, [])]),
  (48, [false, false], [(5, .ireturn, 1, 0, 0, [])])])
noncomputable def pm_123 : mMt := ((yX10_subtree, cX10_subtree, 3, some .int, 0, 3, []), [(0, [true, true, true], [zz (.aload_n 0), zz (.iconst 0), (0, .putfield 38, 10, 3, 191, [0]), zz (.aload_n 0), zz (.iload_n 1), (6, .invokevirtual 130, 108, 1, 260, [2, 0, 0, 11, 0, 0, 0, 0, 0])]),
  (10, [true, true, true], [(3, .ifCond .ne 9, 4, 2, 0, [])]),
  (13, [true, false, false], [zz (.aload_n 0), zz (.iconst 1), (6, .invokevirtual 106, 53, 3, 205, [2, 0, 0, 11, 0, 0, 0, 0, 0])]),
  (18, [false, false, false], [(5, .ireturn, 1, 0, 0, [])]),
  (19, [true, true, true], [zz (.iload_n 2), zz (.iconst 0), zz (.iconst 1), (6, .invokestatic 41, 51, 5, 190, [3, 0, 0, 0, 0, 0, 0, 0, 0])]),
  (25, [true, true, true], [(3, .ifCond .ne 9, 8, 6, 0, [])]),
  (28, [true, false, false], [zz (.aload_n 0), zz (.iconst 2), (6, .invokevirtual 106, 53, 7, 205, [2, 0, 0, 11, 0, 0, 0, 0, 0])]),
  (33, [false, false, false], [(5, .ireturn, 1, 0, 0, [])]),
  (34, [true, true, true], [zz (.iload_n 2), (3, .ifCond .ne 11, 11, 9, 0, [])]),
  (38, [true, true, false], [zz (.aload_n 0), zz (.iload_n 1), (6, .invokevirtual 55, 58, 10, 194, [2, 0, 0, 11, 0, 0, 0, 0, 0])]),
  (43, [false, false, false], [(2, .goto 8, 12, 0, 0, [])]),
  (46, [true, true, false], [zz (.aload_n 0), zz (.iload_n 1), (6, .invokevirtual 59, 122, 12, 271, [2, 0, 0, 11, 0, 0, 0, 0, 0])]),
  (51, [false, false, false], [(5, .ireturn, 1, 0, 0, [])])])
noncomputable def pm_124 : mMt := ((yX5_isExcluded, cX5_isExcluded, 2, some .boolean, 0, 2, []), [(0, [true, true], [zz (.aload_n 0), (0, .getfield 32, 5, 4, 46, []), zz (.iload_n 1), (6, .invokestatic 35, 19, 1, 146, [2, 0, 0, 0, 0, 0, 0, 0, 0])]),
  (8, [false, false], [zz (.iconst 1), (3, .if_icmp .ne 7, 3, 2, 0, [])]),
  (12, [false, false], [zz (.iconst 1), (2, .goto 4, 4, 0, 0, [])]),
  (16, [false, false], [zz (.iconst 0), (1, .return_, 4, 0, 0, [])]),
  (17, [false, false], [(5, .ireturn, 2, 0, 0, [])])])
noncomputable def pm_125 : mMt := ((yX4_isVisible, cX4_isVisible, 2, some .boolean, 0, 2, []), [(0, [true, true], [zz (.aload_n 0), (0, .getfield 44, 4, 0, 71, []), zz (.iload_n 1), (6, .invokevirtual 55, 32, 1, 272, [2, 0, 0, 3, 0, 0, 0, 0, 0])]),
  (8, [true, true], [(3, .ifCond .eq 28, 6, 2, 0, [])]),
  (11, [true, true], [zz (.aload_n 0), (0, .getfield 54, 4, 2, 75, []), zz (.aload_n 0), (0, .getfield 44, 4, 0, 71, []), (0, .getfield 61, 2, 2, 273, []), zz (.iload_n 1), (6, .invokestatic 64, 19, 3, 274, [2, 0, 0, 0, 0, 0, 0, 0, 0])]),
  (26, [false, false], [(6, .invokevirtual 68, 124, 4, 275, [2, 0, 0, 6, 0, 0, 0, 0, 0])]),
  (29, [false, false], [(3, .ifCond .ne 7, 6, 5, 0, [])]),
  (32, [false, false], [zz (.iconst 1), (2, .goto 4, 7, 0, 0, [])]),
  (36, [false, false], [zz (.iconst 0), (1, .return_, 7, 0, 0, [])]),
  (37, [false, false], [(5, .ireturn, 2, 0, 0, [])])])
noncomputable def pm_126 : mMt := ((yX4_countVisible, cX4_countVisible, 2, some .int, 0, 1, []), [(0, [true, false], [zz (.aload_n 0), (0, .getfield 12, 4, 3, 63, []), (6, .invokevirtual 73, 24, 1, 276, [1, 0, 0, 2, 0, 0, 0, 0, 0])]),
  (7, [true, false], [zz (.iconst 0), zz (.istore_n 1), (1, .return_, 2, 0, 0, [])]),
  (9, [true, true], [zz (.iload_n 1), zz (.aload_n 0), (0, .getfield 44, 4, 0, 71, []), (0, .getfield 76, 2, 4, 277, []), (3, .if_icmp .ge 25, 7, 3, 0, [])]),
  (20, [true, true], [zz (.aload_n 0), zz (.iload_n 1), (6, .invokevirtual 79, 125, 4, 278, [2, 0, 0, 5, 0, 0, 0, 0, 0])]),
  (25, [true, true], [(3, .ifCond .eq 11, 6, 5, 0, [])]),
  (28, [true, true], [zz (.aload_n 0), (0, .getfield 12, 4, 3, 63, []), zz (.iload_n 1), (6, .invokevirtual 82, 25, 6, 279, [2, 0, 0, 2, 0, 0, 0, 0, 0])]),
  (36, [true, true], [zz (.iinc 1 1), (2, .goto (-30), 2, 0, 0, [])]),
  (42, [true, false], [zz (.aload_n 0), (0, .getfield 12, 4, 3, 63, []), (0, .getfield 86, 1, 1, 280, []), (5, .ireturn, 1, 0, 0, [])])])
noncomputable def pm_127 : mMt := ((yX9_count, cX9_count, 2, some .int, 1, 2, []), [(0, [true, true], [zz (.iload_n 1), (4, .tableswitch 86 0 3 #[31, 42, 67, 78], 6, 0, 0, [1, 2, 3, 4])]),
  (32, [true, false], [zz (.aload_n 0), (0, .getfield 10, 9, 0, 95, []), (0, .getfield 67, 6, 0, 183, []), (0, .getfield 101, 2, 5, 217, []), (5, .ireturn, 1, 0, 0, [])]),
  (43, [true, false], [zz (.aload_n 0), (0, .getfield 10, 9, 0, 95, []), (0, .getfield 30, 6, 1, 101, []), (0, .getfield 151, 8, 9, 247, []), (0, .getfield 155, 1, 1, 248, []), zz (.aload_n 0), (0, .getfield 10, 9, 0, 95, []), (0, .getfield 67, 6, 0, 183, []), (0, .getfield 101, 2, 5, 217, []), zz (.isub), (5, .ireturn, 1, 0, 0, [])]),
  (68, [true, false], [zz (.aload_n 0), (0, .getfield 10, 9, 0, 95, []), (0, .getfield 67, 6, 0, 183, []), (0, .getfield 192, 2, 4, 281, []), (5, .ireturn, 1, 0, 0, [])]),
  (79, [true, false], [zz (.aload_n 0), (0, .getfield 24, 9, 2, 99, []), (6, .invokevirtual 195, 126, 5, 282, [1, 0, 1, 5, 0, 0, 0, 0, 0])]),
  (86, [false, false], [(5, .ireturn, 1, 0, 0, [])]),
  (87, [false, false], [(7, .new 60, 0, 0, 181, [1, 283])])])
noncomputable def pm_128 : mMt := ((yL_count, cL_count, 4, some .int, 1, 3, [(0, 9, 12, 13)]), [(0, [true, true, true, false], [zz (.aload_n 2), zz (.iconst 0), zz (.aload_n 0), zz (.iload_n 1), (6, .invokevirtual 58, 127, 1, 284, [2, 1, 1, 10, 5, 1, 1, 1, 1])]),
  (7, [false, false, false, false], [zz (.i2l), (9, .lastore, 2, 0, 0, [])]),
  (9, [false, false, false, false], [(2, .goto 6, 4, 0, 0, [])]),
  (12, [false, false, false, false], [zz (.astore_n 3), zz (.iconst 1), (5, .ireturn, 1, 0, 0, [])]),
  (15, [false, false, false, false], [zz (.iconst 0), (5, .ireturn, 1, 0, 0, [])])])
noncomputable def pm_129 : mMt := ((yX10_isSeen, cX10_isSeen, 2, some .boolean, 0, 2, []), [(0, [true, true], [zz (.aload_n 0), zz (.iload_n 1), (6, .invokevirtual 49, 73, 1, 220, [2, 0, 0, 11, 0, 0, 0, 0, 0])]),
  (5, [true, true], [(3, .ifCond .eq 29, 6, 2, 0, [])]),
  (8, [true, true], [zz (.aload_n 0), (0, .getfield 7, 10, 0, 109, []), zz (.sipush 2017), zz (.aload_n 0), (0, .getfield 7, 10, 0, 109, []), zz (.sipush 800), zz (.iload_n 1), zz (.iadd), (8, .iaload, 3, 0, 0, [])]),
  (25, [false, false], [zz (.iadd), (8, .iaload, 4, 0, 0, [])]),
  (27, [false, false], [(3, .ifCond .ne 7, 6, 5, 0, [])]),
  (30, [false, false], [zz (.iconst 1), (2, .goto 4, 7, 0, 0, [])]),
  (34, [false, false], [zz (.iconst 0), (1, .return_, 7, 0, 0, [])]),
  (35, [false, false], [(5, .ireturn, 2, 0, 0, [])])])
noncomputable def pm_130 : mMt := ((yX10_seen, cX10_seen, 3, some .int, 0, 1, []), [(0, [true, false, false], [zz (.iconst 0), zz (.istore_n 1), zz (.iconst 0), zz (.istore_n 2), (1, .return_, 1, 0, 0, [])]),
  (4, [true, true, true], [zz (.iload_n 2), zz (.aload_n 0), (0, .getfield 7, 10, 0, 109, []), zz (.sipush 2001), (8, .iaload, 2, 0, 0, [])]),
  (13, [true, true, true], [(3, .if_icmp .ge 25, 8, 3, 0, [])]),
  (16, [true, true, true], [zz (.iload_n 1), zz (.aload_n 0), zz (.iload_n 2), (6, .invokevirtual 52, 129, 4, 285, [2, 0, 0, 11, 0, 0, 0, 0, 0])]),
  (22, [true, false, true], [(3, .ifCond .eq 7, 6, 5, 0, [])]),
  (25, [true, false, true], [zz (.iconst 1), (2, .goto 4, 7, 0, 0, [])]),
  (29, [true, false, true], [zz (.iconst 0), (1, .return_, 7, 0, 0, [])]),
  (30, [true, false, true], [zz (.iadd), zz (.istore_n 1), zz (.iinc 2 1), (2, .goto (-31), 1, 0, 0, [])]),
  (38, [false, true, false], [zz (.iload_n 1), (5, .ireturn, 1, 0, 0, [])])])
noncomputable def pm_131 : mMt := ((yX10_count, cX10_count, 2, some .int, 0, 2, []), [(0, [true, true], [zz (.aload_n 0), zz (.iconst 0), (0, .putfield 38, 10, 3, 191, [0]), zz (.iload_n 1), (4, .tableswitch 54 0 3 #[30, 35, 40, 49], 9, 0, 0, [1, 3, 5, 7])]),
  (36, [true, false], [zz (.aload_n 0), (6, .invokevirtual 109, 54, 2, 206, [1, 0, 0, 11, 0, 0, 0, 0, 0])]),
  (40, [false, false], [(5, .ireturn, 1, 0, 0, [])]),
  (41, [true, false], [zz (.aload_n 0), (6, .invokevirtual 117, 74, 4, 221, [1, 0, 0, 11, 0, 0, 0, 0, 0])]),
  (45, [false, false], [(5, .ireturn, 1, 0, 0, [])]),
  (46, [true, false], [zz (.aload_n 0), (0, .getfield 7, 10, 0, 109, []), zz (.sipush 2001), (8, .iaload, 6, 0, 0, [])]),
  (54, [false, false], [(5, .ireturn, 1, 0, 0, [])]),
  (55, [true, false], [zz (.aload_n 0), (6, .invokevirtual 133, 130, 8, 286, [1, 0, 0, 11, 0, 0, 0, 0, 0])]),
  (59, [false, false], [(5, .ireturn, 1, 0, 0, [])]),
  (60, [true, false], [zz (.aload_n 0), zz (.iconst 1), (6, .invokevirtual 106, 53, 10, 205, [2, 0, 0, 11, 0, 0, 0, 0, 0])]),
  (65, [false, false], [(5, .ireturn, 1, 0, 0, [])])])
noncomputable def pm_132 : mMt := ((yX9_requireBox, cX9_requireBox, 2, none, 1, 2, []), [(0, [true, true], [zz (.aload_n 0), (0, .getfield 10, 9, 0, 95, []), (0, .getfield 30, 6, 1, 101, []), zz (.iload_n 1), (6, .invokevirtual 400, 104, 1, 254, [2, 0, 1, 9, 0, 0, 0, 0, 0])]),
  (11, [true, true], [(3, .ifCond .eq 17, 4, 2, 0, [])]),
  (14, [true, true], [zz (.aload_n 0), (0, .getfield 10, 9, 0, 95, []), (0, .getfield 30, 6, 1, 101, []), zz (.iload_n 1), (6, .invokevirtual 189, 34, 3, 269, [2, 0, 1, 9, 0, 0, 0, 0, 0])]),
  (25, [false, false], [(3, .ifCond .ne 14, 5, 4, 0, [])]),
  (28, [false, false], [(7, .new 92, 2, 0, 214, [1, 287])]),
  (39, [false, false], [(5, .return_, 0, 0, 0, [])])])
noncomputable def pm_133 : mMt := ((yX9_bound, cX9_bound, 4, some .int, 3, 4, []), [(0, [true, true, true, true], [zz (.aload_n 0), zz (.iload_n 1), (6, .invokevirtual 200, 132, 1, 288, [2, 1, 3, 10, 0, 0, 0, 0, 0])]),
  (5, [true, true, true, true], [zz (.aload_n 0), zz (.iload_n 2), (6, .invokevirtual 108, 80, 2, 227, [2, 1, 3, 10, 0, 0, 0, 0, 0])]),
  (10, [true, true, true, true], [zz (.iload_n 3), (3, .ifCond .eq 18, 5, 3, 0, [])]),
  (14, [true, true, true, true], [zz (.iload_n 3), zz (.iconst 1), (3, .if_icmp .eq 13, 5, 4, 0, [])]),
  (19, [false, false, false, false], [(7, .new 60, 0, 0, 181, [3, 257])]),
  (29, [true, true, true, true], [zz (.iload_n 3), (3, .ifCond .ne 18, 8, 6, 0, [])]),
  (33, [true, true, true, false], [zz (.aload_n 0), (0, .getfield 10, 9, 0, 95, []), (0, .getfield 30, 6, 1, 101, []), zz (.iload_n 1), zz (.iload_n 2), (6, .invokevirtual 203, 35, 7, 289, [3, 0, 3, 9, 0, 0, 0, 0, 0])]),
  (45, [false, false, false, false], [(2, .goto 15, 9, 0, 0, [])]),
  (48, [true, true, true, false], [zz (.aload_n 0), (0, .getfield 10, 9, 0, 95, []), (0, .getfield 30, 6, 1, 101, []), zz (.iload_n 1), zz (.iload_n 2), (6, .invokevirtual 206, 36, 9, 290, [3, 0, 3, 9, 0, 0, 0, 0, 0])]),
  (60, [false, false, false, false], [(5, .ireturn, 1, 0, 0, [])])])
noncomputable def pm_134 : mMt := ((yL_bound, cL_bound, 6, some .int, 3, 5, [(0, 12, 15, 21), (0, 12, 19, 13)]), [(0, [true, true, true, true, true, false], [zz (.aload 4), zz (.iconst 0), zz (.aload_n 0), zz (.iload_n 1), zz (.iload_n 2), zz (.iload_n 3), (6, .invokevirtual 61, 133, 1, 291, [4, 3, 3, 10, 6, 1, 5, 1, 1])]),
  (10, [false, false, false, false, false, false], [zz (.i2l), (9, .lastore, 2, 0, 0, [])]),
  (12, [false, false, false, false, false, false], [(2, .goto 11, 5, 0, 0, [])]),
  (15, [false, false, false, false, false, false], [zz (.astore 5), zz (.iconst 1), (5, .ireturn, 1, 0, 0, [])]),
  (19, [false, false, false, false, false, false], [zz (.astore 5), zz (.iconst 2), (5, .ireturn, 1, 0, 0, [])]),
  (23, [false, false, false, false, false, false], [zz (.iconst 0), (5, .ireturn, 1, 0, 0, [])])])
noncomputable def pm_135 : mMt := ((yX10_less, cX10_less, 2, some .int, 0, 2, []), [(0, [true, true], [zz (.iload_n 0), zz (.iload_n 1), (3, .if_icmp .ge 7, 2, 1, 0, [])]),
  (5, [true, false], [zz (.iload_n 0), (2, .goto 4, 3, 0, 0, [])]),
  (9, [false, true], [zz (.iload_n 1), (1, .return_, 3, 0, 0, [])]),
  (10, [false, false], [(5, .ireturn, 1, 0, 0, [])])])
noncomputable def pm_136 : mMt := ((yX10_lowOf, cX10_lowOf, 4, some .int, 0, 3, []), [(0, [true, true, true, false], [zz (.iload_n 1), (3, .ifCond .ge 7, 2, 1, 0, [])]),
  (4, [false, false, false, false], [zz (.sipush 1000), (5, .ireturn, 1, 0, 0, [])]),
  (8, [true, true, true, false], [zz (.aload_n 0), (0, .getfield 7, 10, 0, 109, []), zz (.sipush 1000), zz (.iload_n 1), zz (.iadd), (8, .iaload, 3, 0, 0, [])]),
  (18, [true, true, true, false], [zz (.iconst 1), (3, .if_icmp .ne 16, 6, 4, 0, [])]),
  (22, [true, true, true, false], [zz (.aload_n 0), (0, .getfield 7, 10, 0, 109, []), zz (.iconst 3), zz (.iload_n 1), zz (.imul), zz (.iload_n 2), zz (.iadd), (8, .iaload, 5, 0, 0, [])]),
  (32, [true, true, true, false], [(2, .goto 6, 7, 0, 0, [])]),
  (35, [true, true, true, false], [zz (.sipush 1000), (1, .return_, 7, 0, 0, [])]),
  (38, [true, true, true, false], [zz (.istore_n 3), zz (.iload_n 3), zz (.aload_n 0), zz (.aload_n 0), (0, .getfield 7, 10, 0, 109, []), zz (.sipush 1400), zz (.iload_n 1), zz (.iadd), (8, .iaload, 8, 0, 0, [])]),
  (51, [true, true, true, false], [zz (.iload_n 2), (6, .invokevirtual 136, 136, 9, 292, [3, 0, 0, 11, 0, 0, 0, 0, 0])]),
  (55, [true, true, true, false], [zz (.aload_n 0), zz (.aload_n 0), (0, .getfield 7, 10, 0, 109, []), zz (.sipush 1600), zz (.iload_n 1), zz (.iadd), (8, .iaload, 10, 0, 0, [])]),
  (66, [false, false, true, false], [zz (.iload_n 2), (6, .invokevirtual 136, 136, 11, 292, [3, 0, 0, 11, 0, 0, 0, 0, 0])]),
  (70, [false, false, false, false], [(6, .invokestatic 140, 135, 12, 293, [2, 0, 0, 0, 0, 0, 0, 0, 0])]),
  (73, [false, false, false, false], [(6, .invokestatic 140, 135, 13, 293, [2, 0, 0, 0, 0, 0, 0, 0, 0])]),
  (76, [false, false, false, false], [(5, .ireturn, 1, 0, 0, [])])])
noncomputable def pm_137 : mMt := ((yX10_more, cX10_more, 2, some .int, 0, 2, []), [(0, [true, true], [zz (.iload_n 0), zz (.iload_n 1), (3, .if_icmp .le 7, 2, 1, 0, [])]),
  (5, [true, false], [zz (.iload_n 0), (2, .goto 4, 3, 0, 0, [])]),
  (9, [false, true], [zz (.iload_n 1), (1, .return_, 3, 0, 0, [])]),
  (10, [false, false], [(5, .ireturn, 1, 0, 0, [])])])
noncomputable def pm_138 : mMt := ((yX10_highOf, cX10_highOf, 4, some .int, 0, 3, []), [(0, [true, true, true, false], [zz (.iload_n 1), (3, .ifCond .ge 7, 2, 1, 0, [])]),
  (4, [false, false, false, false], [zz (.sipush (-1000)), (5, .ireturn, 1, 0, 0, [])]),
  (8, [true, true, true, false], [zz (.aload_n 0), (0, .getfield 7, 10, 0, 109, []), zz (.sipush 1000), zz (.iload_n 1), zz (.iadd), (8, .iaload, 3, 0, 0, [])]),
  (18, [true, true, true, false], [zz (.iconst 1), (3, .if_icmp .ne 16, 6, 4, 0, [])]),
  (22, [true, true, true, false], [zz (.aload_n 0), (0, .getfield 7, 10, 0, 109, []), zz (.iconst 3), zz (.iload_n 1), zz (.imul), zz (.iload_n 2), zz (.iadd), (8, .iaload, 5, 0, 0, [])]),
  (32, [true, true, true, false], [(2, .goto 6, 7, 0, 0, [])]),
  (35, [true, true, true, false], [zz (.sipush (-1000)), (1, .return_, 7, 0, 0, [])]),
  (38, [true, true, true, false], [zz (.istore_n 3), zz (.iload_n 3), zz (.aload_n 0), zz (.aload_n 0), (0, .getfield 7, 10, 0, 109, []), zz (.sipush 1400), zz (.iload_n 1), zz (.iadd), (8, .iaload, 8, 0, 0, [])]),
  (51, [true, true, true, false], [zz (.iload_n 2), (6, .invokevirtual 143, 138, 9, 294, [3, 0, 0, 11, 0, 0, 0, 0, 0])]),
  (55, [true, true, true, false], [zz (.aload_n 0), zz (.aload_n 0), (0, .getfield 7, 10, 0, 109, []), zz (.sipush 1600), zz (.iload_n 1), zz (.iadd), (8, .iaload, 10, 0, 0, [])]),
  (66, [false, false, true, false], [zz (.iload_n 2), (6, .invokevirtual 143, 138, 11, 294, [3, 0, 0, 11, 0, 0, 0, 0, 0])]),
  (70, [false, false, false, false], [(6, .invokestatic 146, 137, 12, 295, [2, 0, 0, 0, 0, 0, 0, 0, 0])]),
  (73, [false, false, false, false], [(6, .invokestatic 146, 137, 13, 295, [2, 0, 0, 0, 0, 0, 0, 0, 0])]),
  (76, [false, false, false, false], [(5, .ireturn, 1, 0, 0, [])])])
noncomputable def pm_139 : mMt := ((yX10_bound, cX10_bound, 4, some .int, 0, 4, []), [(0, [true, true, true, true], [zz (.aload_n 0), zz (.iconst 0), (0, .putfield 38, 10, 3, 191, [0]), zz (.aload_n 0), zz (.iload_n 1), (6, .invokevirtual 130, 108, 1, 260, [2, 0, 0, 11, 0, 0, 0, 0, 0])]),
  (10, [true, true, true, true], [(3, .ifCond .eq 11, 4, 2, 0, [])]),
  (13, [true, true, true, true], [zz (.aload_n 0), zz (.iload_n 1), (6, .invokevirtual 59, 122, 3, 271, [2, 0, 0, 11, 0, 0, 0, 0, 0])]),
  (18, [true, true, true, true], [(3, .ifCond .ne 9, 6, 4, 0, [])]),
  (21, [true, false, false, false], [zz (.aload_n 0), zz (.iconst 1), (6, .invokevirtual 106, 53, 5, 205, [2, 0, 0, 11, 0, 0, 0, 0, 0])]),
  (26, [false, false, false, false], [(5, .ireturn, 1, 0, 0, [])]),
  (27, [true, true, true, true], [zz (.iload_n 2), (6, .invokestatic 123, 83, 7, 230, [1, 0, 0, 0, 0, 0, 0, 0, 0])]),
  (31, [true, true, true, true], [(3, .ifCond .eq 12, 10, 8, 0, [])]),
  (34, [true, true, true, true], [zz (.iload_n 3), zz (.iconst 0), zz (.iconst 1), (6, .invokestatic 41, 51, 9, 190, [3, 0, 0, 0, 0, 0, 0, 0, 0])]),
  (40, [true, true, true, true], [(3, .ifCond .ne 9, 12, 10, 0, [])]),
  (43, [true, false, false, false], [zz (.aload_n 0), zz (.iconst 2), (6, .invokevirtual 106, 53, 11, 205, [2, 0, 0, 11, 0, 0, 0, 0, 0])]),
  (48, [false, false, false, false], [(5, .ireturn, 1, 0, 0, [])]),
  (49, [true, true, true, true], [zz (.iload_n 3), (3, .ifCond .ne 12, 15, 13, 0, [])]),
  (53, [true, true, true, false], [zz (.aload_n 0), zz (.iload_n 1), zz (.iload_n 2), (6, .invokevirtual 136, 136, 14, 292, [3, 0, 0, 11, 0, 0, 0, 0, 0])]),
  (59, [false, false, false, false], [(2, .goto 9, 16, 0, 0, [])]),
  (62, [true, true, true, false], [zz (.aload_n 0), zz (.iload_n 1), zz (.iload_n 2), (6, .invokevirtual 143, 138, 16, 294, [3, 0, 0, 11, 0, 0, 0, 0, 0])]),
  (68, [false, false, false, false], [(5, .ireturn, 1, 0, 0, [])])])
noncomputable def pm_140 : mMt := ((yX9_setOption, cX9_setOption, 4, some .int, 1, 3, []), [(0, [true, true, true, false], [zz (.iload_n 1), (3, .ifCond .lt 9, 2, 1, 0, [])]),
  (4, [true, true, true, false], [zz (.iload_n 1), zz (.bipush 6), (3, .if_icmp .lt 13, 3, 2, 0, [])]),
  (10, [false, false, false, false], [(7, .new 209, 3, 0, 296, [1, 297])]),
  (20, [true, true, true, false], [zz (.iload_n 2), (0, .getstatic 214, 1, 0, 298, []), zz (.iload_n 1), (6, .invokestatic 119, 19, 4, 232, [2, 0, 1, 0, 0, 0, 0, 0, 0])]),
  (28, [true, true, true, false], [(3, .if_icmp .lt 14, 7, 5, 0, [])]),
  (31, [true, true, true, false], [zz (.iload_n 2), (0, .getstatic 217, 2, 0, 299, []), zz (.iload_n 1), (6, .invokestatic 119, 19, 6, 232, [2, 0, 1, 0, 0, 0, 0, 0, 0])]),
  (39, [true, true, true, false], [(3, .if_icmp .le 13, 8, 7, 0, [])]),
  (42, [false, false, false, false], [(7, .new 60, 0, 0, 181, [1, 300])]),
  (52, [true, true, true, false], [zz (.aload_n 0), (0, .getfield 10, 9, 0, 95, []), (0, .getfield 222, 6, 3, 301, []), zz (.iload_n 1), (6, .invokevirtual 226, 39, 9, 302, [2, 0, 1, 6, 0, 0, 0, 0, 0])]),
  (63, [true, true, true, false], [zz (.istore_n 3), zz (.aload_n 0), (0, .getfield 10, 9, 0, 95, []), (0, .getfield 222, 6, 3, 301, []), (0, .getfield 231, 5, 0, 303, []), zz (.iload_n 1), zz (.iload_n 2), (6, .invokestatic 128, 17, 10, 237, [3, 0, 1, 0, 0, 0, 0, 0, 0])]),
  (79, [false, false, false, true], [zz (.iload_n 3), (5, .ireturn, 1, 0, 0, [])])])
noncomputable def pm_141 : mMt := ((yL_setOption, cL_setOption, 5, some .int, 1, 4, [(0, 10, 13, 67), (0, 10, 17, 13)]), [(0, [true, true, true, true, false], [zz (.aload_n 3), zz (.iconst 0), zz (.aload_n 0), zz (.iload_n 1), zz (.iload_n 2), (6, .invokevirtual 64, 140, 1, 304, [3, 1, 1, 10, 6, 1, 1, 5, 1])]),
  (8, [false, false, false, false, false], [zz (.i2l), (9, .lastore, 2, 0, 0, [])]),
  (10, [false, false, false, false, false], [(2, .goto 11, 5, 0, 0, [])]),
  (13, [false, false, false, false, false], [zz (.astore 4), zz (.iconst 1), (5, .ireturn, 1, 0, 0, [])]),
  (17, [false, false, false, false, false], [zz (.astore 4), zz (.iconst 2), (5, .ireturn, 1, 0, 0, [])]),
  (21, [false, false, false, false, false], [zz (.iconst 0), (5, .ireturn, 1, 0, 0, [])])])
noncomputable def pm_142 : mMt := ((yX10_mayBe, cX10_mayBe, 2, some .boolean, 0, 2, []), [(0, [true, true], [zz (.iload_n 0), (4, .tableswitch 52 0 2 #[27, 36, 45], 7, 0, 0, [1, 3, 5])]),
  (28, [false, true], [zz (.iload_n 1), zz (.bipush 55), zz (.bipush 95), (6, .invokestatic 41, 51, 2, 190, [3, 0, 0, 0, 0, 0, 0, 0, 0])]),
  (36, [false, false], [(5, .ireturn, 2, 0, 0, [])]),
  (37, [false, true], [zz (.iload_n 1), zz (.bipush 10), zz (.bipush 90), (6, .invokestatic 41, 51, 4, 190, [3, 0, 0, 0, 0, 0, 0, 0, 0])]),
  (45, [false, false], [(5, .ireturn, 2, 0, 0, [])]),
  (46, [false, true], [zz (.iload_n 1), zz (.iconst 0), zz (.iconst 3), (6, .invokestatic 41, 51, 6, 190, [3, 0, 0, 0, 0, 0, 0, 0, 0])]),
  (52, [false, false], [(5, .ireturn, 2, 0, 0, [])]),
  (53, [false, true], [zz (.iload_n 1), zz (.iconst 1), zz (.bipush 9), (6, .invokestatic 41, 51, 8, 190, [3, 0, 0, 0, 0, 0, 0, 0, 0])]),
  (60, [false, false], [(5, .ireturn, 2, 0, 0, [])])])
noncomputable def pm_143 : mMt := ((yX10_setOption, cX10_setOption, 4, some .int, 0, 3, []), [(0, [true, true, true, false], [zz (.aload_n 0), zz (.iconst 0), (0, .putfield 38, 10, 3, 191, [0]), zz (.iload_n 1), zz (.iconst 0), zz (.iconst 5), (6, .invokestatic 41, 51, 1, 190, [3, 0, 0, 0, 0, 0, 0, 0, 0])]),
  (11, [true, true, true, false], [(3, .ifCond .ne 9, 4, 2, 0, [])]),
  (14, [true, false, false, false], [zz (.aload_n 0), zz (.iconst 1), (6, .invokevirtual 106, 53, 3, 205, [2, 0, 0, 11, 0, 0, 0, 0, 0])]),
  (19, [false, false, false, false], [(5, .ireturn, 1, 0, 0, [])]),
  (20, [true, true, true, false], [zz (.iload_n 1), zz (.iload_n 2), (6, .invokestatic 149, 142, 5, 305, [2, 0, 0, 0, 0, 0, 0, 0, 0])]),
  (25, [true, true, true, false], [(3, .ifCond .ne 9, 8, 6, 0, [])]),
  (28, [true, false, false, false], [zz (.aload_n 0), zz (.iconst 2), (6, .invokevirtual 106, 53, 7, 205, [2, 0, 0, 11, 0, 0, 0, 0, 0])]),
  (33, [false, false, false, false], [(5, .ireturn, 1, 0, 0, [])]),
  (34, [true, true, true, false], [zz (.aload_n 0), (0, .getfield 7, 10, 0, 109, []), zz (.sipush 2002), zz (.iload_n 1), zz (.iadd), (8, .iaload, 9, 0, 0, [])]),
  (44, [true, true, true, false], [zz (.istore_n 3), zz (.aload_n 0), (0, .getfield 7, 10, 0, 109, []), zz (.sipush 2002), zz (.iload_n 1), zz (.iadd), zz (.iload_n 2), (9, .iastore, 10, 0, 0, [])]),
  (56, [false, false, false, true], [zz (.iload_n 3), (5, .ireturn, 1, 0, 0, [])])])
noncomputable def pm_144 : mMt := ((yX9_rebuild, cX9_rebuild, 2, some .int, 0, 1, []), [(0, [true, false], [zz (.aload_n 0), (0, .getfield 37, 9, 3, 103, []), (6, .invokevirtual 82, 16, 1, 187, [1, 0, 0, 1, 0, 0, 0, 0, 0])]),
  (7, [true, false], [zz (.aload_n 0), (0, .getfield 10, 9, 0, 95, []), (0, .getfield 30, 6, 1, 101, []), (0, .getfield 151, 8, 9, 247, []), (0, .getfield 155, 1, 1, 248, []), zz (.istore_n 1), zz (.aload_n 0), (0, .getfield 10, 9, 0, 95, []), (0, .getfield 234, 6, 2, 306, []), zz (.aload_n 0), (0, .getfield 10, 9, 0, 95, []), (0, .getfield 30, 6, 1, 101, []), (0, .getfield 160, 8, 11, 251, []), zz (.iconst 2), (6, .invokevirtual 238, 47, 2, 307, [3, 0, 0, 4, 0, 0, 0, 0, 0])]),
  (42, [true, true], [zz (.iload_n 1), zz (.aload_n 0), (0, .getfield 10, 9, 0, 95, []), (0, .getfield 30, 6, 1, 101, []), (0, .getfield 151, 8, 9, 247, []), (0, .getfield 155, 1, 1, 248, []), zz (.isub), (5, .ireturn, 1, 0, 0, [])])])
noncomputable def pm_145 : mMt := ((yX10_rebuild, cX10_rebuild, 2, some .int, 0, 1, []), [(0, [true, false], [zz (.aload_n 0), zz (.iconst 0), (0, .putfield 38, 10, 3, 191, [0]), zz (.aload_n 0), (6, .invokevirtual 117, 74, 1, 221, [1, 0, 0, 11, 0, 0, 0, 0, 0])]),
  (9, [true, false], [zz (.istore_n 1), zz (.aload_n 0), zz (.iconst 0), (0, .putfield 93, 10, 8, 201, [1]), zz (.aload_n 0), (0, .getfield 7, 10, 0, 109, []), zz (.sipush 2029), zz (.dup2), (8, .iaload, 2, 0, 0, [])]),
  (24, [true, true], [zz (.iconst 1), zz (.iadd), (9, .iastore, 3, 0, 0, [])]),
  (27, [true, true], [zz (.aload_n 0), zz (.aload_n 0), (0, .getfield 7, 10, 0, 109, []), zz (.sipush 2000), (8, .iaload, 4, 0, 0, [])]),
  (36, [false, true], [(6, .invokevirtual 100, 64, 5, 203, [2, 0, 0, 11, 0, 0, 0, 0, 0])]),
  (39, [false, true], [zz (.iload_n 1), (5, .ireturn, 1, 0, 0, [])])])
noncomputable def pm_146 : mMt := ((yX9_rebuilds, cX9_rebuilds, 2, some .int, 1, 2, []), [(0, [true, true], [zz (.iload_n 1), (3, .ifCond .lt 8, 2, 1, 0, [])]),
  (4, [true, true], [zz (.iload_n 1), zz (.iconst 4), (3, .if_icmp .lt 13, 3, 2, 0, [])]),
  (9, [false, false], [(7, .new 60, 0, 0, 181, [1, 308])]),
  (19, [true, true], [zz (.aload_n 0), (0, .getfield 10, 9, 0, 95, []), (0, .getfield 234, 6, 2, 306, []), (0, .getfield 246, 3, 2, 309, []), zz (.iload_n 1), (6, .invokestatic 119, 19, 4, 232, [2, 0, 1, 0, 0, 0, 0, 0, 0])]),
  (33, [false, false], [(5, .ireturn, 1, 0, 0, [])])])
noncomputable def pm_147 : mMt := ((yL_rebuilds, cL_rebuilds, 4, some .int, 1, 3, [(0, 9, 12, 13)]), [(0, [true, true, true, false], [zz (.aload_n 2), zz (.iconst 0), zz (.aload_n 0), zz (.iload_n 1), (6, .invokevirtual 69, 146, 1, 310, [2, 1, 1, 10, 5, 1, 1, 1, 1])]),
  (7, [false, false, false, false], [zz (.i2l), (9, .lastore, 2, 0, 0, [])]),
  (9, [false, false, false, false], [(2, .goto 6, 4, 0, 0, [])]),
  (12, [false, false, false, false], [zz (.astore_n 3), zz (.iconst 1), (5, .ireturn, 1, 0, 0, [])]),
  (15, [false, false, false, false], [zz (.iconst 0), (5, .ireturn, 1, 0, 0, [])])])
noncomputable def pm_148 : mMt := ((yX10_rebuilds, cX10_rebuilds, 2, some .int, 0, 2, []), [(0, [true, true], [zz (.aload_n 0), zz (.iconst 0), (0, .putfield 38, 10, 3, 191, [0]), zz (.iload_n 1), zz (.iconst 0), zz (.iconst 3), (6, .invokestatic 41, 51, 1, 190, [3, 0, 0, 0, 0, 0, 0, 0, 0])]),
  (11, [true, true], [(3, .ifCond .eq 16, 4, 2, 0, [])]),
  (14, [true, true], [zz (.aload_n 0), (0, .getfield 7, 10, 0, 109, []), zz (.sipush 2027), zz (.iload_n 1), zz (.iadd), (8, .iaload, 3, 0, 0, [])]),
  (24, [false, false], [(2, .goto 8, 5, 0, 0, [])]),
  (27, [true, false], [zz (.aload_n 0), zz (.iconst 1), (6, .invokevirtual 106, 53, 5, 205, [2, 0, 0, 11, 0, 0, 0, 0, 0])]),
  (32, [false, false], [(5, .ireturn, 1, 0, 0, [])])])
noncomputable def pm_149 : mMt := ((yX9_putPlace, cX9_putPlace, 4, none, 0, 4, []), [(0, [true, true, true, true], [zz (.aload_n 0), zz (.iconst 0), zz (.iload_n 1), (6, .invokestatic 128, 17, 1, 237, [3, 0, 0, 0, 0, 0, 0, 0, 0])]),
  (6, [true, false, true, true], [zz (.aload_n 0), zz (.iconst 1), zz (.iload_n 2), (6, .invokestatic 128, 17, 2, 237, [3, 0, 0, 0, 0, 0, 0, 0, 0])]),
  (12, [true, false, false, true], [zz (.aload_n 0), zz (.iconst 2), zz (.iload_n 3), (6, .invokestatic 128, 17, 3, 237, [3, 0, 0, 0, 0, 0, 0, 0, 0])]),
  (18, [false, false, false, false], [(5, .return_, 0, 0, 0, [])])])
noncomputable def pm_150 : mMt := ((yX9_query, cX9_query, 4, none, 1, 4, []), [(0, [true, true, true, true], [zz (.iload_n 1), zz (.iload_n 2), zz (.iload_n 3), (6, .invokestatic 52, 13, 1, 179, [3, 0, 1, 0, 0, 0, 0, 0, 0])]),
  (6, [true, true, true, true], [(3, .ifCond .ne 13, 3, 2, 0, [])]),
  (9, [false, false, false, false], [(7, .new 60, 0, 0, 181, [1, 311])]),
  (19, [true, true, true, true], [zz (.aload_n 0), (0, .getfield 10, 9, 0, 95, []), (0, .getfield 222, 6, 3, 301, []), (0, .getfield 251, 5, 1, 312, []), zz (.iload_n 1), zz (.iload_n 2), zz (.iload_n 3), (6, .invokestatic 254, 149, 4, 313, [4, 0, 1, 0, 0, 0, 0, 0, 0])]),
  (35, [false, false, false, false], [(5, .return_, 0, 0, 0, [])])])
noncomputable def pm_151 : mMt := ((yL_query, cL_query, 5, some .int, 1, 4, [(0, 7, 10, 13)]), [(0, [true, true, true, true, false], [zz (.aload_n 0), zz (.iload_n 1), zz (.iload_n 2), zz (.iload_n 3), (6, .invokevirtual 72, 150, 1, 314, [4, 1, 1, 10, 4, 1, 1, 1, 1])]),
  (7, [false, false, false, false, false], [(2, .goto 7, 3, 0, 0, [])]),
  (10, [false, false, false, false, false], [zz (.astore 4), zz (.iconst 1), (5, .ireturn, 1, 0, 0, [])]),
  (14, [false, false, false, false, false], [zz (.iconst 0), (5, .ireturn, 1, 0, 0, [])])])
noncomputable def pm_152 : mMt := ((yX10_query, cX10_query, 4, none, 0, 4, []), [(0, [true, true, true, true], [zz (.aload_n 0), zz (.iconst 0), (0, .putfield 38, 10, 3, 191, [0]), zz (.iload_n 1), zz (.iload_n 2), zz (.iload_n 3), (6, .invokestatic 103, 52, 1, 204, [3, 0, 0, 0, 0, 0, 0, 0, 0])]),
  (11, [true, true, true, true], [(3, .ifCond .ne 9, 3, 2, 0, [])]),
  (14, [true, false, false, false], [zz (.aload_n 0), zz (.iconst 1), (0, .putfield 38, 10, 3, 191, [0]), (5, .return_, 0, 0, 0, [])]),
  (20, [true, true, true, true], [zz (.aload_n 0), (0, .getfield 7, 10, 0, 109, []), zz (.sipush 2008), zz (.iload_n 1), (9, .iastore, 4, 0, 0, [])]),
  (29, [true, false, true, true], [zz (.aload_n 0), (0, .getfield 7, 10, 0, 109, []), zz (.sipush 2009), zz (.iload_n 2), (9, .iastore, 5, 0, 0, [])]),
  (38, [true, false, false, true], [zz (.aload_n 0), (0, .getfield 7, 10, 0, 109, []), zz (.sipush 2010), zz (.iload_n 3), (9, .iastore, 6, 0, 0, [])]),
  (47, [false, false, false, false], [(5, .return_, 0, 0, 0, [])])])
noncomputable def pm_153 : mMt := ((yX9_exclude, cX9_exclude, 4, some .boolean, 1, 3, []), [(0, [true, true, true, false], [zz (.iload_n 1), (3, .ifCond .lt 9, 2, 1, 0, [])]),
  (4, [true, true, true, false], [zz (.iload_n 1), zz (.bipush 9), (3, .if_icmp .le 14, 3, 2, 0, [])]),
  (10, [false, false, false, false], [(7, .new 60, 0, 0, 181, [1, 315])]),
  (21, [true, true, true, false], [zz (.aload_n 0), (0, .getfield 10, 9, 0, 95, []), (0, .getfield 222, 6, 3, 301, []), zz (.iload_n 1), (6, .invokevirtual 260, 124, 4, 316, [2, 0, 1, 6, 0, 0, 0, 0, 0])]),
  (32, [true, true, true, false], [zz (.istore_n 3), zz (.aload_n 0), (0, .getfield 10, 9, 0, 95, []), (0, .getfield 222, 6, 3, 301, []), (0, .getfield 263, 5, 4, 317, []), zz (.iload_n 1), zz (.iload_n 2), (3, .ifCond .eq 7, 6, 5, 0, [])]),
  (48, [false, false, false, true], [zz (.iconst 1), (2, .goto 4, 7, 0, 0, [])]),
  (52, [false, false, false, true], [zz (.iconst 0), (1, .return_, 7, 0, 0, [])]),
  (53, [false, false, false, true], [(6, .invokestatic 128, 17, 8, 237, [3, 0, 1, 0, 0, 0, 0, 0, 0])]),
  (56, [false, false, false, true], [zz (.iload_n 3), (5, .ireturn, 2, 0, 0, [])])])
noncomputable def pm_154 : mMt := ((yL_exclude, cL_exclude, 5, some .int, 1, 4, [(0, 17, 20, 13)]), [(0, [true, true, true, true, false], [zz (.aload_n 3), zz (.iconst 0), zz (.aload_n 0), zz (.iload_n 1), zz (.iload_n 2), (6, .invokevirtual 76, 153, 1, 318, [3, 1, 1, 10, 8, 1, 1, 1, 1])]),
  (8, [false, false, false, false, false], [(3, .ifCond .eq 7, 3, 2, 0, [])]),
  (11, [false, false, false, false, false], [zz (.lconst 1), (2, .goto 4, 4, 0, 0, [])]),
  (15, [false, false, false, false, false], [zz (.lconst 0), (1, .return_, 4, 0, 0, [])]),
  (16, [false, false, false, false, false], [(9, .lastore, 5, 0, 0, [])]),
  (17, [false, false, false, false, false], [(2, .goto 7, 7, 0, 0, [])]),
  (20, [false, false, false, false, false], [zz (.astore 4), zz (.iconst 1), (5, .ireturn, 1, 0, 0, [])]),
  (24, [false, false, false, false, false], [zz (.iconst 0), (5, .ireturn, 1, 0, 0, [])])])
noncomputable def pm_155 : mMt := ((yX10_exclude, cX10_exclude, 4, some .boolean, 0, 3, []), [(0, [true, true, true, false], [zz (.aload_n 0), zz (.iconst 0), (0, .putfield 38, 10, 3, 191, [0]), zz (.iload_n 1), zz (.iconst 0), zz (.bipush 9), (6, .invokestatic 41, 51, 1, 190, [3, 0, 0, 0, 0, 0, 0, 0, 0])]),
  (12, [true, true, true, false], [(3, .ifCond .ne 10, 3, 2, 0, [])]),
  (15, [true, false, false, false], [zz (.aload_n 0), zz (.iconst 1), (0, .putfield 38, 10, 3, 191, [0]), zz (.iconst 0), (5, .ireturn, 2, 0, 0, [])]),
  (22, [true, true, true, false], [zz (.aload_n 0), (0, .getfield 7, 10, 0, 109, []), zz (.sipush 2017), zz (.iload_n 1), zz (.iadd), (8, .iaload, 4, 0, 0, [])]),
  (32, [true, true, true, false], [zz (.iconst 1), (3, .if_icmp .ne 7, 6, 5, 0, [])]),
  (36, [true, true, true, false], [zz (.iconst 1), (2, .goto 4, 7, 0, 0, [])]),
  (40, [true, true, true, false], [zz (.iconst 0), (1, .return_, 7, 0, 0, [])]),
  (41, [true, true, true, false], [zz (.istore_n 3), zz (.aload_n 0), (0, .getfield 7, 10, 0, 109, []), zz (.sipush 2017), zz (.iload_n 1), zz (.iadd), zz (.iload_n 2), (3, .ifCond .eq 7, 9, 8, 0, [])]),
  (55, [false, false, false, true], [zz (.iconst 1), (2, .goto 4, 10, 0, 0, [])]),
  (59, [false, false, false, true], [zz (.iconst 0), (1, .return_, 10, 0, 0, [])]),
  (60, [false, false, false, true], [(9, .iastore, 11, 0, 0, [])]),
  (61, [false, false, false, true], [zz (.iload_n 3), (5, .ireturn, 2, 0, 0, [])])])
noncomputable def pm_156 : mMt := ((yX5_metricOf, cX5_metricOf, 4, some .int, 0, 4, []), [(0, [true, true, true, true], [zz (.aload_n 0), zz (.iconst 2), (6, .invokevirtual 39, 39, 1, 319, [2, 0, 0, 6, 0, 0, 0, 0, 0])]),
  (5, [true, true, true, true], [(4, .tableswitch 73 1 3 #[27, 37, 49], 8, 1, 0, [2, 3, 4])]),
  (32, [false, true, true, true], [zz (.iload_n 1), zz (.iload_n 2), zz (.iload_n 3), (0, .invokestatic 43, 1, 0, 320, []), (0, .invokestatic 43, 1, 0, 320, []), (5, .ireturn, 1, 0, 0, [])]),
  (42, [false, true, true, true], [zz (.iload_n 1), zz (.iload_n 1), zz (.imul), zz (.iload_n 2), zz (.iload_n 2), zz (.imul), zz (.iadd), zz (.iload_n 3), zz (.iload_n 3), zz (.imul), zz (.iadd), (5, .ireturn, 1, 0, 0, [])]),
  (54, [true, true, true, true], [zz (.aload_n 0), zz (.iconst 3), (6, .invokevirtual 39, 39, 5, 319, [2, 0, 0, 6, 0, 0, 0, 0, 0])]),
  (59, [true, true, true, true], [zz (.iload_n 1), zz (.imul), zz (.aload_n 0), zz (.iconst 4), (6, .invokevirtual 39, 39, 6, 319, [2, 0, 0, 6, 0, 0, 0, 0, 0])]),
  (66, [true, false, true, true], [zz (.iload_n 2), zz (.imul), zz (.iadd), zz (.aload_n 0), zz (.iconst 5), (6, .invokevirtual 39, 39, 7, 319, [2, 0, 0, 6, 0, 0, 0, 0, 0])]),
  (74, [false, false, false, true], [zz (.iload_n 3), zz (.imul), zz (.iadd), (5, .ireturn, 1, 0, 0, [])]),
  (78, [false, true, true, true], [zz (.iload_n 1), zz (.iload_n 2), zz (.iadd), zz (.iload_n 3), zz (.iadd), (5, .ireturn, 1, 0, 0, [])])])
noncomputable def pm_157 : mMt := ((yX4_fromQuery, cX4_fromQuery, 3, some .int, 0, 2, []), [(0, [true, true, false], [zz (.aload_n 0), (0, .getfield 54, 4, 2, 75, []), (0, .getfield 103, 5, 1, 321, []), zz (.astore_n 2), zz (.aload_n 0), (0, .getfield 54, 4, 2, 75, []), zz (.aload_n 0), (0, .getfield 44, 4, 0, 71, []), zz (.iload_n 1), zz (.iconst 0), (6, .invokevirtual 89, 20, 1, 322, [3, 0, 0, 3, 0, 0, 0, 0, 0])]),
  (21, [true, true, true], [zz (.aload_n 2), zz (.iconst 0), (6, .invokestatic 64, 19, 2, 274, [2, 0, 0, 0, 0, 0, 0, 0, 0])]),
  (26, [true, true, true], [zz (.isub), (0, .invokestatic 93, 3, 0, 323, []), zz (.aload_n 0), (0, .getfield 44, 4, 0, 71, []), zz (.iload_n 1), zz (.iconst 1), (6, .invokevirtual 89, 20, 3, 322, [3, 0, 0, 3, 0, 0, 0, 0, 0])]),
  (39, [true, true, true], [zz (.aload_n 2), zz (.iconst 1), (6, .invokestatic 64, 19, 4, 274, [2, 0, 0, 0, 0, 0, 0, 0, 0])]),
  (44, [true, true, true], [zz (.isub), (0, .invokestatic 93, 3, 0, 323, []), zz (.aload_n 0), (0, .getfield 44, 4, 0, 71, []), zz (.iload_n 1), zz (.iconst 2), (6, .invokevirtual 89, 20, 5, 322, [3, 0, 0, 3, 0, 0, 0, 0, 0])]),
  (57, [false, false, true], [zz (.aload_n 2), zz (.iconst 2), (6, .invokestatic 64, 19, 6, 274, [2, 0, 0, 0, 0, 0, 0, 0, 0])]),
  (62, [false, false, false], [zz (.isub), (0, .invokestatic 93, 3, 0, 323, []), (6, .invokevirtual 99, 156, 7, 324, [4, 0, 0, 6, 0, 0, 0, 0, 0])]),
  (69, [false, false, false], [(5, .ireturn, 1, 0, 0, [])])])
noncomputable def pm_158 : mMt := ((yX9_distance, cX9_distance, 2, some .int, 1, 2, []), [(0, [true, true], [zz (.aload_n 0), zz (.iload_n 1), (6, .invokevirtual 105, 79, 1, 226, [2, 1, 1, 10, 0, 0, 0, 0, 0])]),
  (5, [true, true], [zz (.aload_n 0), (0, .getfield 24, 9, 2, 99, []), zz (.iload_n 1), (6, .invokevirtual 266, 157, 2, 325, [2, 0, 1, 5, 0, 0, 0, 0, 0])]),
  (13, [false, false], [(5, .ireturn, 1, 0, 0, [])])])
noncomputable def pm_159 : mMt := ((yL_distance, cL_distance, 4, some .int, 1, 3, [(0, 9, 12, 21)]), [(0, [true, true, true, false], [zz (.aload_n 2), zz (.iconst 0), zz (.aload_n 0), zz (.iload_n 1), (6, .invokevirtual 80, 158, 1, 326, [2, 1, 1, 10, 1, 1, 5, 1, 1])]),
  (7, [false, false, false, false], [zz (.i2l), (9, .lastore, 2, 0, 0, [])]),
  (9, [false, false, false, false], [(2, .goto 6, 4, 0, 0, [])]),
  (12, [false, false, false, false], [zz (.astore_n 3), zz (.iconst 1), (5, .ireturn, 1, 0, 0, [])]),
  (15, [false, false, false, false], [zz (.iconst 0), (5, .ireturn, 1, 0, 0, [])])])
noncomputable def pm_160 : mMt := ((yX10_apart, cX10_apart, 2, some .int, 0, 2, []), [(0, [true, true], [zz (.iload_n 0), zz (.iload_n 1), (3, .if_icmp .ge 9, 2, 1, 0, [])]),
  (5, [true, true], [zz (.iload_n 1), zz (.iload_n 0), zz (.isub), (2, .goto 6, 3, 0, 0, [])]),
  (11, [true, true], [zz (.iload_n 0), zz (.iload_n 1), zz (.isub), (1, .return_, 3, 0, 0, [])]),
  (14, [false, false], [(5, .ireturn, 1, 0, 0, [])])])
noncomputable def pm_161 : mMt := ((yX10_by, cX10_by, 4, some .int, 0, 4, []), [(0, [true, true, true, true], [zz (.aload_n 0), (0, .getfield 7, 10, 0, 109, []), zz (.sipush 2004), (8, .iaload, 1, 0, 0, [])]),
  (8, [true, true, true, true], [(4, .tableswitch 56 0 2 #[28, 34, 44], 7, 0, 0, [2, 3, 6])]),
  (36, [false, true, true, true], [zz (.iload_n 1), zz (.iload_n 2), zz (.iadd), zz (.iload_n 3), zz (.iadd), (5, .ireturn, 1, 0, 0, [])]),
  (42, [false, true, true, true], [zz (.iload_n 1), zz (.iload_n 2), zz (.iload_n 3), (6, .invokestatic 146, 137, 4, 295, [2, 0, 0, 0, 0, 0, 0, 0, 0])]),
  (48, [false, false, false, false], [(6, .invokestatic 146, 137, 5, 295, [2, 0, 0, 0, 0, 0, 0, 0, 0])]),
  (51, [false, false, false, false], [(5, .ireturn, 1, 0, 0, [])]),
  (52, [false, true, true, true], [zz (.iload_n 1), zz (.iload_n 1), zz (.imul), zz (.iload_n 2), zz (.iload_n 2), zz (.imul), zz (.iadd), zz (.iload_n 3), zz (.iload_n 3), zz (.imul), zz (.iadd), (5, .ireturn, 1, 0, 0, [])]),
  (64, [true, true, true, true], [zz (.aload_n 0), (0, .getfield 7, 10, 0, 109, []), zz (.sipush 2005), (8, .iaload, 8, 0, 0, [])]),
  (72, [true, true, true, true], [zz (.iload_n 1), zz (.imul), zz (.aload_n 0), (0, .getfield 7, 10, 0, 109, []), zz (.sipush 2006), (8, .iaload, 9, 0, 0, [])]),
  (82, [true, false, true, true], [zz (.iload_n 2), zz (.imul), zz (.iadd), zz (.aload_n 0), (0, .getfield 7, 10, 0, 109, []), zz (.sipush 2007), (8, .iaload, 10, 0, 0, [])]),
  (93, [false, false, false, true], [zz (.iload_n 3), zz (.imul), zz (.iadd), (5, .ireturn, 1, 0, 0, [])])])
noncomputable def pm_162 : mMt := ((yX10_far, cX10_far, 2, some .int, 0, 2, []), [(0, [true, true], [zz (.aload_n 0), zz (.aload_n 0), (0, .getfield 7, 10, 0, 109, []), zz (.iconst 3), zz (.iload_n 1), zz (.imul), (8, .iaload, 1, 0, 0, [])]),
  (9, [true, true], [zz (.aload_n 0), (0, .getfield 7, 10, 0, 109, []), zz (.sipush 2008), (8, .iaload, 2, 0, 0, [])]),
  (17, [true, true], [(6, .invokestatic 153, 160, 3, 327, [2, 0, 0, 0, 0, 0, 0, 0, 0])]),
  (20, [true, true], [zz (.aload_n 0), (0, .getfield 7, 10, 0, 109, []), zz (.iconst 3), zz (.iload_n 1), zz (.imul), zz (.iconst 1), zz (.iadd), (8, .iaload, 4, 0, 0, [])]),
  (30, [true, true], [zz (.aload_n 0), (0, .getfield 7, 10, 0, 109, []), zz (.sipush 2009), (8, .iaload, 5, 0, 0, [])]),
  (38, [true, true], [(6, .invokestatic 153, 160, 6, 327, [2, 0, 0, 0, 0, 0, 0, 0, 0])]),
  (41, [true, true], [zz (.aload_n 0), (0, .getfield 7, 10, 0, 109, []), zz (.iconst 3), zz (.iload_n 1), zz (.imul), zz (.iconst 2), zz (.iadd), (8, .iaload, 7, 0, 0, [])]),
  (51, [true, false], [zz (.aload_n 0), (0, .getfield 7, 10, 0, 109, []), zz (.sipush 2010), (8, .iaload, 8, 0, 0, [])]),
  (59, [false, false], [(6, .invokestatic 153, 160, 9, 327, [2, 0, 0, 0, 0, 0, 0, 0, 0])]),
  (62, [false, false], [(6, .invokevirtual 156, 161, 10, 328, [4, 0, 0, 11, 0, 0, 0, 0, 0])]),
  (65, [false, false], [(5, .ireturn, 1, 0, 0, [])])])
noncomputable def pm_163 : mMt := ((yX10_distance, cX10_distance, 2, some .int, 0, 2, []), [(0, [true, true], [zz (.aload_n 0), zz (.iconst 0), (0, .putfield 38, 10, 3, 191, [0]), zz (.aload_n 0), zz (.iload_n 1), (6, .invokevirtual 45, 72, 1, 219, [2, 0, 0, 11, 0, 0, 0, 0, 0])]),
  (10, [true, true], [(3, .ifCond .eq 11, 4, 2, 0, [])]),
  (13, [true, true], [zz (.aload_n 0), zz (.iload_n 1), (6, .invokevirtual 159, 162, 3, 329, [2, 0, 0, 11, 0, 0, 0, 0, 0])]),
  (18, [false, false], [(2, .goto 8, 5, 0, 0, [])]),
  (21, [true, false], [zz (.aload_n 0), zz (.iconst 1), (6, .invokevirtual 106, 53, 5, 205, [2, 0, 0, 11, 0, 0, 0, 0, 0])]),
  (26, [false, false], [(5, .ireturn, 1, 0, 0, [])])])
noncomputable def pm_164 : mMt := ((yX4_gapOn, cX4_gapOn, 6, some .int, 0, 3, []), [(0, [true, true, true, false, false, false], [zz (.aload_n 0), (0, .getfield 54, 4, 2, 75, []), (0, .getfield 103, 5, 1, 321, []), zz (.iload_n 2), (6, .invokestatic 64, 19, 1, 274, [2, 0, 0, 0, 0, 0, 0, 0, 0])]),
  (11, [true, true, true, false, false, false], [zz (.istore_n 3), zz (.aload_n 0), (0, .getfield 49, 4, 1, 73, []), zz (.iload_n 1), zz (.iload_n 2), (6, .invokevirtual 109, 35, 2, 330, [3, 0, 0, 9, 0, 0, 0, 0, 0])]),
  (21, [true, true, true, true, false, false], [zz (.iload_n 3), zz (.isub), zz (.istore 4), zz (.iload_n 3), zz (.aload_n 0), (0, .getfield 49, 4, 1, 73, []), zz (.iload_n 1), zz (.iload_n 2), (6, .invokevirtual 114, 36, 3, 331, [3, 0, 0, 9, 0, 0, 0, 0, 0])]),
  (35, [false, false, false, false, true, false], [zz (.isub), zz (.istore 5), zz (.iconst 0), zz (.iload 4), zz (.iload 5), (0, .invokestatic 117, 1, 0, 332, []), (0, .invokestatic 117, 1, 0, 332, []), (5, .ireturn, 1, 0, 0, [])])])
noncomputable def pm_165 : mMt := ((yX4_fromQueryToBox, cX4_fromQueryToBox, 2, some .int, 0, 2, []), [(0, [true, true], [zz (.aload_n 0), (0, .getfield 54, 4, 2, 75, []), zz (.aload_n 0), zz (.iload_n 1), zz (.iconst 0), (6, .invokevirtual 106, 164, 1, 333, [3, 0, 0, 5, 0, 0, 0, 0, 0])]),
  (10, [true, true], [zz (.aload_n 0), zz (.iload_n 1), zz (.iconst 1), (6, .invokevirtual 106, 164, 2, 333, [3, 0, 0, 5, 0, 0, 0, 0, 0])]),
  (16, [true, true], [zz (.aload_n 0), zz (.iload_n 1), zz (.iconst 2), (6, .invokevirtual 106, 164, 3, 333, [3, 0, 0, 5, 0, 0, 0, 0, 0])]),
  (22, [false, false], [(6, .invokevirtual 99, 156, 4, 324, [4, 0, 0, 6, 0, 0, 0, 0, 0])]),
  (25, [false, false], [(5, .ireturn, 1, 0, 0, [])])])
noncomputable def pm_166 : mMt := ((yX9_boxDistance, cX9_boxDistance, 2, some .int, 1, 2, []), [(0, [true, true], [zz (.aload_n 0), zz (.iload_n 1), (6, .invokevirtual 200, 132, 1, 288, [2, 1, 1, 10, 0, 0, 0, 0, 0])]),
  (5, [true, true], [zz (.aload_n 0), (0, .getfield 24, 9, 2, 99, []), zz (.iload_n 1), (6, .invokevirtual 269, 165, 2, 334, [2, 0, 1, 5, 0, 0, 0, 0, 0])]),
  (13, [false, false], [(5, .ireturn, 1, 0, 0, [])])])
noncomputable def pm_167 : mMt := ((yL_boxDistance, cL_boxDistance, 4, some .int, 1, 3, [(0, 9, 12, 21)]), [(0, [true, true, true, false], [zz (.aload_n 2), zz (.iconst 0), zz (.aload_n 0), zz (.iload_n 1), (6, .invokevirtual 83, 166, 1, 335, [2, 1, 1, 10, 1, 1, 5, 1, 1])]),
  (7, [false, false, false, false], [zz (.i2l), (9, .lastore, 2, 0, 0, [])]),
  (9, [false, false, false, false], [(2, .goto 6, 4, 0, 0, [])]),
  (12, [false, false, false, false], [zz (.astore_n 3), zz (.iconst 1), (5, .ireturn, 1, 0, 0, [])]),
  (15, [false, false, false, false], [zz (.iconst 0), (5, .ireturn, 1, 0, 0, [])])])
noncomputable def pm_168 : mMt := ((yX10_beside, cX10_beside, 6, some .int, 0, 3, []), [(0, [true, true, true, false, false, false], [zz (.aload_n 0), (0, .getfield 7, 10, 0, 109, []), zz (.sipush 2008), zz (.iload_n 2), zz (.iadd), (8, .iaload, 1, 0, 0, [])]),
  (10, [true, true, true, false, false, false], [zz (.istore_n 3), zz (.aload_n 0), zz (.iload_n 1), zz (.iload_n 2), (6, .invokevirtual 136, 136, 2, 292, [3, 0, 0, 11, 0, 0, 0, 0, 0])]),
  (17, [true, true, true, true, false, false], [zz (.istore 4), zz (.aload_n 0), zz (.iload_n 1), zz (.iload_n 2), (6, .invokevirtual 143, 138, 3, 294, [3, 0, 0, 11, 0, 0, 0, 0, 0])]),
  (25, [false, false, false, true, true, false], [zz (.istore 5), zz (.iload_n 3), zz (.iload 4), (3, .if_icmp .ge 10, 5, 4, 0, [])]),
  (33, [false, false, false, true, true, false], [zz (.iload 4), zz (.iload_n 3), zz (.isub), (2, .goto 17, 8, 0, 0, [])]),
  (40, [false, false, false, true, false, true], [zz (.iload_n 3), zz (.iload 5), (3, .if_icmp .le 10, 7, 6, 0, [])]),
  (46, [false, false, false, true, false, true], [zz (.iload_n 3), zz (.iload 5), zz (.isub), (2, .goto 4, 8, 0, 0, [])]),
  (53, [false, false, false, false, false, false], [zz (.iconst 0), (1, .return_, 8, 0, 0, [])]),
  (54, [false, false, false, false, false, false], [(5, .ireturn, 1, 0, 0, [])])])
noncomputable def pm_169 : mMt := ((yX10_boxDistance, cX10_boxDistance, 2, some .int, 0, 2, []), [(0, [true, true], [zz (.aload_n 0), zz (.iconst 0), (0, .putfield 38, 10, 3, 191, [0]), zz (.aload_n 0), zz (.iload_n 1), (6, .invokevirtual 130, 108, 1, 260, [2, 0, 0, 11, 0, 0, 0, 0, 0])]),
  (10, [true, true], [(3, .ifCond .eq 11, 4, 2, 0, [])]),
  (13, [true, true], [zz (.aload_n 0), zz (.iload_n 1), (6, .invokevirtual 59, 122, 3, 271, [2, 0, 0, 11, 0, 0, 0, 0, 0])]),
  (18, [true, true], [(3, .ifCond .ne 9, 6, 4, 0, [])]),
  (21, [true, false], [zz (.aload_n 0), zz (.iconst 1), (6, .invokevirtual 106, 53, 5, 205, [2, 0, 0, 11, 0, 0, 0, 0, 0])]),
  (26, [false, false], [(5, .ireturn, 1, 0, 0, [])]),
  (27, [true, true], [zz (.aload_n 0), zz (.aload_n 0), zz (.iload_n 1), zz (.iconst 0), (6, .invokevirtual 162, 168, 7, 336, [3, 0, 0, 11, 0, 0, 0, 0, 0])]),
  (34, [true, true], [zz (.aload_n 0), zz (.iload_n 1), zz (.iconst 1), (6, .invokevirtual 162, 168, 8, 336, [3, 0, 0, 11, 0, 0, 0, 0, 0])]),
  (40, [true, true], [zz (.aload_n 0), zz (.iload_n 1), zz (.iconst 2), (6, .invokevirtual 162, 168, 9, 336, [3, 0, 0, 11, 0, 0, 0, 0, 0])]),
  (46, [false, false], [(6, .invokevirtual 156, 161, 10, 328, [4, 0, 0, 11, 0, 0, 0, 0, 0])]),
  (49, [false, false], [(5, .ireturn, 1, 0, 0, [])])])
noncomputable def pm_170 : mMt := ((yX4_measureVisible, cX4_measureVisible, 2, none, 0, 1, []), [(0, [true, false], [zz (.aload_n 0), (6, .invokevirtual 120, 126, 1, 337, [1, 0, 0, 5, 0, 0, 0, 0, 0])]),
  (4, [true, false], [zz (.pop), zz (.iconst 0), zz (.istore_n 1), (1, .return_, 2, 0, 0, [])]),
  (7, [true, true], [zz (.iload_n 1), zz (.aload_n 0), (0, .getfield 12, 4, 3, 63, []), (0, .getfield 86, 1, 1, 280, []), (3, .if_icmp .ge 29, 7, 3, 0, [])]),
  (18, [true, true], [zz (.aload_n 0), (0, .getfield 18, 4, 4, 64, []), zz (.iload_n 1), zz (.aload_n 0), zz (.aload_n 0), (0, .getfield 12, 4, 3, 63, []), zz (.iload_n 1), (6, .invokevirtual 124, 30, 4, 338, [2, 0, 0, 2, 0, 0, 0, 0, 0])]),
  (32, [true, true], [(6, .invokevirtual 127, 157, 5, 339, [2, 0, 0, 5, 0, 0, 0, 0, 0])]),
  (35, [true, true], [(6, .invokestatic 130, 17, 6, 340, [3, 0, 0, 0, 0, 0, 0, 0, 0])]),
  (38, [true, true], [zz (.iinc 1 1), (2, .goto (-34), 2, 0, 0, [])]),
  (44, [false, false], [(5, .return_, 0, 0, 0, [])])])
noncomputable def pm_171 : mMt := ((yX4_rankOf, cX4_rankOf, 6, some .int, 0, 2, []), [(0, [true, true, false, false, false, false], [zz (.aload_n 0), (0, .getfield 18, 4, 4, 64, []), zz (.iload_n 1), (6, .invokestatic 64, 19, 1, 274, [2, 0, 0, 0, 0, 0, 0, 0, 0])]),
  (8, [true, true, false, false, false, false], [zz (.istore_n 2), zz (.iconst 0), zz (.istore_n 3), zz (.iconst 0), zz (.istore 4), (1, .return_, 2, 0, 0, [])]),
  (14, [true, true, true, true, true, false], [zz (.iload 4), zz (.aload_n 0), (0, .getfield 12, 4, 3, 63, []), (0, .getfield 86, 1, 1, 280, []), (3, .if_icmp .ge 41, 9, 3, 0, [])]),
  (26, [true, true, true, true, true, false], [zz (.aload_n 0), (0, .getfield 18, 4, 4, 64, []), zz (.iload 4), (6, .invokestatic 64, 19, 4, 274, [2, 0, 0, 0, 0, 0, 0, 0, 0])]),
  (35, [true, true, true, true, true, false], [zz (.istore 5), zz (.iload 5), zz (.iload_n 2), (3, .if_icmp .lt 15, 7, 5, 0, [])]),
  (43, [true, true, true, true, true, true], [zz (.iload 5), zz (.iload_n 2), (3, .if_icmp .ne 12, 8, 6, 0, [])]),
  (49, [true, true, true, true, true, false], [zz (.iload 4), zz (.iload_n 1), (3, .if_icmp .ge 6, 8, 7, 0, [])]),
  (55, [true, true, true, true, true, false], [zz (.iinc 3 1), (1, .return_, 8, 0, 0, [])]),
  (58, [true, true, true, true, true, false], [zz (.iinc 4 1), (2, .goto (-47), 2, 0, 0, [])]),
  (64, [false, false, false, true, false, false], [zz (.iload_n 3), (5, .ireturn, 1, 0, 0, [])])])
noncomputable def pm_172 : mMt := ((yX4_nearestAt, cX4_nearestAt, 3, some .int, 0, 2, []), [(0, [true, true, false], [zz (.aload_n 0), (6, .invokevirtual 134, 170, 1, 341, [1, 0, 0, 5, 0, 0, 0, 0, 0])]),
  (4, [true, true, false], [zz (.iconst 0), zz (.istore_n 2), (1, .return_, 2, 0, 0, [])]),
  (6, [true, true, true], [zz (.iload_n 2), zz (.aload_n 0), (0, .getfield 12, 4, 3, 63, []), (0, .getfield 86, 1, 1, 280, []), (3, .if_icmp .ge 27, 8, 3, 0, [])]),
  (17, [true, true, true], [zz (.aload_n 0), zz (.iload_n 2), (6, .invokevirtual 137, 171, 4, 342, [2, 0, 0, 5, 0, 0, 0, 0, 0])]),
  (22, [true, true, true], [zz (.iload_n 1), (3, .if_icmp .ne 12, 7, 5, 0, [])]),
  (26, [true, false, true], [zz (.aload_n 0), (0, .getfield 12, 4, 3, 63, []), zz (.iload_n 2), (6, .invokevirtual 124, 30, 6, 338, [2, 0, 0, 2, 0, 0, 0, 0, 0])]),
  (34, [false, false, false], [(5, .ireturn, 1, 0, 0, [])]),
  (35, [true, true, true], [zz (.iinc 2 1), (2, .goto (-32), 2, 0, 0, [])]),
  (41, [false, false, false], [zz (.iconst (-1)), (5, .ireturn, 1, 0, 0, [])])])
noncomputable def pm_173 : mMt := ((yX9_nearest, cX9_nearest, 3, some .int, 1, 2, []), [(0, [true, true, false], [zz (.aload_n 0), (0, .getfield 24, 9, 2, 99, []), zz (.iload_n 1), (6, .invokevirtual 272, 172, 1, 343, [2, 0, 1, 5, 0, 0, 0, 0, 0])]),
  (8, [false, false, false], [zz (.istore_n 2), zz (.iload_n 2), zz (.iconst (-1)), (3, .if_icmp .ne 14, 3, 2, 0, [])]),
  (14, [false, false, false], [(7, .new 92, 2, 0, 214, [1, 344])]),
  (25, [false, false, true], [zz (.iload_n 2), (5, .ireturn, 1, 0, 0, [])])])
noncomputable def pm_174 : mMt := ((yL_nearest, cL_nearest, 4, some .int, 1, 3, [(0, 9, 12, 21)]), [(0, [true, true, true, false], [zz (.aload_n 2), zz (.iconst 0), zz (.aload_n 0), zz (.iload_n 1), (6, .invokevirtual 86, 173, 1, 345, [2, 1, 1, 10, 1, 1, 5, 1, 1])]),
  (7, [false, false, false, false], [zz (.i2l), (9, .lastore, 2, 0, 0, [])]),
  (9, [false, false, false, false], [(2, .goto 6, 4, 0, 0, [])]),
  (12, [false, false, false, false], [zz (.astore_n 3), zz (.iconst 1), (5, .ireturn, 1, 0, 0, [])]),
  (15, [false, false, false, false], [zz (.iconst 0), (5, .ireturn, 1, 0, 0, [])])])
noncomputable def pm_175 : mMt := ((yX10_ahead, cX10_ahead, 4, some .int, 0, 2, []), [(0, [true, true, false, false], [zz (.iconst 0), zz (.istore_n 2), zz (.iconst 0), zz (.istore_n 3), (1, .return_, 1, 0, 0, [])]),
  (4, [true, true, true, true], [zz (.iload_n 3), zz (.aload_n 0), (0, .getfield 7, 10, 0, 109, []), zz (.sipush 2001), (8, .iaload, 2, 0, 0, [])]),
  (13, [true, true, true, true], [(3, .if_icmp .ge 56, 15, 3, 0, [])]),
  (16, [true, true, true, true], [zz (.iload_n 2), zz (.aload_n 0), zz (.iload_n 3), (6, .invokevirtual 52, 129, 4, 285, [2, 0, 0, 11, 0, 0, 0, 0, 0])]),
  (22, [true, true, false, true], [(3, .ifCond .eq 38, 13, 5, 0, [])]),
  (25, [true, true, false, true], [zz (.aload_n 0), zz (.iload_n 3), (6, .invokevirtual 159, 162, 6, 329, [2, 0, 0, 11, 0, 0, 0, 0, 0])]),
  (30, [true, true, false, true], [zz (.aload_n 0), zz (.iload_n 1), (6, .invokevirtual 159, 162, 7, 329, [2, 0, 0, 11, 0, 0, 0, 0, 0])]),
  (35, [true, true, false, true], [(3, .if_icmp .lt 21, 12, 8, 0, [])]),
  (38, [true, true, false, true], [zz (.aload_n 0), zz (.iload_n 3), (6, .invokevirtual 159, 162, 9, 329, [2, 0, 0, 11, 0, 0, 0, 0, 0])]),
  (43, [true, true, false, true], [zz (.aload_n 0), zz (.iload_n 1), (6, .invokevirtual 159, 162, 10, 329, [2, 0, 0, 11, 0, 0, 0, 0, 0])]),
  (48, [true, true, false, true], [(3, .if_icmp .ne 12, 13, 11, 0, [])]),
  (51, [true, true, false, true], [zz (.iload_n 3), zz (.iload_n 1), (3, .if_icmp .ge 7, 13, 12, 0, [])]),
  (56, [true, true, false, true], [zz (.iconst 1), (2, .goto 4, 14, 0, 0, [])]),
  (60, [true, true, false, true], [zz (.iconst 0), (1, .return_, 14, 0, 0, [])]),
  (61, [true, true, false, true], [zz (.iadd), zz (.istore_n 2), zz (.iinc 3 1), (2, .goto (-62), 1, 0, 0, [])]),
  (69, [false, false, true, false], [zz (.iload_n 2), (5, .ireturn, 1, 0, 0, [])])])
noncomputable def pm_176 : mMt := ((yX10_nearest, cX10_nearest, 3, some .int, 0, 2, []), [(0, [true, true, false], [zz (.aload_n 0), zz (.iconst 0), (0, .putfield 38, 10, 3, 191, [0]), zz (.iconst 0), zz (.istore_n 2), (1, .return_, 1, 0, 0, [])]),
  (7, [true, true, true], [zz (.iload_n 2), zz (.aload_n 0), (0, .getfield 7, 10, 0, 109, []), zz (.sipush 2001), (8, .iaload, 2, 0, 0, [])]),
  (16, [true, true, true], [(3, .if_icmp .ge 28, 9, 3, 0, [])]),
  (19, [true, true, true], [zz (.aload_n 0), zz (.iload_n 2), (6, .invokevirtual 52, 129, 4, 285, [2, 0, 0, 11, 0, 0, 0, 0, 0])]),
  (24, [true, true, true], [(3, .ifCond .eq 14, 8, 5, 0, [])]),
  (27, [true, true, true], [zz (.aload_n 0), zz (.iload_n 2), (6, .invokevirtual 165, 175, 6, 346, [2, 0, 0, 11, 0, 0, 0, 0, 0])]),
  (32, [true, true, true], [zz (.iload_n 1), (3, .if_icmp .ne 5, 8, 7, 0, [])]),
  (36, [false, false, true], [zz (.iload_n 2), (5, .ireturn, 1, 0, 0, [])]),
  (38, [true, true, true], [zz (.iinc 2 1), (2, .goto (-34), 1, 0, 0, [])]),
  (44, [true, false, false], [zz (.aload_n 0), zz (.iconst 1), (6, .invokevirtual 106, 53, 10, 205, [2, 0, 0, 11, 0, 0, 0, 0, 0])]),
  (49, [false, false, false], [(5, .ireturn, 1, 0, 0, [])])])
noncomputable def pm_177 : mMt := ((yX4_farthestPoint, cX4_farthestPoint, 3, some .int, 0, 1, []), [(0, [true, false, false], [zz (.aload_n 0), (6, .invokevirtual 134, 170, 1, 341, [1, 0, 0, 5, 0, 0, 0, 0, 0])]),
  (4, [true, false, false], [zz (.iconst (-1)), zz (.istore_n 1), zz (.iconst 0), zz (.istore_n 2), (1, .return_, 2, 0, 0, [])]),
  (8, [true, true, true], [zz (.iload_n 2), zz (.aload_n 0), (0, .getfield 12, 4, 3, 63, []), (0, .getfield 86, 1, 1, 280, []), (3, .if_icmp .ge 35, 9, 3, 0, [])]),
  (19, [true, true, true], [zz (.iload_n 1), zz (.iconst (-1)), (3, .if_icmp .eq 22, 7, 4, 0, [])]),
  (24, [true, true, true], [zz (.aload_n 0), (0, .getfield 18, 4, 4, 64, []), zz (.iload_n 2), (6, .invokestatic 64, 19, 5, 274, [2, 0, 0, 0, 0, 0, 0, 0, 0])]),
  (32, [true, true, true], [zz (.aload_n 0), (0, .getfield 18, 4, 4, 64, []), zz (.iload_n 1), (6, .invokestatic 64, 19, 6, 274, [2, 0, 0, 0, 0, 0, 0, 0, 0])]),
  (40, [true, true, true], [(3, .if_icmp .le 5, 8, 7, 0, [])]),
  (43, [true, false, true], [zz (.iload_n 2), zz (.istore_n 1), (1, .return_, 8, 0, 0, [])]),
  (45, [true, true, true], [zz (.iinc 2 1), (2, .goto (-40), 2, 0, 0, [])]),
  (51, [true, true, false], [zz (.iload_n 1), zz (.iconst (-1)), (3, .if_icmp .ne 7, 11, 10, 0, [])]),
  (56, [false, false, false], [zz (.iconst (-1)), (2, .goto 11, 12, 0, 0, [])]),
  (60, [true, true, false], [zz (.aload_n 0), (0, .getfield 12, 4, 3, 63, []), zz (.iload_n 1), (6, .invokevirtual 124, 30, 12, 338, [2, 0, 0, 2, 0, 0, 0, 0, 0])]),
  (68, [false, false, false], [(5, .ireturn, 1, 0, 0, [])])])
noncomputable def pm_178 : mMt := ((yX9_farthest, cX9_farthest, 2, some .int, 1, 1, []), [(0, [true, false], [zz (.aload_n 0), (0, .getfield 24, 9, 2, 99, []), (6, .invokevirtual 277, 177, 1, 347, [1, 0, 1, 5, 0, 0, 0, 0, 0])]),
  (7, [false, false], [zz (.istore_n 1), zz (.iload_n 1), zz (.iconst (-1)), (3, .if_icmp .ne 14, 3, 2, 0, [])]),
  (13, [false, false], [(7, .new 92, 2, 0, 214, [1, 348])]),
  (24, [false, true], [zz (.iload_n 1), (5, .ireturn, 1, 0, 0, [])])])
noncomputable def pm_179 : mMt := ((yL_farthest, cL_farthest, 3, some .int, 1, 2, [(0, 8, 11, 21)]), [(0, [true, true, false], [zz (.aload_n 1), zz (.iconst 0), zz (.aload_n 0), (6, .invokevirtual 89, 178, 1, 349, [1, 1, 1, 10, 1, 1, 5, 1, 1])]),
  (6, [false, false, false], [zz (.i2l), (9, .lastore, 2, 0, 0, [])]),
  (8, [false, false, false], [(2, .goto 6, 4, 0, 0, [])]),
  (11, [false, false, false], [zz (.astore_n 2), zz (.iconst 1), (5, .ireturn, 1, 0, 0, [])]),
  (14, [false, false, false], [zz (.iconst 0), (5, .ireturn, 1, 0, 0, [])])])
end
section
/-! THE BLOCKS OF THE METHODS, 3 -/
noncomputable def pm_180 : mMt := ((yX10_farthest, cX10_farthest, 3, some .int, 0, 1, []), [(0, [true, false, false], [zz (.aload_n 0), zz (.iconst 0), (0, .putfield 38, 10, 3, 191, [0]), zz (.iconst (-1)), zz (.istore_n 1), zz (.iconst 0), zz (.istore_n 2), (1, .return_, 1, 0, 0, [])]),
  (9, [true, true, true], [zz (.iload_n 2), zz (.aload_n 0), (0, .getfield 7, 10, 0, 109, []), zz (.sipush 2001), (8, .iaload, 2, 0, 0, [])]),
  (18, [true, true, true], [(3, .if_icmp .ge 36, 11, 3, 0, [])]),
  (21, [true, true, true], [zz (.aload_n 0), zz (.iload_n 2), (6, .invokevirtual 52, 129, 4, 285, [2, 0, 0, 11, 0, 0, 0, 0, 0])]),
  (26, [true, true, true], [(3, .ifCond .eq 22, 10, 5, 0, [])]),
  (29, [true, true, true], [zz (.iload_n 1), (3, .ifCond .lt 16, 9, 6, 0, [])]),
  (33, [true, true, true], [zz (.aload_n 0), zz (.iload_n 2), (6, .invokevirtual 159, 162, 7, 329, [2, 0, 0, 11, 0, 0, 0, 0, 0])]),
  (38, [true, true, true], [zz (.aload_n 0), zz (.iload_n 1), (6, .invokevirtual 159, 162, 8, 329, [2, 0, 0, 11, 0, 0, 0, 0, 0])]),
  (43, [true, true, true], [(3, .if_icmp .le 5, 10, 9, 0, [])]),
  (46, [true, false, true], [zz (.iload_n 2), zz (.istore_n 1), (1, .return_, 10, 0, 0, [])]),
  (48, [true, true, true], [zz (.iinc 2 1), (2, .goto (-42), 1, 0, 0, [])]),
  (54, [true, true, false], [zz (.iload_n 1), (3, .ifCond .ge 11, 14, 12, 0, [])]),
  (58, [true, false, false], [zz (.aload_n 0), zz (.iconst 1), (6, .invokevirtual 106, 53, 13, 205, [2, 0, 0, 11, 0, 0, 0, 0, 0])]),
  (63, [false, false, false], [(2, .goto 4, 15, 0, 0, [])]),
  (66, [false, true, false], [zz (.iload_n 1), (1, .return_, 15, 0, 0, [])]),
  (67, [false, false, false], [(5, .ireturn, 1, 0, 0, [])])])
noncomputable def pm_181 : mMt := ((yX4_countWithin, cX4_countWithin, 4, some .int, 0, 2, []), [(0, [true, true, false, false], [zz (.aload_n 0), (6, .invokevirtual 134, 170, 1, 341, [1, 0, 0, 5, 0, 0, 0, 0, 0])]),
  (4, [true, true, false, false], [zz (.iconst 0), zz (.istore_n 2), zz (.iconst 0), zz (.istore_n 3), (1, .return_, 2, 0, 0, [])]),
  (8, [true, true, true, true], [zz (.iload_n 3), zz (.aload_n 0), (0, .getfield 12, 4, 3, 63, []), (0, .getfield 86, 1, 1, 280, []), (3, .if_icmp .ge 24, 7, 3, 0, [])]),
  (19, [true, true, true, true], [zz (.aload_n 0), (0, .getfield 18, 4, 4, 64, []), zz (.iload_n 3), (6, .invokestatic 64, 19, 4, 274, [2, 0, 0, 0, 0, 0, 0, 0, 0])]),
  (27, [true, true, true, true], [zz (.iload_n 1), (3, .if_icmp .gt 6, 6, 5, 0, [])]),
  (31, [true, true, true, true], [zz (.iinc 2 1), (1, .return_, 6, 0, 0, [])]),
  (34, [true, true, true, true], [zz (.iinc 3 1), (2, .goto (-29), 2, 0, 0, [])]),
  (40, [false, false, true, false], [zz (.iload_n 2), (5, .ireturn, 1, 0, 0, [])])])
noncomputable def pm_182 : mMt := ((yX9_within, cX9_within, 2, some .int, 0, 2, []), [(0, [true, true], [zz (.aload_n 0), (0, .getfield 24, 9, 2, 99, []), zz (.iload_n 1), (6, .invokevirtual 282, 181, 1, 350, [2, 0, 0, 5, 0, 0, 0, 0, 0])]),
  (8, [false, false], [(5, .ireturn, 1, 0, 0, [])])])
noncomputable def pm_183 : mMt := ((yX10_within, cX10_within, 4, some .int, 0, 2, []), [(0, [true, true, false, false], [zz (.aload_n 0), zz (.iconst 0), (0, .putfield 38, 10, 3, 191, [0]), zz (.iconst 0), zz (.istore_n 2), zz (.iconst 0), zz (.istore_n 3), (1, .return_, 1, 0, 0, [])]),
  (9, [true, true, true, true], [zz (.iload_n 3), zz (.aload_n 0), (0, .getfield 7, 10, 0, 109, []), zz (.sipush 2001), (8, .iaload, 2, 0, 0, [])]),
  (18, [true, true, true, true], [(3, .if_icmp .ge 34, 10, 3, 0, [])]),
  (21, [true, true, true, true], [zz (.iload_n 2), zz (.aload_n 0), zz (.iload_n 3), (6, .invokevirtual 52, 129, 4, 285, [2, 0, 0, 11, 0, 0, 0, 0, 0])]),
  (27, [true, true, false, true], [(3, .ifCond .eq 16, 8, 5, 0, [])]),
  (30, [true, true, false, true], [zz (.aload_n 0), zz (.iload_n 3), (6, .invokevirtual 159, 162, 6, 329, [2, 0, 0, 11, 0, 0, 0, 0, 0])]),
  (35, [true, true, false, true], [zz (.iload_n 1), (3, .if_icmp .gt 7, 8, 7, 0, [])]),
  (39, [true, true, false, true], [zz (.iconst 1), (2, .goto 4, 9, 0, 0, [])]),
  (43, [true, true, false, true], [zz (.iconst 0), (1, .return_, 9, 0, 0, [])]),
  (44, [true, true, false, true], [zz (.iadd), zz (.istore_n 2), zz (.iinc 3 1), (2, .goto (-40), 1, 0, 0, [])]),
  (52, [false, false, true, false], [zz (.iload_n 2), (5, .ireturn, 1, 0, 0, [])])])
noncomputable def pm_184 : mMt := ((yX4_influenceWithin, cX4_influenceWithin, 6, some .double, 0, 2, []), [(0, [true, true, false, false, false, false], [zz (.aload_n 0), (6, .invokevirtual 134, 170, 1, 341, [1, 0, 0, 5, 0, 0, 0, 0, 0])]),
  (4, [true, true, false, false, false, false], [zz (.dconst 0), zz (.dstore_n 2), zz (.iconst 0), zz (.istore 4), (1, .return_, 2, 0, 0, [])]),
  (9, [true, true, true, false, true, false], [zz (.iload 4), zz (.aload_n 0), (0, .getfield 12, 4, 3, 63, []), (0, .getfield 86, 1, 1, 280, []), (3, .if_icmp .ge 60, 12, 3, 0, [])]),
  (21, [true, true, true, false, true, false], [zz (.aload_n 0), (0, .getfield 18, 4, 4, 64, []), zz (.iload 4), (6, .invokestatic 64, 19, 4, 274, [2, 0, 0, 0, 0, 0, 0, 0, 0])]),
  (30, [true, true, true, false, true, false], [zz (.istore 5), zz (.iload 5), (3, .ifCond .lt 38, 11, 5, 0, [])]),
  (37, [true, true, true, false, true, true], [zz (.iload 5), zz (.iload_n 1), (3, .if_icmp .gt 32, 11, 6, 0, [])]),
  (43, [true, true, true, false, true, true], [zz (.dload_n 2), zz (.aload_n 0), (0, .getfield 44, 4, 0, 71, []), (0, .getfield 140, 2, 1, 351, []), zz (.aload_n 0), (0, .getfield 12, 4, 3, 63, []), zz (.iload 4), (6, .invokevirtual 124, 30, 7, 338, [2, 0, 0, 2, 0, 0, 0, 0, 0])]),
  (60, [true, true, false, false, true, true], [(6, .invokestatic 64, 19, 8, 274, [2, 0, 0, 0, 0, 0, 0, 0, 0])]),
  (63, [true, true, false, false, true, true], [zz (.i2d), zz (.iconst 1), zz (.iload 5), zz (.iadd), zz (.i2d), (8, .ddiv, 9, 0, 0, [])]),
  (70, [true, true, false, false, true, false], [(8, .dadd, 10, 0, 0, [])]),
  (71, [true, true, false, false, true, false], [zz (.dstore_n 2), (1, .return_, 11, 0, 0, [])]),
  (72, [true, true, true, false, true, false], [zz (.iinc 4 1), (2, .goto (-66), 2, 0, 0, [])]),
  (78, [false, false, true, false, false, false], [zz (.dload_n 2), (5, .dreturn, 3, 0, 0, [])])])
noncomputable def pm_185 : mMt := ((yX9_influence, cX9_influence, 2, some .double, 0, 2, []), [(0, [true, true], [zz (.aload_n 0), (0, .getfield 24, 9, 2, 99, []), zz (.iload_n 1), (6, .invokevirtual 285, 184, 1, 352, [2, 0, 0, 5, 0, 0, 0, 0, 0])]),
  (8, [false, false], [(5, .dreturn, 3, 0, 0, [])])])
noncomputable def pm_186 : mMt := ((yX10_influence, cX10_influence, 5, some .double, 0, 2, []), [(0, [true, true, false, false, false], [zz (.aload_n 0), zz (.iconst 0), (0, .putfield 38, 10, 3, 191, [0]), zz (.dconst 0), zz (.dstore_n 2), zz (.iconst 0), zz (.istore 4), (1, .return_, 1, 0, 0, [])]),
  (10, [true, true, true, false, true], [zz (.iload 4), zz (.aload_n 0), (0, .getfield 7, 10, 0, 109, []), zz (.sipush 2001), (8, .iaload, 2, 0, 0, [])]),
  (20, [true, true, true, false, true], [(3, .if_icmp .ge 53, 13, 3, 0, [])]),
  (23, [true, true, true, false, true], [zz (.aload_n 0), zz (.iload 4), (6, .invokevirtual 52, 129, 4, 285, [2, 0, 0, 11, 0, 0, 0, 0, 0])]),
  (29, [true, true, true, false, true], [(3, .ifCond .eq 38, 12, 5, 0, [])]),
  (32, [true, true, true, false, true], [zz (.aload_n 0), zz (.iload 4), (6, .invokevirtual 159, 162, 6, 329, [2, 0, 0, 11, 0, 0, 0, 0, 0])]),
  (38, [true, true, true, false, true], [zz (.iload_n 1), (3, .if_icmp .gt 28, 12, 7, 0, [])]),
  (42, [true, true, true, false, true], [zz (.dload_n 2), zz (.aload_n 0), (0, .getfield 7, 10, 0, 109, []), zz (.sipush 600), zz (.iload 4), zz (.iadd), (8, .iaload, 8, 0, 0, [])]),
  (54, [true, true, false, false, true], [zz (.i2d), zz (.iconst 1), zz (.aload_n 0), zz (.iload 4), (6, .invokevirtual 159, 162, 9, 329, [2, 0, 0, 11, 0, 0, 0, 0, 0])]),
  (62, [true, true, false, false, true], [zz (.iadd), zz (.i2d), (8, .ddiv, 10, 0, 0, [])]),
  (65, [true, true, false, false, true], [(8, .dadd, 11, 0, 0, [])]),
  (66, [true, true, false, false, true], [zz (.dstore_n 2), (1, .return_, 12, 0, 0, [])]),
  (67, [true, true, true, false, true], [zz (.iinc 4 1), (2, .goto (-60), 1, 0, 0, [])]),
  (73, [false, false, true, false, false], [zz (.dload_n 2), (5, .dreturn, 3, 0, 0, [])])])
noncomputable def pm_187 : mMt := ((yX4_between, cX4_between, 3, some .int, 0, 3, []), [(0, [true, true, true], [zz (.aload_n 0), (0, .getfield 54, 4, 2, 75, []), zz (.aload_n 0), (0, .getfield 44, 4, 0, 71, []), zz (.iload_n 1), zz (.iconst 0), (6, .invokevirtual 89, 20, 1, 322, [3, 0, 0, 3, 0, 0, 0, 0, 0])]),
  (13, [true, true, true], [zz (.aload_n 0), (0, .getfield 44, 4, 0, 71, []), zz (.iload_n 2), zz (.iconst 0), (6, .invokevirtual 89, 20, 2, 322, [3, 0, 0, 3, 0, 0, 0, 0, 0])]),
  (22, [true, true, true], [zz (.isub), (0, .invokestatic 93, 3, 0, 323, []), zz (.aload_n 0), (0, .getfield 44, 4, 0, 71, []), zz (.iload_n 1), zz (.iconst 1), (6, .invokevirtual 89, 20, 3, 322, [3, 0, 0, 3, 0, 0, 0, 0, 0])]),
  (35, [true, true, true], [zz (.aload_n 0), (0, .getfield 44, 4, 0, 71, []), zz (.iload_n 2), zz (.iconst 1), (6, .invokevirtual 89, 20, 4, 322, [3, 0, 0, 3, 0, 0, 0, 0, 0])]),
  (44, [true, true, true], [zz (.isub), (0, .invokestatic 93, 3, 0, 323, []), zz (.aload_n 0), (0, .getfield 44, 4, 0, 71, []), zz (.iload_n 1), zz (.iconst 2), (6, .invokevirtual 89, 20, 5, 322, [3, 0, 0, 3, 0, 0, 0, 0, 0])]),
  (57, [true, false, true], [zz (.aload_n 0), (0, .getfield 44, 4, 0, 71, []), zz (.iload_n 2), zz (.iconst 2), (6, .invokevirtual 89, 20, 6, 322, [3, 0, 0, 3, 0, 0, 0, 0, 0])]),
  (66, [false, false, false], [zz (.isub), (0, .invokestatic 93, 3, 0, 323, []), (6, .invokevirtual 99, 156, 7, 324, [4, 0, 0, 6, 0, 0, 0, 0, 0])]),
  (73, [false, false, false], [(5, .ireturn, 1, 0, 0, [])])])
noncomputable def pm_188 : mMt := ((yX4_offerPair, cX4_offerPair, 4, none, 0, 3, []), [(0, [true, true, true, false], [zz (.aload_n 0), zz (.iload_n 1), zz (.iload_n 2), (6, .invokevirtual 147, 187, 1, 353, [3, 0, 0, 5, 0, 0, 0, 0, 0])]),
  (6, [true, true, true, false], [zz (.istore_n 3), zz (.aload_n 0), (0, .getfield 28, 4, 7, 67, []), zz (.iconst (-1)), (3, .if_icmp .eq 11, 3, 2, 0, [])]),
  (15, [true, true, true, true], [zz (.iload_n 3), zz (.aload_n 0), (0, .getfield 35, 4, 9, 69, []), (3, .if_icmp .ge 18, 4, 3, 0, [])]),
  (23, [true, true, true, true], [zz (.aload_n 0), zz (.iload_n 1), (0, .putfield 28, 4, 7, 67, [0]), zz (.aload_n 0), zz (.iload_n 2), (0, .putfield 32, 4, 8, 68, [0]), zz (.aload_n 0), zz (.iload_n 3), (0, .putfield 35, 4, 9, 69, [0]), (1, .return_, 4, 0, 0, [])]),
  (38, [false, false, false, false], [(5, .return_, 0, 0, 0, [])])])
noncomputable def pm_189 : mMt := ((yX4_findClosestPair, cX4_findClosestPair, 3, none, 0, 1, []), [(0, [true, false, false], [zz (.aload_n 0), (6, .invokevirtual 120, 126, 1, 337, [1, 0, 0, 5, 0, 0, 0, 0, 0])]),
  (4, [true, false, false], [zz (.pop), zz (.aload_n 0), zz (.iconst (-1)), (0, .putfield 28, 4, 7, 67, [0]), zz (.iconst 0), zz (.istore_n 1), (1, .return_, 2, 0, 0, [])]),
  (12, [true, true, false], [zz (.iload_n 1), zz (.aload_n 0), (0, .getfield 12, 4, 3, 63, []), (0, .getfield 86, 1, 1, 280, []), (3, .if_icmp .ge 50, 10, 3, 0, [])]),
  (23, [true, true, false], [zz (.iload_n 1), zz (.iconst 1), zz (.iadd), zz (.istore_n 2), (1, .return_, 4, 0, 0, [])]),
  (27, [true, true, true], [zz (.iload_n 2), zz (.aload_n 0), (0, .getfield 12, 4, 3, 63, []), (0, .getfield 86, 1, 1, 280, []), (3, .if_icmp .ge 29, 9, 5, 0, [])]),
  (38, [true, true, true], [zz (.aload_n 0), zz (.aload_n 0), (0, .getfield 12, 4, 3, 63, []), zz (.iload_n 1), (6, .invokevirtual 124, 30, 6, 338, [2, 0, 0, 2, 0, 0, 0, 0, 0])]),
  (47, [true, true, true], [zz (.aload_n 0), (0, .getfield 12, 4, 3, 63, []), zz (.iload_n 2), (6, .invokevirtual 124, 30, 7, 338, [2, 0, 0, 2, 0, 0, 0, 0, 0])]),
  (55, [true, true, true], [(6, .invokevirtual 143, 188, 8, 354, [3, 0, 0, 5, 0, 0, 0, 0, 0])]),
  (58, [true, true, true], [zz (.iinc 2 1), (2, .goto (-34), 4, 0, 0, [])]),
  (64, [true, true, false], [zz (.iinc 1 1), (2, .goto (-55), 2, 0, 0, [])]),
  (70, [false, false, false], [(5, .return_, 0, 0, 0, [])])])
noncomputable def pm_190 : mMt := ((yX9_closestPair, cX9_closestPair, 2, some .int, 1, 2, []), [(0, [true, true], [zz (.iload_n 1), (3, .ifCond .lt 8, 2, 1, 0, [])]),
  (4, [true, true], [zz (.iload_n 1), zz (.iconst 2), (3, .if_icmp .le 14, 3, 2, 0, [])]),
  (9, [false, false], [(7, .new 60, 0, 0, 181, [1, 355])]),
  (20, [true, true], [zz (.aload_n 0), (0, .getfield 24, 9, 2, 99, []), (6, .invokevirtual 291, 189, 4, 356, [1, 0, 1, 5, 0, 0, 0, 0, 0])]),
  (27, [true, true], [zz (.aload_n 0), (0, .getfield 24, 9, 2, 99, []), (0, .getfield 294, 4, 7, 357, []), zz (.iconst (-1)), (3, .if_icmp .ne 14, 6, 5, 0, [])]),
  (38, [false, false], [(7, .new 92, 2, 0, 214, [1, 358])]),
  (49, [true, true], [zz (.iload_n 1), (3, .ifCond .ne 11, 8, 7, 0, [])]),
  (53, [true, false], [zz (.aload_n 0), (0, .getfield 24, 9, 2, 99, []), (0, .getfield 294, 4, 7, 357, []), (5, .ireturn, 1, 0, 0, [])]),
  (61, [true, true], [zz (.iload_n 1), zz (.iconst 1), (3, .if_icmp .ne 13, 10, 9, 0, [])]),
  (66, [true, false], [zz (.aload_n 0), (0, .getfield 24, 9, 2, 99, []), (0, .getfield 299, 4, 8, 359, []), (2, .goto 10, 11, 0, 0, [])]),
  (76, [true, false], [zz (.aload_n 0), (0, .getfield 24, 9, 2, 99, []), (0, .getfield 302, 4, 9, 360, []), (1, .return_, 11, 0, 0, [])]),
  (83, [false, false], [(5, .ireturn, 1, 0, 0, [])])])
noncomputable def pm_191 : mMt := ((yL_closestPair, cL_closestPair, 4, some .int, 1, 3, [(0, 9, 12, 13), (0, 9, 15, 21)]), [(0, [true, true, true, false], [zz (.aload_n 2), zz (.iconst 0), zz (.aload_n 0), zz (.iload_n 1), (6, .invokevirtual 92, 190, 1, 361, [2, 1, 1, 10, 5, 1, 6, 1, 1])]),
  (7, [false, false, false, false], [zz (.i2l), (9, .lastore, 2, 0, 0, [])]),
  (9, [false, false, false, false], [(2, .goto 9, 5, 0, 0, [])]),
  (12, [false, false, false, false], [zz (.astore_n 3), zz (.iconst 1), (5, .ireturn, 1, 0, 0, [])]),
  (15, [false, false, false, false], [zz (.astore_n 3), zz (.iconst 2), (5, .ireturn, 1, 0, 0, [])]),
  (18, [false, false, false, false], [zz (.iconst 0), (5, .ireturn, 1, 0, 0, [])])])
noncomputable def pm_192 : mMt := ((yX10_between, cX10_between, 3, some .int, 0, 3, []), [(0, [true, true, true], [zz (.aload_n 0), zz (.aload_n 0), (0, .getfield 7, 10, 0, 109, []), zz (.iconst 3), zz (.iload_n 1), zz (.imul), (8, .iaload, 1, 0, 0, [])]),
  (9, [true, true, true], [zz (.aload_n 0), (0, .getfield 7, 10, 0, 109, []), zz (.iconst 3), zz (.iload_n 2), zz (.imul), (8, .iaload, 2, 0, 0, [])]),
  (17, [true, true, true], [(6, .invokestatic 153, 160, 3, 327, [2, 0, 0, 0, 0, 0, 0, 0, 0])]),
  (20, [true, true, true], [zz (.aload_n 0), (0, .getfield 7, 10, 0, 109, []), zz (.iconst 3), zz (.iload_n 1), zz (.imul), zz (.iconst 1), zz (.iadd), (8, .iaload, 4, 0, 0, [])]),
  (30, [true, true, true], [zz (.aload_n 0), (0, .getfield 7, 10, 0, 109, []), zz (.iconst 3), zz (.iload_n 2), zz (.imul), zz (.iconst 1), zz (.iadd), (8, .iaload, 5, 0, 0, [])]),
  (40, [true, true, true], [(6, .invokestatic 153, 160, 6, 327, [2, 0, 0, 0, 0, 0, 0, 0, 0])]),
  (43, [true, true, true], [zz (.aload_n 0), (0, .getfield 7, 10, 0, 109, []), zz (.iconst 3), zz (.iload_n 1), zz (.imul), zz (.iconst 2), zz (.iadd), (8, .iaload, 7, 0, 0, [])]),
  (53, [true, false, true], [zz (.aload_n 0), (0, .getfield 7, 10, 0, 109, []), zz (.iconst 3), zz (.iload_n 2), zz (.imul), zz (.iconst 2), zz (.iadd), (8, .iaload, 8, 0, 0, [])]),
  (63, [false, false, false], [(6, .invokestatic 153, 160, 9, 327, [2, 0, 0, 0, 0, 0, 0, 0, 0])]),
  (66, [false, false, false], [(6, .invokevirtual 156, 161, 10, 328, [4, 0, 0, 11, 0, 0, 0, 0, 0])]),
  (69, [false, false, false], [(5, .ireturn, 1, 0, 0, [])])])
noncomputable def pm_193 : mMt := ((yX10_closestPair, cX10_closestPair, 6, some .int, 0, 2, []), [(0, [true, true, false, false, false, false], [zz (.aload_n 0), zz (.iconst 0), (0, .putfield 38, 10, 3, 191, [0]), zz (.iload_n 1), zz (.iconst 0), zz (.iconst 2), (6, .invokestatic 41, 51, 1, 190, [3, 0, 0, 0, 0, 0, 0, 0, 0])]),
  (11, [true, true, false, false, false, false], [(3, .ifCond .ne 9, 4, 2, 0, [])]),
  (14, [true, false, false, false, false, false], [zz (.aload_n 0), zz (.iconst 1), (6, .invokevirtual 106, 53, 3, 205, [2, 0, 0, 11, 0, 0, 0, 0, 0])]),
  (19, [false, false, false, false, false, false], [(5, .ireturn, 1, 0, 0, [])]),
  (20, [true, true, false, false, false, false], [zz (.aload_n 0), (6, .invokevirtual 133, 130, 5, 286, [1, 0, 0, 11, 0, 0, 0, 0, 0])]),
  (24, [true, true, false, false, false, false], [zz (.iconst 2), (3, .if_icmp .ge 9, 8, 6, 0, [])]),
  (28, [true, false, false, false, false, false], [zz (.aload_n 0), zz (.iconst 2), (6, .invokevirtual 106, 53, 7, 205, [2, 0, 0, 11, 0, 0, 0, 0, 0])]),
  (33, [false, false, false, false, false, false], [(5, .ireturn, 1, 0, 0, [])]),
  (34, [true, true, false, false, false, false], [zz (.iconst (-1)), zz (.istore_n 2), zz (.iconst (-1)), zz (.istore_n 3), zz (.iconst 0), zz (.istore 4), (1, .return_, 9, 0, 0, [])]),
  (41, [true, true, true, true, true, false], [zz (.iload 4), zz (.aload_n 0), (0, .getfield 7, 10, 0, 109, []), zz (.sipush 2001), (8, .iaload, 10, 0, 0, [])]),
  (51, [true, true, true, true, true, false], [(3, .if_icmp .ge 79, 25, 11, 0, [])]),
  (54, [true, true, true, true, true, false], [zz (.iload 4), zz (.iconst 1), zz (.iadd), zz (.istore 5), (1, .return_, 12, 0, 0, [])]),
  (60, [true, true, true, true, true, true], [zz (.iload 5), zz (.aload_n 0), (0, .getfield 7, 10, 0, 109, []), zz (.sipush 2001), (8, .iaload, 13, 0, 0, [])]),
  (70, [true, true, true, true, true, true], [(3, .if_icmp .ge 54, 24, 14, 0, [])]),
  (73, [true, true, true, true, true, true], [zz (.aload_n 0), zz (.iload 4), (6, .invokevirtual 52, 129, 15, 285, [2, 0, 0, 11, 0, 0, 0, 0, 0])]),
  (79, [true, true, true, true, true, true], [(3, .ifCond .eq 39, 23, 16, 0, [])]),
  (82, [true, true, true, true, true, true], [zz (.aload_n 0), zz (.iload 5), (6, .invokevirtual 52, 129, 17, 285, [2, 0, 0, 11, 0, 0, 0, 0, 0])]),
  (88, [true, true, true, true, true, true], [(3, .ifCond .eq 30, 23, 18, 0, [])]),
  (91, [true, true, true, true, true, true], [zz (.iload_n 2), (3, .ifCond .lt 20, 22, 19, 0, [])]),
  (95, [true, true, true, true, true, true], [zz (.aload_n 0), zz (.iload 4), zz (.iload 5), (6, .invokevirtual 168, 192, 20, 362, [3, 0, 0, 11, 0, 0, 0, 0, 0])]),
  (103, [true, true, true, true, true, true], [zz (.aload_n 0), zz (.iload_n 2), zz (.iload_n 3), (6, .invokevirtual 168, 192, 21, 362, [3, 0, 0, 11, 0, 0, 0, 0, 0])]),
  (109, [true, true, true, true, true, true], [(3, .if_icmp .ge 9, 23, 22, 0, [])]),
  (112, [true, true, false, false, true, true], [zz (.iload 4), zz (.istore_n 2), zz (.iload 5), zz (.istore_n 3), (1, .return_, 23, 0, 0, [])]),
  (118, [true, true, true, true, true, true], [zz (.iinc 5 1), (2, .goto (-61), 12, 0, 0, [])]),
  (124, [true, true, true, true, true, false], [zz (.iinc 4 1), (2, .goto (-86), 9, 0, 0, [])]),
  (130, [true, true, true, true, false, false], [zz (.iload_n 1), (3, .ifCond .ne 7, 27, 26, 0, [])]),
  (134, [false, false, true, false, false, false], [zz (.iload_n 2), (2, .goto 18, 30, 0, 0, [])]),
  (138, [true, true, true, true, false, false], [zz (.iload_n 1), zz (.iconst 1), (3, .if_icmp .ne 7, 29, 28, 0, [])]),
  (143, [false, false, false, true, false, false], [zz (.iload_n 3), (2, .goto 9, 30, 0, 0, [])]),
  (147, [true, false, true, true, false, false], [zz (.aload_n 0), zz (.iload_n 2), zz (.iload_n 3), (6, .invokevirtual 168, 192, 30, 362, [3, 0, 0, 11, 0, 0, 0, 0, 0])]),
  (153, [false, false, false, false, false, false], [(5, .ireturn, 1, 0, 0, [])])])
noncomputable def pm_194 : mMt := ((yX9_requireVisible, cX9_requireVisible, 2, none, 1, 2, []), [(0, [true, true], [zz (.aload_n 0), (0, .getfield 24, 9, 2, 99, []), zz (.iload_n 1), (6, .invokevirtual 407, 125, 1, 363, [2, 0, 1, 5, 0, 0, 0, 0, 0])]),
  (8, [false, false], [(3, .ifCond .ne 14, 3, 2, 0, [])]),
  (11, [false, false], [(7, .new 92, 2, 0, 214, [1, 364])]),
  (22, [false, false], [(5, .return_, 0, 0, 0, [])])])
noncomputable def pm_195 : mMt := ((yX4_nearestOther, cX4_nearestOther, 7, some .int, 0, 2, []), [(0, [true, true, false, false, false, false, false], [zz (.iconst (-1)), zz (.istore_n 2), zz (.iconst 0), zz (.istore_n 3), zz (.iconst 0), zz (.istore 4), (1, .return_, 1, 0, 0, [])]),
  (7, [true, true, true, true, true, false, false], [zz (.iload 4), zz (.aload_n 0), (0, .getfield 12, 4, 3, 63, []), (0, .getfield 86, 1, 1, 280, []), (3, .if_icmp .ge 52, 9, 2, 0, [])]),
  (19, [true, true, true, true, true, false, false], [zz (.aload_n 0), (0, .getfield 12, 4, 3, 63, []), zz (.iload 4), (6, .invokevirtual 124, 30, 3, 338, [2, 0, 0, 2, 0, 0, 0, 0, 0])]),
  (28, [true, true, true, true, true, false, false], [zz (.istore 5), zz (.aload_n 0), zz (.iload_n 1), zz (.iload 5), (6, .invokevirtual 147, 187, 4, 353, [3, 0, 0, 5, 0, 0, 0, 0, 0])]),
  (37, [true, true, true, true, true, true, false], [zz (.istore 6), zz (.iload 5), zz (.iload_n 1), (3, .if_icmp .eq 20, 8, 5, 0, [])]),
  (45, [true, true, true, true, true, true, true], [zz (.iload_n 2), zz (.iconst (-1)), (3, .if_icmp .eq 9, 7, 6, 0, [])]),
  (50, [true, true, true, true, true, true, true], [zz (.iload 6), zz (.iload_n 3), (3, .if_icmp .ge 9, 8, 7, 0, [])]),
  (56, [true, true, false, false, true, true, true], [zz (.iload 5), zz (.istore_n 2), zz (.iload 6), zz (.istore_n 3), (1, .return_, 8, 0, 0, [])]),
  (62, [true, true, true, true, true, false, false], [zz (.iinc 4 1), (2, .goto (-58), 1, 0, 0, [])]),
  (68, [false, false, true, false, false, false, false], [zz (.iload_n 2), (5, .ireturn, 1, 0, 0, [])])])
noncomputable def pm_196 : mMt := ((yX4_countFollowers, cX4_countFollowers, 4, some .int, 0, 2, []), [(0, [true, true, false, false], [zz (.aload_n 0), (6, .invokevirtual 120, 126, 1, 337, [1, 0, 0, 5, 0, 0, 0, 0, 0])]),
  (4, [true, true, false, false], [zz (.pop), zz (.iconst 0), zz (.istore_n 2), zz (.iconst 0), zz (.istore_n 3), (1, .return_, 2, 0, 0, [])]),
  (9, [true, true, true, true], [zz (.iload_n 3), zz (.aload_n 0), (0, .getfield 12, 4, 3, 63, []), (0, .getfield 86, 1, 1, 280, []), (3, .if_icmp .ge 28, 8, 3, 0, [])]),
  (20, [true, true, true, true], [zz (.aload_n 0), zz (.aload_n 0), (0, .getfield 12, 4, 3, 63, []), zz (.iload_n 3), (6, .invokevirtual 124, 30, 4, 338, [2, 0, 0, 2, 0, 0, 0, 0, 0])]),
  (29, [true, true, true, true], [(6, .invokevirtual 150, 195, 5, 365, [2, 0, 0, 5, 0, 0, 0, 0, 0])]),
  (32, [true, true, true, true], [zz (.iload_n 1), (3, .if_icmp .ne 6, 7, 6, 0, [])]),
  (36, [true, true, true, true], [zz (.iinc 2 1), (1, .return_, 7, 0, 0, [])]),
  (39, [true, true, true, true], [zz (.iinc 3 1), (2, .goto (-33), 2, 0, 0, [])]),
  (45, [false, false, true, false], [zz (.iload_n 2), (5, .ireturn, 1, 0, 0, [])])])
noncomputable def pm_197 : mMt := ((yX9_followers, cX9_followers, 2, some .int, 1, 2, []), [(0, [true, true], [zz (.aload_n 0), zz (.iload_n 1), (6, .invokevirtual 305, 194, 1, 366, [2, 1, 1, 10, 0, 0, 0, 0, 0])]),
  (5, [true, true], [zz (.aload_n 0), (0, .getfield 24, 9, 2, 99, []), zz (.iload_n 1), (6, .invokevirtual 308, 196, 2, 367, [2, 0, 1, 5, 0, 0, 0, 0, 0])]),
  (13, [false, false], [(5, .ireturn, 1, 0, 0, [])])])
noncomputable def pm_198 : mMt := ((yL_followers, cL_followers, 4, some .int, 1, 3, [(0, 9, 12, 21)]), [(0, [true, true, true, false], [zz (.aload_n 2), zz (.iconst 0), zz (.aload_n 0), zz (.iload_n 1), (6, .invokevirtual 95, 197, 1, 368, [2, 1, 1, 10, 1, 1, 5, 1, 1])]),
  (7, [false, false, false, false], [zz (.i2l), (9, .lastore, 2, 0, 0, [])]),
  (9, [false, false, false, false], [(2, .goto 6, 4, 0, 0, [])]),
  (12, [false, false, false, false], [zz (.astore_n 3), zz (.iconst 1), (5, .ireturn, 1, 0, 0, [])]),
  (15, [false, false, false, false], [zz (.iconst 0), (5, .ireturn, 1, 0, 0, [])])])
noncomputable def pm_199 : mMt := ((yX10_closestTo, cX10_closestTo, 4, some .int, 0, 2, []), [(0, [true, true, false, false], [zz (.iconst (-1)), zz (.istore_n 2), zz (.iconst 0), zz (.istore_n 3), (1, .return_, 1, 0, 0, [])]),
  (4, [true, true, true, true], [zz (.iload_n 3), zz (.aload_n 0), (0, .getfield 7, 10, 0, 109, []), zz (.sipush 2001), (8, .iaload, 2, 0, 0, [])]),
  (13, [true, true, true, true], [(3, .if_icmp .ge 43, 12, 3, 0, [])]),
  (16, [true, true, true, true], [zz (.iload_n 3), zz (.iload_n 1), (3, .if_icmp .eq 32, 11, 4, 0, [])]),
  (21, [true, true, true, true], [zz (.aload_n 0), zz (.iload_n 3), (6, .invokevirtual 52, 129, 5, 285, [2, 0, 0, 11, 0, 0, 0, 0, 0])]),
  (26, [true, true, true, true], [(3, .ifCond .eq 24, 11, 6, 0, [])]),
  (29, [true, true, true, true], [zz (.iload_n 2), (3, .ifCond .lt 18, 10, 7, 0, [])]),
  (33, [true, true, true, true], [zz (.aload_n 0), zz (.iload_n 1), zz (.iload_n 3), (6, .invokevirtual 168, 192, 8, 362, [3, 0, 0, 11, 0, 0, 0, 0, 0])]),
  (39, [true, true, true, true], [zz (.aload_n 0), zz (.iload_n 1), zz (.iload_n 2), (6, .invokevirtual 168, 192, 9, 362, [3, 0, 0, 11, 0, 0, 0, 0, 0])]),
  (45, [true, true, true, true], [(3, .if_icmp .ge 5, 11, 10, 0, [])]),
  (48, [true, true, false, true], [zz (.iload_n 3), zz (.istore_n 2), (1, .return_, 11, 0, 0, [])]),
  (50, [true, true, true, true], [zz (.iinc 3 1), (2, .goto (-49), 1, 0, 0, [])]),
  (56, [false, false, true, false], [zz (.iload_n 2), (5, .ireturn, 1, 0, 0, [])])])
noncomputable def pm_200 : mMt := ((yX10_followers, cX10_followers, 4, some .int, 0, 2, []), [(0, [true, true, false, false], [zz (.aload_n 0), zz (.iconst 0), (0, .putfield 38, 10, 3, 191, [0]), zz (.aload_n 0), zz (.iload_n 1), (6, .invokevirtual 52, 129, 1, 285, [2, 0, 0, 11, 0, 0, 0, 0, 0])]),
  (10, [true, true, false, false], [(3, .ifCond .ne 9, 4, 2, 0, [])]),
  (13, [true, false, false, false], [zz (.aload_n 0), zz (.iconst 1), (6, .invokevirtual 106, 53, 3, 205, [2, 0, 0, 11, 0, 0, 0, 0, 0])]),
  (18, [false, false, false, false], [(5, .ireturn, 1, 0, 0, [])]),
  (19, [true, true, false, false], [zz (.iconst 0), zz (.istore_n 2), zz (.iconst 0), zz (.istore_n 3), (1, .return_, 5, 0, 0, [])]),
  (23, [true, true, true, true], [zz (.iload_n 3), zz (.aload_n 0), (0, .getfield 7, 10, 0, 109, []), zz (.sipush 2001), (8, .iaload, 6, 0, 0, [])]),
  (32, [true, true, true, true], [(3, .if_icmp .ge 39, 15, 7, 0, [])]),
  (35, [true, true, true, true], [zz (.iload_n 2), zz (.iload_n 3), zz (.iload_n 1), (3, .if_icmp .eq 24, 13, 8, 0, [])]),
  (41, [true, true, false, true], [zz (.aload_n 0), zz (.iload_n 3), (6, .invokevirtual 52, 129, 9, 285, [2, 0, 0, 11, 0, 0, 0, 0, 0])]),
  (46, [true, true, false, true], [(3, .ifCond .eq 16, 13, 10, 0, [])]),
  (49, [true, true, false, true], [zz (.aload_n 0), zz (.iload_n 3), (6, .invokevirtual 171, 199, 11, 369, [2, 0, 0, 11, 0, 0, 0, 0, 0])]),
  (54, [true, true, false, true], [zz (.iload_n 1), (3, .if_icmp .ne 7, 13, 12, 0, [])]),
  (58, [true, true, false, true], [zz (.iconst 1), (2, .goto 4, 14, 0, 0, [])]),
  (62, [true, true, false, true], [zz (.iconst 0), (1, .return_, 14, 0, 0, [])]),
  (63, [true, true, false, true], [zz (.iadd), zz (.istore_n 2), zz (.iinc 3 1), (2, .goto (-45), 5, 0, 0, [])]),
  (71, [false, false, true, false], [zz (.iload_n 2), (5, .ireturn, 1, 0, 0, [])])])
noncomputable def pm_201 : mMt := ((yX4_labelNeighbours, cX4_labelNeighbours, 5, none, 0, 4, []), [(0, [true, true, true, true, false], [zz (.iconst 0), zz (.istore 4), (1, .return_, 1, 0, 0, [])]),
  (3, [true, true, true, true, true], [zz (.iload 4), zz (.aload_n 0), (0, .getfield 12, 4, 3, 63, []), (0, .getfield 86, 1, 1, 280, []), (3, .if_icmp .ge 66, 11, 2, 0, [])]),
  (15, [true, true, true, true, true], [zz (.aload_n 0), (0, .getfield 22, 4, 5, 65, []), zz (.iload 4), (6, .invokestatic 64, 19, 3, 274, [2, 0, 0, 0, 0, 0, 0, 0, 0])]),
  (24, [true, true, true, true, true], [zz (.iconst (-1)), (3, .if_icmp .ne 47, 10, 4, 0, [])]),
  (28, [true, true, true, true, true], [zz (.aload_n 0), zz (.aload_n 0), (0, .getfield 12, 4, 3, 63, []), zz (.iload_n 1), (6, .invokevirtual 124, 30, 5, 338, [2, 0, 0, 2, 0, 0, 0, 0, 0])]),
  (37, [true, true, true, true, true], [zz (.aload_n 0), (0, .getfield 12, 4, 3, 63, []), zz (.iload 4), (6, .invokevirtual 124, 30, 6, 338, [2, 0, 0, 2, 0, 0, 0, 0, 0])]),
  (46, [true, true, true, true, true], [(6, .invokevirtual 147, 187, 7, 353, [3, 0, 0, 5, 0, 0, 0, 0, 0])]),
  (49, [true, true, true, true, true], [zz (.iload_n 3), (3, .if_icmp .gt 22, 10, 8, 0, [])]),
  (53, [true, true, true, true, true], [zz (.aload_n 0), (0, .getfield 22, 4, 5, 65, []), zz (.iload 4), zz (.iload_n 2), (6, .invokestatic 130, 17, 9, 340, [3, 0, 0, 0, 0, 0, 0, 0, 0])]),
  (63, [true, true, true, true, true], [zz (.aload_n 0), (0, .getfield 25, 4, 6, 66, []), zz (.iload 4), (6, .invokevirtual 82, 25, 10, 279, [2, 0, 0, 2, 0, 0, 0, 0, 0])]),
  (72, [true, true, true, true, true], [zz (.iinc 4 1), (2, .goto (-72), 1, 0, 0, [])]),
  (78, [false, false, false, false, false], [(5, .return_, 0, 0, 0, [])])])
noncomputable def pm_202 : mMt := ((yX4_spreadLabel, cX4_spreadLabel, 4, none, 0, 3, []), [(0, [true, true, true, false], [zz (.aload_n 0), (0, .getfield 22, 4, 5, 65, []), zz (.iload_n 1), zz (.iload_n 1), (6, .invokestatic 130, 17, 1, 340, [3, 0, 0, 0, 0, 0, 0, 0, 0])]),
  (9, [true, true, true, false], [zz (.aload_n 0), (0, .getfield 25, 4, 6, 66, []), (6, .invokevirtual 73, 24, 2, 276, [1, 0, 0, 2, 0, 0, 0, 0, 0])]),
  (16, [true, true, true, false], [zz (.aload_n 0), (0, .getfield 25, 4, 6, 66, []), zz (.iload_n 1), (6, .invokevirtual 82, 25, 3, 279, [2, 0, 0, 2, 0, 0, 0, 0, 0])]),
  (24, [true, true, true, false], [zz (.iconst 0), zz (.istore_n 3), (1, .return_, 4, 0, 0, [])]),
  (26, [true, true, true, true], [zz (.iload_n 3), zz (.bipush 60), (3, .if_icmp .ge 34, 9, 5, 0, [])]),
  (32, [true, true, true, true], [zz (.iload_n 3), zz (.aload_n 0), (0, .getfield 25, 4, 6, 66, []), (0, .getfield 86, 1, 1, 280, []), (3, .if_icmp .ge 23, 9, 6, 0, [])]),
  (43, [true, true, true, true], [zz (.aload_n 0), zz (.aload_n 0), (0, .getfield 25, 4, 6, 66, []), zz (.iload_n 3), (6, .invokevirtual 124, 30, 7, 338, [2, 0, 0, 2, 0, 0, 0, 0, 0])]),
  (52, [true, true, true, true], [zz (.iload_n 1), zz (.iload_n 2), (6, .invokevirtual 162, 201, 8, 370, [4, 0, 0, 5, 0, 0, 0, 0, 0])]),
  (57, [true, true, true, true], [zz (.iinc 3 1), (2, .goto (-34), 4, 0, 0, [])]),
  (63, [false, false, false, false], [(5, .return_, 0, 0, 0, [])])])
noncomputable def pm_203 : mMt := ((yX4_labelClusters, cX4_labelClusters, 4, some .int, 0, 2, []), [(0, [true, true, false, false], [zz (.aload_n 0), (6, .invokevirtual 120, 126, 1, 337, [1, 0, 0, 5, 0, 0, 0, 0, 0])]),
  (4, [true, true, false, false], [zz (.pop), zz (.aload_n 0), (0, .getfield 22, 4, 5, 65, []), zz (.iconst (-1)), (6, .invokestatic 153, 2, 2, 371, [2, 0, 0, 0, 0, 0, 0, 0, 0])]),
  (13, [true, true, false, false], [zz (.iconst 0), zz (.istore_n 2), zz (.iconst 0), zz (.istore_n 3), (1, .return_, 3, 0, 0, [])]),
  (17, [true, true, true, true], [zz (.iload_n 3), zz (.aload_n 0), (0, .getfield 12, 4, 3, 63, []), (0, .getfield 86, 1, 1, 280, []), (3, .if_icmp .ge 30, 9, 4, 0, [])]),
  (28, [true, true, true, true], [zz (.aload_n 0), (0, .getfield 22, 4, 5, 65, []), zz (.iload_n 3), (6, .invokestatic 64, 19, 5, 274, [2, 0, 0, 0, 0, 0, 0, 0, 0])]),
  (36, [true, true, true, true], [zz (.iconst (-1)), (3, .if_icmp .ne 12, 8, 6, 0, [])]),
  (40, [true, true, true, true], [zz (.aload_n 0), zz (.iload_n 3), zz (.iload_n 1), (6, .invokevirtual 159, 202, 7, 372, [3, 0, 0, 5, 0, 0, 0, 0, 0])]),
  (46, [true, true, true, true], [zz (.iinc 2 1), (1, .return_, 8, 0, 0, [])]),
  (49, [true, true, true, true], [zz (.iinc 3 1), (2, .goto (-35), 3, 0, 0, [])]),
  (55, [false, false, true, false], [zz (.iload_n 2), (5, .ireturn, 1, 0, 0, [])])])
noncomputable def pm_204 : mMt := ((yX9_clusters, cX9_clusters, 2, some .int, 0, 2, []), [(0, [true, true], [zz (.aload_n 0), (0, .getfield 24, 9, 2, 99, []), zz (.iload_n 1), (6, .invokevirtual 311, 203, 1, 373, [2, 0, 0, 5, 0, 0, 0, 0, 0])]),
  (8, [false, false], [(5, .ireturn, 1, 0, 0, [])])])
noncomputable def pm_205 : mMt := ((yX10_clustersBy, cX10_clustersBy, 6, some .int, 0, 2, []), [(0, [true, true, false, false, false, false], [zz (.iconst 0), zz (.istore_n 2), zz (.iconst 0), zz (.istore_n 3), (1, .return_, 1, 0, 0, [])]),
  (4, [true, true, true, true, false, false], [zz (.iload_n 3), zz (.aload_n 0), (0, .getfield 7, 10, 0, 109, []), zz (.sipush 2001), (8, .iaload, 2, 0, 0, [])]),
  (13, [true, true, true, true, false, false], [(3, .if_icmp .ge 34, 9, 3, 0, [])]),
  (16, [true, true, true, true, false, false], [zz (.aload_n 0), zz (.iload_n 3), (6, .invokevirtual 52, 129, 4, 285, [2, 0, 0, 11, 0, 0, 0, 0, 0])]),
  (21, [true, true, true, true, false, false], [(3, .ifCond .eq 20, 8, 5, 0, [])]),
  (24, [true, true, true, true, false, false], [zz (.aload_n 0), (0, .getfield 19, 10, 6, 112, []), zz (.iload_n 3), zz (.iload_n 3), (9, .iastore, 6, 0, 0, [])]),
  (31, [true, true, true, true, false, false], [zz (.aload_n 0), (0, .getfield 22, 10, 7, 113, []), zz (.iload_n 2), zz (.iload_n 3), (9, .iastore, 7, 0, 0, [])]),
  (38, [true, true, true, true, false, false], [zz (.iinc 2 1), (1, .return_, 8, 0, 0, [])]),
  (41, [true, true, true, true, false, false], [zz (.iinc 3 1), (2, .goto (-40), 1, 0, 0, [])]),
  (47, [true, true, true, false, false, false], [zz (.iconst 1), zz (.istore_n 3), (1, .return_, 10, 0, 0, [])]),
  (49, [true, true, true, true, false, false], [zz (.iload_n 3), (3, .ifCond .eq 113, 32, 11, 0, [])]),
  (53, [true, true, true, false, false, false], [zz (.iconst 0), zz (.istore_n 3), zz (.iconst 0), zz (.istore 4), (1, .return_, 12, 0, 0, [])]),
  (58, [true, true, true, true, true, false], [zz (.iload 4), zz (.iload_n 2), (3, .if_icmp .ge 99, 31, 13, 0, [])]),
  (64, [true, true, true, true, true, false], [zz (.iconst 0), zz (.istore 5), (1, .return_, 14, 0, 0, [])]),
  (67, [true, true, true, true, true, true], [zz (.iload 5), zz (.iload_n 2), (3, .if_icmp .ge 84, 30, 15, 0, [])]),
  (73, [true, true, true, true, true, true], [zz (.aload_n 0), (0, .getfield 19, 10, 6, 112, []), zz (.aload_n 0), (0, .getfield 22, 10, 7, 113, []), zz (.iload 5), (8, .iaload, 16, 0, 0, [])]),
  (84, [true, true, true, true, true, true], [(8, .iaload, 17, 0, 0, [])]),
  (85, [true, true, true, true, true, true], [zz (.aload_n 0), (0, .getfield 19, 10, 6, 112, []), zz (.aload_n 0), (0, .getfield 22, 10, 7, 113, []), zz (.iload 4), (8, .iaload, 18, 0, 0, [])]),
  (96, [true, true, true, true, true, true], [(8, .iaload, 19, 0, 0, [])]),
  (97, [true, true, true, true, true, true], [(3, .if_icmp .ge 51, 29, 20, 0, [])]),
  (100, [true, true, true, true, true, true], [zz (.aload_n 0), zz (.aload_n 0), (0, .getfield 22, 10, 7, 113, []), zz (.iload 4), (8, .iaload, 21, 0, 0, [])]),
  (108, [true, true, true, true, true, true], [zz (.aload_n 0), (0, .getfield 22, 10, 7, 113, []), zz (.iload 5), (8, .iaload, 22, 0, 0, [])]),
  (115, [true, true, true, true, true, true], [(6, .invokevirtual 168, 192, 23, 362, [3, 0, 0, 11, 0, 0, 0, 0, 0])]),
  (118, [true, true, true, true, true, true], [zz (.iload_n 1), (3, .if_icmp .gt 29, 29, 24, 0, [])]),
  (122, [true, true, true, false, true, true], [zz (.aload_n 0), (0, .getfield 19, 10, 6, 112, []), zz (.aload_n 0), (0, .getfield 22, 10, 7, 113, []), zz (.iload 4), (8, .iaload, 25, 0, 0, [])]),
  (133, [true, true, true, false, true, true], [zz (.aload_n 0), (0, .getfield 19, 10, 6, 112, []), zz (.aload_n 0), (0, .getfield 22, 10, 7, 113, []), zz (.iload 5), (8, .iaload, 26, 0, 0, [])]),
  (144, [true, true, true, false, true, true], [(8, .iaload, 27, 0, 0, [])]),
  (145, [true, true, true, false, true, true], [(9, .iastore, 28, 0, 0, [])]),
  (146, [true, true, true, false, true, true], [zz (.iconst 1), zz (.istore_n 3), (1, .return_, 29, 0, 0, [])]),
  (148, [true, true, true, true, true, true], [zz (.iinc 5 1), (2, .goto (-84), 14, 0, 0, [])]),
  (154, [true, true, true, true, true, false], [zz (.iinc 4 1), (2, .goto (-99), 12, 0, 0, [])]),
  (160, [true, true, true, true, false, false], [(2, .goto (-111), 10, 0, 0, [])]),
  (163, [true, false, true, false, false, false], [zz (.iconst 0), zz (.istore 4), zz (.iconst 0), zz (.istore 5), (1, .return_, 33, 0, 0, [])]),
  (169, [true, false, true, false, true, true], [zz (.iload 5), zz (.iload_n 2), (3, .if_icmp .ge 41, 41, 34, 0, [])]),
  (175, [true, false, true, false, true, true], [zz (.iload 4), zz (.aload_n 0), (0, .getfield 19, 10, 6, 112, []), zz (.aload_n 0), (0, .getfield 22, 10, 7, 113, []), zz (.iload 5), (8, .iaload, 35, 0, 0, [])]),
  (188, [true, false, true, false, false, true], [(8, .iaload, 36, 0, 0, [])]),
  (189, [true, false, true, false, false, true], [zz (.aload_n 0), (0, .getfield 22, 10, 7, 113, []), zz (.iload 5), (8, .iaload, 37, 0, 0, [])]),
  (196, [true, false, true, false, false, true], [(3, .if_icmp .ne 7, 39, 38, 0, [])]),
  (199, [true, false, true, false, false, true], [zz (.iconst 1), (2, .goto 4, 40, 0, 0, [])]),
  (203, [true, false, true, false, false, true], [zz (.iconst 0), (1, .return_, 40, 0, 0, [])]),
  (204, [true, false, true, false, false, true], [zz (.iadd), zz (.istore 4), zz (.iinc 5 1), (2, .goto (-41), 33, 0, 0, [])]),
  (213, [false, false, false, false, true, false], [zz (.iload 4), (5, .ireturn, 1, 0, 0, [])])])
noncomputable def pm_206 : mMt := ((yX10_clusters, cX10_clusters, 2, some .int, 0, 2, []), [(0, [true, true], [zz (.aload_n 0), zz (.iconst 0), (0, .putfield 38, 10, 3, 191, [0]), zz (.aload_n 0), zz (.iload_n 1), (6, .invokevirtual 174, 205, 1, 374, [2, 0, 0, 11, 0, 0, 0, 0, 0])]),
  (10, [false, false], [(5, .ireturn, 1, 0, 0, [])])])
noncomputable def pm_207 : mMt := ((yX4_firstOfCluster, cX4_firstOfCluster, 3, some .int, 0, 2, []), [(0, [true, true, false], [zz (.iconst 0), zz (.istore_n 2), (1, .return_, 1, 0, 0, [])]),
  (2, [true, true, true], [zz (.iload_n 2), zz (.aload_n 0), (0, .getfield 12, 4, 3, 63, []), (0, .getfield 86, 1, 1, 280, []), (3, .if_icmp .ge 37, 8, 2, 0, [])]),
  (13, [true, true, true], [zz (.aload_n 0), (0, .getfield 12, 4, 3, 63, []), zz (.iload_n 2), (6, .invokevirtual 124, 30, 3, 338, [2, 0, 0, 2, 0, 0, 0, 0, 0])]),
  (21, [true, true, true], [zz (.iload_n 1), (3, .if_icmp .ne 19, 7, 4, 0, [])]),
  (25, [true, false, true], [zz (.aload_n 0), (0, .getfield 12, 4, 3, 63, []), zz (.aload_n 0), (0, .getfield 22, 4, 5, 65, []), zz (.iload_n 2), (6, .invokestatic 64, 19, 5, 274, [2, 0, 0, 0, 0, 0, 0, 0, 0])]),
  (37, [false, false, false], [(6, .invokevirtual 124, 30, 6, 338, [2, 0, 0, 2, 0, 0, 0, 0, 0])]),
  (40, [false, false, false], [(5, .ireturn, 1, 0, 0, [])]),
  (41, [true, true, true], [zz (.iinc 2 1), (2, .goto (-42), 1, 0, 0, [])]),
  (47, [false, false, false], [zz (.iconst (-1)), (5, .ireturn, 1, 0, 0, [])])])
noncomputable def pm_208 : mMt := ((yX9_clusterOf, cX9_clusterOf, 3, some .int, 1, 3, []), [(0, [true, true, true], [zz (.aload_n 0), zz (.iload_n 1), (6, .invokevirtual 305, 194, 1, 366, [2, 1, 1, 10, 0, 0, 0, 0, 0])]),
  (5, [true, true, true], [zz (.aload_n 0), (0, .getfield 24, 9, 2, 99, []), zz (.iload_n 2), (6, .invokevirtual 311, 203, 2, 373, [2, 0, 1, 5, 0, 0, 0, 0, 0])]),
  (13, [true, true, false], [zz (.pop), zz (.aload_n 0), (0, .getfield 24, 9, 2, 99, []), zz (.iload_n 1), (6, .invokevirtual 314, 207, 3, 375, [2, 0, 1, 5, 0, 0, 0, 0, 0])]),
  (22, [false, false, false], [(5, .ireturn, 1, 0, 0, [])])])
noncomputable def pm_209 : mMt := ((yL_clusterOf, cL_clusterOf, 5, some .int, 1, 4, [(0, 10, 13, 21)]), [(0, [true, true, true, true, false], [zz (.aload_n 3), zz (.iconst 0), zz (.aload_n 0), zz (.iload_n 1), zz (.iload_n 2), (6, .invokevirtual 98, 208, 1, 376, [3, 1, 1, 10, 1, 1, 5, 1, 1])]),
  (8, [false, false, false, false, false], [zz (.i2l), (9, .lastore, 2, 0, 0, [])]),
  (10, [false, false, false, false, false], [(2, .goto 7, 4, 0, 0, [])]),
  (13, [false, false, false, false, false], [zz (.astore 4), zz (.iconst 1), (5, .ireturn, 1, 0, 0, [])]),
  (17, [false, false, false, false, false], [zz (.iconst 0), (5, .ireturn, 1, 0, 0, [])])])
noncomputable def pm_210 : mMt := ((yX10_clusterOf, cX10_clusterOf, 3, some .int, 0, 3, []), [(0, [true, true, true], [zz (.aload_n 0), zz (.iconst 0), (0, .putfield 38, 10, 3, 191, [0]), zz (.aload_n 0), zz (.iload_n 1), (6, .invokevirtual 52, 129, 1, 285, [2, 0, 0, 11, 0, 0, 0, 0, 0])]),
  (10, [true, true, true], [(3, .ifCond .ne 9, 4, 2, 0, [])]),
  (13, [true, false, false], [zz (.aload_n 0), zz (.iconst 1), (6, .invokevirtual 106, 53, 3, 205, [2, 0, 0, 11, 0, 0, 0, 0, 0])]),
  (18, [false, false, false], [(5, .ireturn, 1, 0, 0, [])]),
  (19, [true, true, true], [zz (.aload_n 0), zz (.iload_n 2), (6, .invokevirtual 174, 205, 5, 374, [2, 0, 0, 11, 0, 0, 0, 0, 0])]),
  (24, [true, true, false], [zz (.pop), zz (.aload_n 0), (0, .getfield 19, 10, 6, 112, []), zz (.iload_n 1), (8, .iaload, 6, 0, 0, [])]),
  (31, [false, false, false], [(5, .ireturn, 1, 0, 0, [])])])
noncomputable def pm_211 : mMt := ((yX9_corner, cX9_corner, 5, none, 1, 5, []), [(0, [true, true, true, true, true], [zz (.iload_n 1), (3, .ifCond .eq 19, 3, 1, 0, [])]),
  (4, [true, true, true, true, true], [zz (.iload_n 1), zz (.iconst 1), (3, .if_icmp .eq 14, 3, 2, 0, [])]),
  (9, [false, false, false, false, false], [(7, .new 209, 3, 0, 296, [1, 377])]),
  (20, [true, true, true, true, true], [zz (.iload_n 2), zz (.iload_n 3), zz (.iload 4), (6, .invokestatic 52, 13, 4, 179, [3, 0, 1, 0, 0, 0, 0, 0, 0])]),
  (27, [true, true, true, true, true], [(3, .ifCond .ne 13, 6, 5, 0, [])]),
  (30, [false, false, false, false, false], [(7, .new 60, 0, 0, 181, [1, 311])]),
  (40, [true, true, true, true, true], [zz (.iload_n 1), (3, .ifCond .ne 16, 8, 7, 0, [])]),
  (44, [true, false, true, true, true], [zz (.aload_n 0), (0, .getfield 10, 9, 0, 95, []), (0, .getfield 222, 6, 3, 301, []), (0, .getfield 319, 5, 2, 378, []), (2, .goto 13, 9, 0, 0, [])]),
  (57, [true, false, true, true, true], [zz (.aload_n 0), (0, .getfield 10, 9, 0, 95, []), (0, .getfield 222, 6, 3, 301, []), (0, .getfield 322, 5, 3, 379, []), (1, .return_, 9, 0, 0, [])]),
  (67, [false, false, true, true, true], [zz (.iload_n 2), zz (.iload_n 3), zz (.iload 4), (6, .invokestatic 254, 149, 10, 313, [4, 0, 1, 0, 0, 0, 0, 0, 0])]),
  (74, [false, false, false, false, false], [(5, .return_, 0, 0, 0, [])])])
noncomputable def pm_212 : mMt := ((yL_corner, cL_corner, 6, some .int, 1, 5, [(0, 9, 12, 67), (0, 9, 16, 13)]), [(0, [true, true, true, true, true, false], [zz (.aload_n 0), zz (.iload_n 1), zz (.iload_n 2), zz (.iload_n 3), zz (.iload 4), (6, .invokevirtual 101, 211, 1, 380, [5, 1, 1, 10, 5, 1, 1, 4, 1])]),
  (9, [false, false, false, false, false, false], [(2, .goto 11, 4, 0, 0, [])]),
  (12, [false, false, false, false, false, false], [zz (.astore 5), zz (.iconst 1), (5, .ireturn, 1, 0, 0, [])]),
  (16, [false, false, false, false, false, false], [zz (.astore 5), zz (.iconst 2), (5, .ireturn, 1, 0, 0, [])]),
  (20, [false, false, false, false, false, false], [zz (.iconst 0), (5, .ireturn, 1, 0, 0, [])])])
noncomputable def pm_213 : mMt := ((yX10_corner, cX10_corner, 5, none, 0, 5, []), [(0, [true, true, true, true, true], [zz (.aload_n 0), zz (.iconst 0), (0, .putfield 38, 10, 3, 191, [0]), zz (.iload_n 1), zz (.iconst 0), zz (.iconst 1), (6, .invokestatic 41, 51, 1, 190, [3, 0, 0, 0, 0, 0, 0, 0, 0])]),
  (11, [true, true, true, true, true], [(3, .ifCond .eq 13, 4, 2, 0, [])]),
  (14, [true, true, true, true, true], [zz (.iload_n 2), zz (.iload_n 3), zz (.iload 4), (6, .invokestatic 103, 52, 3, 204, [3, 0, 0, 0, 0, 0, 0, 0, 0])]),
  (21, [true, true, true, true, true], [(3, .ifCond .ne 22, 9, 4, 0, [])]),
  (24, [true, true, false, false, false], [zz (.aload_n 0), zz (.iload_n 1), zz (.iconst 0), zz (.iconst 1), (6, .invokestatic 41, 51, 5, 190, [3, 0, 0, 0, 0, 0, 0, 0, 0])]),
  (31, [false, false, false, false, false], [(3, .ifCond .eq 7, 7, 6, 0, [])]),
  (34, [false, false, false, false, false], [zz (.iconst 2), (2, .goto 4, 8, 0, 0, [])]),
  (38, [false, false, false, false, false], [zz (.iconst 1), (1, .return_, 8, 0, 0, [])]),
  (39, [false, false, false, false, false], [(0, .putfield 38, 10, 3, 191, [0]), (5, .return_, 0, 0, 0, [])]),
  (43, [true, true, true, true, true], [zz (.aload_n 0), (0, .getfield 7, 10, 0, 109, []), zz (.sipush 2011), zz (.iconst 3), zz (.iload_n 1), zz (.imul), zz (.iadd), zz (.iload_n 2), (9, .iastore, 10, 0, 0, [])]),
  (56, [true, true, false, true, true], [zz (.aload_n 0), (0, .getfield 7, 10, 0, 109, []), zz (.sipush 2011), zz (.iconst 3), zz (.iload_n 1), zz (.imul), zz (.iadd), zz (.iconst 1), zz (.iadd), zz (.iload_n 3), (9, .iastore, 11, 0, 0, [])]),
  (71, [true, true, false, false, true], [zz (.aload_n 0), (0, .getfield 7, 10, 0, 109, []), zz (.sipush 2011), zz (.iconst 3), zz (.iload_n 1), zz (.imul), zz (.iadd), zz (.iconst 2), zz (.iadd), zz (.iload 4), (9, .iastore, 12, 0, 0, [])]),
  (87, [false, false, false, false, false], [(5, .return_, 0, 0, 0, [])])])
noncomputable def pm_214 : mMt := ((yX4_isInBox, cX4_isInBox, 4, some .boolean, 0, 2, []), [(0, [true, true, false, false], [zz (.iconst 0), zz (.istore_n 2), (1, .return_, 1, 0, 0, [])]),
  (2, [true, true, true, false], [zz (.iload_n 2), zz (.iconst 3), (3, .if_icmp .ge 51, 9, 2, 0, [])]),
  (7, [true, true, true, false], [zz (.aload_n 0), (0, .getfield 44, 4, 0, 71, []), zz (.iload_n 1), zz (.iload_n 2), (6, .invokevirtual 89, 20, 3, 322, [3, 0, 0, 3, 0, 0, 0, 0, 0])]),
  (16, [true, true, true, false], [zz (.istore_n 3), zz (.iload_n 3), zz (.aload_n 0), (0, .getfield 54, 4, 2, 75, []), (0, .getfield 169, 5, 2, 381, []), zz (.iload_n 2), (6, .invokestatic 64, 19, 4, 274, [2, 0, 0, 0, 0, 0, 0, 0, 0])]),
  (29, [true, true, true, true], [(3, .if_icmp .lt 18, 7, 5, 0, [])]),
  (32, [true, true, true, true], [zz (.iload_n 3), zz (.aload_n 0), (0, .getfield 54, 4, 2, 75, []), (0, .getfield 172, 5, 3, 382, []), zz (.iload_n 2), (6, .invokestatic 64, 19, 6, 274, [2, 0, 0, 0, 0, 0, 0, 0, 0])]),
  (44, [true, true, true, false], [(3, .if_icmp .le 5, 8, 7, 0, [])]),
  (47, [false, false, false, false], [zz (.iconst 0), (5, .ireturn, 2, 0, 0, [])]),
  (49, [true, true, true, false], [zz (.iinc 2 1), (2, .goto (-50), 1, 0, 0, [])]),
  (55, [false, false, false, false], [zz (.iconst 1), (5, .ireturn, 2, 0, 0, [])])])
noncomputable def pm_215 : mMt := ((yX4_gatherBox, cX4_gatherBox, 2, some .int, 0, 1, []), [(0, [true, false], [zz (.aload_n 0), (0, .getfield 12, 4, 3, 63, []), (6, .invokevirtual 73, 24, 1, 276, [1, 0, 0, 2, 0, 0, 0, 0, 0])]),
  (7, [true, false], [zz (.iconst 0), zz (.istore_n 1), (1, .return_, 2, 0, 0, [])]),
  (9, [true, true], [zz (.iload_n 1), zz (.aload_n 0), (0, .getfield 44, 4, 0, 71, []), (0, .getfield 76, 2, 4, 277, []), (3, .if_icmp .ge 33, 9, 3, 0, [])]),
  (20, [true, true], [zz (.aload_n 0), zz (.iload_n 1), (6, .invokevirtual 79, 125, 4, 278, [2, 0, 0, 5, 0, 0, 0, 0, 0])]),
  (25, [true, true], [(3, .ifCond .eq 19, 8, 5, 0, [])]),
  (28, [true, true], [zz (.aload_n 0), zz (.iload_n 1), (6, .invokevirtual 166, 214, 6, 383, [2, 0, 0, 5, 0, 0, 0, 0, 0])]),
  (33, [true, true], [(3, .ifCond .eq 11, 8, 7, 0, [])]),
  (36, [true, true], [zz (.aload_n 0), (0, .getfield 12, 4, 3, 63, []), zz (.iload_n 1), (6, .invokevirtual 82, 25, 8, 279, [2, 0, 0, 2, 0, 0, 0, 0, 0])]),
  (44, [true, true], [zz (.iinc 1 1), (2, .goto (-38), 2, 0, 0, [])]),
  (50, [true, false], [zz (.aload_n 0), (0, .getfield 12, 4, 3, 63, []), (0, .getfield 86, 1, 1, 280, []), (5, .ireturn, 1, 0, 0, [])])])
noncomputable def pm_216 : mMt := ((yX9_inBox, cX9_inBox, 1, some .int, 0, 1, []), [(0, [true], [zz (.aload_n 0), (0, .getfield 24, 9, 2, 99, []), (6, .invokevirtual 325, 215, 1, 384, [1, 0, 0, 5, 0, 0, 0, 0, 0])]),
  (7, [false], [(5, .ireturn, 1, 0, 0, [])])])
noncomputable def pm_217 : mMt := ((yX10_isInBox, cX10_isInBox, 4, some .boolean, 0, 2, []), [(0, [true, true, false, false], [zz (.aload_n 0), zz (.iload_n 1), (6, .invokevirtual 52, 129, 1, 285, [2, 0, 0, 11, 0, 0, 0, 0, 0])]),
  (5, [true, true, false, false], [zz (.istore_n 2), zz (.iconst 0), zz (.istore_n 3), (1, .return_, 2, 0, 0, [])]),
  (8, [true, true, true, true], [zz (.iload_n 3), zz (.iconst 3), (3, .if_icmp .ge 47, 9, 3, 0, [])]),
  (13, [true, true, true, true], [zz (.iload_n 2), (3, .ifCond .eq 43, 9, 4, 0, [])]),
  (17, [true, true, false, true], [zz (.aload_n 0), (0, .getfield 7, 10, 0, 109, []), zz (.iconst 3), zz (.iload_n 1), zz (.imul), zz (.iload_n 3), zz (.iadd), (8, .iaload, 5, 0, 0, [])]),
  (27, [true, true, false, true], [zz (.aload_n 0), (0, .getfield 7, 10, 0, 109, []), zz (.sipush 2011), zz (.iload_n 3), zz (.iadd), (8, .iaload, 6, 0, 0, [])]),
  (37, [true, true, false, true], [zz (.aload_n 0), (0, .getfield 7, 10, 0, 109, []), zz (.sipush 2014), zz (.iload_n 3), zz (.iadd), (8, .iaload, 7, 0, 0, [])]),
  (47, [true, true, false, true], [(6, .invokestatic 41, 51, 8, 190, [3, 0, 0, 0, 0, 0, 0, 0, 0])]),
  (50, [true, true, false, true], [zz (.istore_n 2), zz (.iinc 3 1), (2, .goto (-46), 2, 0, 0, [])]),
  (57, [false, false, true, false], [zz (.iload_n 2), (5, .ireturn, 2, 0, 0, [])])])
noncomputable def pm_218 : mMt := ((yX10_boxed, cX10_boxed, 4, some .int, 0, 2, []), [(0, [true, true, false, false], [zz (.iconst 0), zz (.istore_n 2), zz (.iconst 0), zz (.istore_n 3), (1, .return_, 1, 0, 0, [])]),
  (4, [true, true, true, true], [zz (.iload_n 3), zz (.iload_n 1), (3, .if_icmp .ge 25, 7, 2, 0, [])]),
  (9, [true, true, true, true], [zz (.iload_n 2), zz (.aload_n 0), zz (.iload_n 3), (6, .invokevirtual 177, 217, 3, 385, [2, 0, 0, 11, 0, 0, 0, 0, 0])]),
  (15, [true, true, false, true], [(3, .ifCond .eq 7, 5, 4, 0, [])]),
  (18, [true, true, false, true], [zz (.iconst 1), (2, .goto 4, 6, 0, 0, [])]),
  (22, [true, true, false, true], [zz (.iconst 0), (1, .return_, 6, 0, 0, [])]),
  (23, [true, true, false, true], [zz (.iadd), zz (.istore_n 2), zz (.iinc 3 1), (2, .goto (-24), 1, 0, 0, [])]),
  (31, [false, false, true, false], [zz (.iload_n 2), (5, .ireturn, 1, 0, 0, [])])])
noncomputable def pm_219 : mMt := ((yX10_inBox, cX10_inBox, 1, some .int, 0, 1, []), [(0, [true], [zz (.aload_n 0), zz (.iconst 0), (0, .putfield 38, 10, 3, 191, [0]), zz (.aload_n 0), zz (.aload_n 0), (0, .getfield 7, 10, 0, 109, []), zz (.sipush 2001), (8, .iaload, 1, 0, 0, [])]),
  (14, [false], [(6, .invokevirtual 180, 218, 2, 386, [2, 0, 0, 11, 0, 0, 0, 0, 0])]),
  (17, [false], [(5, .ireturn, 1, 0, 0, [])])])
noncomputable def pm_220 : mMt := ((yX9_boxPoint, cX9_boxPoint, 3, some .int, 1, 2, []), [(0, [true, true, false], [zz (.aload_n 0), (0, .getfield 24, 9, 2, 99, []), (6, .invokevirtual 325, 215, 1, 384, [1, 0, 1, 5, 0, 0, 0, 0, 0])]),
  (7, [true, true, false], [zz (.istore_n 2), zz (.iload_n 1), (3, .ifCond .lt 8, 3, 2, 0, [])]),
  (12, [true, true, true], [zz (.iload_n 1), zz (.iload_n 2), (3, .if_icmp .lt 14, 4, 3, 0, [])]),
  (17, [false, false, false], [(7, .new 92, 2, 0, 214, [1, 344])]),
  (28, [true, true, false], [zz (.aload_n 0), (0, .getfield 24, 9, 2, 99, []), (0, .getfield 328, 4, 3, 387, []), zz (.iload_n 1), (6, .invokevirtual 331, 30, 5, 388, [2, 0, 1, 2, 0, 0, 0, 0, 0])]),
  (39, [false, false, false], [(5, .ireturn, 1, 0, 0, [])])])
noncomputable def pm_221 : mMt := ((yL_boxPoint, cL_boxPoint, 4, some .int, 1, 3, [(0, 9, 12, 21)]), [(0, [true, true, true, false], [zz (.aload_n 2), zz (.iconst 0), zz (.aload_n 0), zz (.iload_n 1), (6, .invokevirtual 105, 220, 1, 389, [2, 1, 1, 10, 1, 1, 5, 1, 1])]),
  (7, [false, false, false, false], [zz (.i2l), (9, .lastore, 2, 0, 0, [])]),
  (9, [false, false, false, false], [(2, .goto 6, 4, 0, 0, [])]),
  (12, [false, false, false, false], [zz (.astore_n 3), zz (.iconst 1), (5, .ireturn, 1, 0, 0, [])]),
  (15, [false, false, false, false], [zz (.iconst 0), (5, .ireturn, 1, 0, 0, [])])])
noncomputable def pm_222 : mMt := ((yX10_boxPoint, cX10_boxPoint, 3, some .int, 0, 2, []), [(0, [true, true, false], [zz (.aload_n 0), zz (.iconst 0), (0, .putfield 38, 10, 3, 191, [0]), zz (.iconst 0), zz (.istore_n 2), (1, .return_, 1, 0, 0, [])]),
  (7, [true, true, true], [zz (.iload_n 2), zz (.aload_n 0), (0, .getfield 7, 10, 0, 109, []), zz (.sipush 2001), (8, .iaload, 2, 0, 0, [])]),
  (16, [true, true, true], [(3, .if_icmp .ge 28, 9, 3, 0, [])]),
  (19, [true, true, true], [zz (.aload_n 0), zz (.iload_n 2), (6, .invokevirtual 177, 217, 4, 385, [2, 0, 0, 11, 0, 0, 0, 0, 0])]),
  (24, [true, true, true], [(3, .ifCond .eq 14, 8, 5, 0, [])]),
  (27, [true, true, true], [zz (.aload_n 0), zz (.iload_n 2), (6, .invokevirtual 180, 218, 6, 386, [2, 0, 0, 11, 0, 0, 0, 0, 0])]),
  (32, [true, true, true], [zz (.iload_n 1), (3, .if_icmp .ne 5, 8, 7, 0, [])]),
  (36, [false, false, true], [zz (.iload_n 2), (5, .ireturn, 1, 0, 0, [])]),
  (38, [true, true, true], [zz (.iinc 2 1), (2, .goto (-34), 1, 0, 0, [])]),
  (44, [true, false, false], [zz (.aload_n 0), zz (.iconst 1), (6, .invokevirtual 106, 53, 10, 205, [2, 0, 0, 11, 0, 0, 0, 0, 0])]),
  (49, [false, false, false], [(5, .ireturn, 1, 0, 0, [])])])
noncomputable def pm_223 : mMt := ((yX4_weightOfFound, cX4_weightOfFound, 3, some .int, 0, 1, []), [(0, [true, false, false], [zz (.iconst 0), zz (.istore_n 1), zz (.iconst 0), zz (.istore_n 2), (1, .return_, 1, 0, 0, [])]),
  (4, [true, true, true], [zz (.iload_n 2), zz (.aload_n 0), (0, .getfield 12, 4, 3, 63, []), (0, .getfield 86, 1, 1, 280, []), (3, .if_icmp .ge 30, 5, 2, 0, [])]),
  (15, [true, true, true], [zz (.iload_n 1), zz (.aload_n 0), (0, .getfield 44, 4, 0, 71, []), (0, .getfield 140, 2, 1, 351, []), zz (.aload_n 0), (0, .getfield 12, 4, 3, 63, []), zz (.iload_n 2), (6, .invokevirtual 124, 30, 3, 338, [2, 0, 0, 2, 0, 0, 0, 0, 0])]),
  (31, [true, false, true], [(6, .invokestatic 64, 19, 4, 274, [2, 0, 0, 0, 0, 0, 0, 0, 0])]),
  (34, [true, false, true], [zz (.iadd), zz (.istore_n 1), zz (.iinc 2 1), (2, .goto (-35), 1, 0, 0, [])]),
  (42, [false, true, false], [zz (.iload_n 1), (5, .ireturn, 1, 0, 0, [])])])
noncomputable def pm_224 : mMt := ((yX9_boxWeight, cX9_boxWeight, 1, some .int, 0, 1, []), [(0, [true], [zz (.aload_n 0), (0, .getfield 24, 9, 2, 99, []), (6, .invokevirtual 325, 215, 1, 384, [1, 0, 0, 5, 0, 0, 0, 0, 0])]),
  (7, [true], [zz (.pop), zz (.aload_n 0), (0, .getfield 24, 9, 2, 99, []), (6, .invokevirtual 334, 223, 2, 390, [1, 0, 0, 5, 0, 0, 0, 0, 0])]),
  (15, [false], [(5, .ireturn, 1, 0, 0, [])])])
noncomputable def pm_225 : mMt := ((yX10_weightInBox, cX10_weightInBox, 3, some .int, 0, 1, []), [(0, [true, false, false], [zz (.iconst 0), zz (.istore_n 1), zz (.iconst 0), zz (.istore_n 2), (1, .return_, 1, 0, 0, [])]),
  (4, [true, true, true], [zz (.iload_n 2), zz (.aload_n 0), (0, .getfield 7, 10, 0, 109, []), zz (.sipush 2001), (8, .iaload, 2, 0, 0, [])]),
  (13, [true, true, true], [(3, .if_icmp .ge 34, 9, 3, 0, [])]),
  (16, [true, true, true], [zz (.iload_n 1), zz (.aload_n 0), zz (.iload_n 2), (6, .invokevirtual 177, 217, 4, 385, [2, 0, 0, 11, 0, 0, 0, 0, 0])]),
  (22, [true, false, true], [(3, .ifCond .eq 16, 7, 5, 0, [])]),
  (25, [true, false, true], [zz (.aload_n 0), (0, .getfield 7, 10, 0, 109, []), zz (.sipush 600), zz (.iload_n 2), zz (.iadd), (8, .iaload, 6, 0, 0, [])]),
  (35, [true, false, true], [(2, .goto 4, 8, 0, 0, [])]),
  (38, [true, false, true], [zz (.iconst 0), (1, .return_, 8, 0, 0, [])]),
  (39, [true, false, true], [zz (.iadd), zz (.istore_n 1), zz (.iinc 2 1), (2, .goto (-40), 1, 0, 0, [])]),
  (47, [false, true, false], [zz (.iload_n 1), (5, .ireturn, 1, 0, 0, [])])])
noncomputable def pm_226 : mMt := ((yX10_boxWeight, cX10_boxWeight, 1, some .int, 0, 1, []), [(0, [true], [zz (.aload_n 0), zz (.iconst 0), (0, .putfield 38, 10, 3, 191, [0]), zz (.aload_n 0), (6, .invokevirtual 183, 225, 1, 391, [1, 0, 0, 11, 0, 0, 0, 0, 0])]),
  (9, [false], [(5, .ireturn, 1, 0, 0, [])])])
noncomputable def pm_227 : mMt := ((yX4_momentOfFound, cX4_momentOfFound, 5, some .int, 0, 2, []), [(0, [true, true, false, false, false], [zz (.iconst 0), zz (.istore_n 2), zz (.iconst 0), zz (.istore_n 3), (1, .return_, 1, 0, 0, [])]),
  (4, [true, true, true, true, false], [zz (.iload_n 3), zz (.aload_n 0), (0, .getfield 12, 4, 3, 63, []), (0, .getfield 86, 1, 1, 280, []), (3, .if_icmp .ge 45, 6, 2, 0, [])]),
  (15, [true, true, true, true, false], [zz (.aload_n 0), (0, .getfield 12, 4, 3, 63, []), zz (.iload_n 3), (6, .invokevirtual 124, 30, 3, 338, [2, 0, 0, 2, 0, 0, 0, 0, 0])]),
  (23, [true, true, true, true, false], [zz (.istore 4), zz (.iload_n 2), zz (.aload_n 0), (0, .getfield 44, 4, 0, 71, []), zz (.iload 4), zz (.iload_n 1), (6, .invokevirtual 89, 20, 4, 322, [3, 0, 0, 3, 0, 0, 0, 0, 0])]),
  (36, [true, true, false, true, true], [zz (.aload_n 0), (0, .getfield 44, 4, 0, 71, []), (0, .getfield 140, 2, 1, 351, []), zz (.iload 4), (6, .invokestatic 64, 19, 5, 274, [2, 0, 0, 0, 0, 0, 0, 0, 0])]),
  (48, [true, true, false, true, false], [zz (.imul), zz (.iadd), zz (.istore_n 2), zz (.iinc 3 1), (2, .goto (-50), 1, 0, 0, [])]),
  (57, [false, false, true, false, false], [zz (.iload_n 2), (5, .ireturn, 1, 0, 0, [])])])
noncomputable def pm_228 : mMt := ((yX9_center, cX9_center, 3, some .double, 2, 2, []), [(0, [true, true, false], [zz (.aload_n 0), zz (.iload_n 1), (6, .invokevirtual 108, 80, 1, 227, [2, 1, 2, 10, 0, 0, 0, 0, 0])]),
  (5, [true, true, false], [zz (.aload_n 0), (0, .getfield 24, 9, 2, 99, []), (6, .invokevirtual 325, 215, 2, 384, [1, 0, 2, 5, 0, 0, 0, 0, 0])]),
  (12, [true, true, false], [zz (.pop), zz (.aload_n 0), (0, .getfield 24, 9, 2, 99, []), (6, .invokevirtual 334, 223, 3, 390, [1, 0, 2, 5, 0, 0, 0, 0, 0])]),
  (20, [true, true, false], [zz (.istore_n 2), zz (.iload_n 2), (3, .ifCond .ne 14, 5, 4, 0, [])]),
  (25, [false, false, false], [(7, .new 142, 4, 0, 244, [2, 392])]),
  (36, [true, true, true], [zz (.aload_n 0), (0, .getfield 24, 9, 2, 99, []), zz (.iload_n 1), (6, .invokevirtual 339, 227, 6, 393, [2, 0, 2, 5, 0, 0, 0, 0, 0])]),
  (44, [false, false, true], [zz (.i2d), zz (.iload_n 2), zz (.i2d), (8, .ddiv, 7, 0, 0, [])]),
  (48, [false, false, false], [(5, .dreturn, 3, 0, 0, [])])])
noncomputable def pm_229 : mMt := ((yL_center, cL_center, 4, some .int, 2, 3, [(0, 8, 11, 13), (0, 8, 14, 40)]), [(0, [true, true, true, false], [zz (.aload_n 2), zz (.iconst 0), zz (.aload_n 0), zz (.iload_n 1), (6, .invokevirtual 108, 228, 1, 394, [2, 2, 2, 10, 5, 1, 1, 1, 6])]),
  (7, [false, false, false, false], [(9, .dastore, 2, 0, 0, [])]),
  (8, [false, false, false, false], [(2, .goto 9, 5, 0, 0, [])]),
  (11, [false, false, false, false], [zz (.astore_n 3), zz (.iconst 1), (5, .ireturn, 1, 0, 0, [])]),
  (14, [false, false, false, false], [zz (.astore_n 3), zz (.iconst 2), (5, .ireturn, 1, 0, 0, [])]),
  (17, [false, false, false, false], [zz (.iconst 0), (5, .ireturn, 1, 0, 0, [])])])
noncomputable def pm_230 : mMt := ((yX10_center, cX10_center, 5, some .double, 0, 2, []), [(0, [true, true, false, false, false], [zz (.aload_n 0), zz (.iconst 0), (0, .putfield 38, 10, 3, 191, [0]), zz (.iload_n 1), (6, .invokestatic 123, 83, 1, 230, [1, 0, 0, 0, 0, 0, 0, 0, 0])]),
  (9, [true, true, false, false, false], [(3, .ifCond .ne 10, 3, 2, 0, [])]),
  (12, [true, false, false, false, false], [zz (.aload_n 0), zz (.iconst 1), (0, .putfield 38, 10, 3, 191, [0]), zz (.dconst 0), (5, .dreturn, 3, 0, 0, [])]),
  (19, [true, true, false, false, false], [zz (.aload_n 0), (6, .invokevirtual 183, 225, 4, 391, [1, 0, 0, 11, 0, 0, 0, 0, 0])]),
  (23, [true, true, false, false, false], [zz (.istore_n 2), zz (.iload_n 2), (3, .ifCond .ne 10, 6, 5, 0, [])]),
  (28, [true, false, false, false, false], [zz (.aload_n 0), zz (.iconst 2), (0, .putfield 38, 10, 3, 191, [0]), zz (.dconst 0), (5, .dreturn, 3, 0, 0, [])]),
  (35, [true, true, true, false, false], [zz (.iconst 0), zz (.istore_n 3), zz (.iconst 0), zz (.istore 4), (1, .return_, 7, 0, 0, [])]),
  (40, [true, true, true, true, true], [zz (.iload 4), zz (.aload_n 0), (0, .getfield 7, 10, 0, 109, []), zz (.sipush 2001), (8, .iaload, 8, 0, 0, [])]),
  (50, [true, true, true, true, true], [(3, .if_icmp .ge 48, 16, 9, 0, [])]),
  (53, [true, true, true, true, true], [zz (.iload_n 3), zz (.aload_n 0), zz (.iload 4), (6, .invokevirtual 177, 217, 10, 385, [2, 0, 0, 11, 0, 0, 0, 0, 0])]),
  (60, [true, true, true, false, true], [(3, .ifCond .eq 29, 14, 11, 0, [])]),
  (63, [true, true, true, false, true], [zz (.aload_n 0), (0, .getfield 7, 10, 0, 109, []), zz (.sipush 600), zz (.iload 4), zz (.iadd), (8, .iaload, 12, 0, 0, [])]),
  (74, [true, true, true, false, true], [zz (.aload_n 0), (0, .getfield 7, 10, 0, 109, []), zz (.iconst 3), zz (.iload 4), zz (.imul), zz (.iload_n 1), zz (.iadd), (8, .iaload, 13, 0, 0, [])]),
  (85, [true, true, true, false, true], [zz (.imul), (2, .goto 4, 15, 0, 0, [])]),
  (89, [true, true, true, false, true], [zz (.iconst 0), (1, .return_, 15, 0, 0, [])]),
  (90, [true, true, true, false, true], [zz (.iadd), zz (.istore_n 3), zz (.iinc 4 1), (2, .goto (-55), 7, 0, 0, [])]),
  (98, [false, false, true, true, false], [zz (.iload_n 3), zz (.i2d), zz (.iload_n 2), zz (.i2d), (8, .ddiv, 17, 0, 0, [])]),
  (103, [false, false, false, false, false], [(5, .dreturn, 3, 0, 0, [])])])
noncomputable def pm_231 : mMt := ((yX1_addUnlessNone, cX1_addUnlessNone, 2, none, 0, 2, []), [(0, [true, true], [zz (.iload_n 1), zz (.iconst (-1)), (3, .if_icmp .eq 8, 2, 1, 0, [])]),
  (5, [true, true], [zz (.aload_n 0), zz (.iload_n 1), (6, .invokevirtual 27, 25, 2, 395, [2, 0, 0, 2, 0, 0, 0, 0, 0])]),
  (10, [false, false], [(5, .return_, 0, 0, 0, [])])])
noncomputable def pm_232 : mMt := ((yX4_meetsBox, cX4_meetsBox, 5, some .boolean, 0, 2, []), [(0, [true, true, false, false, false], [zz (.aload_n 0), (0, .getfield 49, 4, 1, 73, []), zz (.iload_n 1), (6, .invokevirtual 187, 34, 1, 396, [2, 0, 0, 9, 0, 0, 0, 0, 0])]),
  (8, [true, true, false, false, false], [(3, .ifCond .ne 5, 3, 2, 0, [])]),
  (11, [false, false, false, false, false], [zz (.iconst 0), (5, .ireturn, 2, 0, 0, [])]),
  (13, [true, true, false, false, false], [zz (.iconst 0), zz (.istore_n 2), (1, .return_, 4, 0, 0, [])]),
  (15, [true, true, true, false, false], [zz (.iload_n 2), zz (.iconst 3), (3, .if_icmp .ge 66, 12, 5, 0, [])]),
  (20, [true, true, true, false, false], [zz (.aload_n 0), (0, .getfield 49, 4, 1, 73, []), zz (.iload_n 1), zz (.iload_n 2), (6, .invokevirtual 109, 35, 6, 330, [3, 0, 0, 9, 0, 0, 0, 0, 0])]),
  (29, [true, true, true, false, false], [zz (.aload_n 0), (0, .getfield 54, 4, 2, 75, []), (0, .getfield 169, 5, 2, 381, []), zz (.iload_n 2), (6, .invokestatic 64, 19, 7, 274, [2, 0, 0, 0, 0, 0, 0, 0, 0])]),
  (40, [true, true, true, false, false], [(0, .invokestatic 117, 1, 0, 332, []), zz (.istore_n 3), zz (.aload_n 0), (0, .getfield 49, 4, 1, 73, []), zz (.iload_n 1), zz (.iload_n 2), (6, .invokevirtual 114, 36, 8, 331, [3, 0, 0, 9, 0, 0, 0, 0, 0])]),
  (53, [true, true, true, true, false], [zz (.aload_n 0), (0, .getfield 54, 4, 2, 75, []), (0, .getfield 172, 5, 3, 382, []), zz (.iload_n 2), (6, .invokestatic 64, 19, 9, 274, [2, 0, 0, 0, 0, 0, 0, 0, 0])]),
  (64, [true, true, true, true, false], [(0, .invokestatic 190, 2, 0, 397, []), zz (.istore 4), zz (.iload_n 3), zz (.iload 4), (3, .if_icmp .le 5, 11, 10, 0, [])]),
  (75, [false, false, false, false, false], [zz (.iconst 0), (5, .ireturn, 2, 0, 0, [])]),
  (77, [true, true, true, false, false], [zz (.iinc 2 1), (2, .goto (-65), 4, 0, 0, [])]),
  (83, [false, false, false, false, false], [zz (.iconst 1), (5, .ireturn, 2, 0, 0, [])])])
noncomputable def pm_233 : mMt := ((yX4_countVisits, cX4_countVisits, 3, some .int, 0, 1, []), [(0, [true, false, false], [zz (.aload_n 0), (0, .getfield 25, 4, 6, 66, []), (6, .invokevirtual 73, 24, 1, 276, [1, 0, 0, 2, 0, 0, 0, 0, 0])]),
  (7, [true, false, false], [zz (.aload_n 0), (0, .getfield 25, 4, 6, 66, []), zz (.aload_n 0), (0, .getfield 49, 4, 1, 73, []), (0, .getfield 175, 8, 11, 398, []), (6, .invokevirtual 178, 231, 2, 399, [2, 0, 0, 2, 0, 0, 0, 0, 0])]),
  (21, [true, false, false], [zz (.iconst 0), zz (.istore_n 1), (1, .return_, 3, 0, 0, [])]),
  (23, [true, true, false], [zz (.iload_n 1), zz (.sipush 200), (3, .if_icmp .ge 69, 13, 4, 0, [])]),
  (30, [true, true, false], [zz (.iload_n 1), zz (.aload_n 0), (0, .getfield 25, 4, 6, 66, []), (0, .getfield 86, 1, 1, 280, []), (3, .if_icmp .ge 58, 13, 5, 0, [])]),
  (41, [true, true, false], [zz (.aload_n 0), (0, .getfield 25, 4, 6, 66, []), zz (.iload_n 1), (6, .invokevirtual 124, 30, 6, 338, [2, 0, 0, 2, 0, 0, 0, 0, 0])]),
  (49, [true, true, false], [zz (.istore_n 2), zz (.aload_n 0), zz (.iload_n 2), (6, .invokevirtual 181, 232, 7, 400, [2, 0, 0, 5, 0, 0, 0, 0, 0])]),
  (55, [true, true, true], [(3, .ifCond .eq 35, 12, 8, 0, [])]),
  (58, [true, true, true], [zz (.aload_n 0), (0, .getfield 25, 4, 6, 66, []), zz (.aload_n 0), (0, .getfield 49, 4, 1, 73, []), zz (.iload_n 2), zz (.iconst 0), (6, .invokevirtual 184, 28, 9, 401, [3, 0, 0, 9, 0, 0, 0, 0, 0])]),
  (71, [true, true, true], [(6, .invokevirtual 178, 231, 10, 399, [2, 0, 0, 2, 0, 0, 0, 0, 0])]),
  (74, [true, true, true], [zz (.aload_n 0), (0, .getfield 25, 4, 6, 66, []), zz (.aload_n 0), (0, .getfield 49, 4, 1, 73, []), zz (.iload_n 2), zz (.iconst 1), (6, .invokevirtual 184, 28, 11, 401, [3, 0, 0, 9, 0, 0, 0, 0, 0])]),
  (87, [true, true, false], [(6, .invokevirtual 178, 231, 12, 399, [2, 0, 0, 2, 0, 0, 0, 0, 0])]),
  (90, [true, true, false], [zz (.iinc 1 1), (2, .goto (-70), 3, 0, 0, [])]),
  (96, [true, false, false], [zz (.aload_n 0), (0, .getfield 25, 4, 6, 66, []), (0, .getfield 86, 1, 1, 280, []), (5, .ireturn, 1, 0, 0, [])])])
noncomputable def pm_234 : mMt := ((yX9_visits, cX9_visits, 1, some .int, 0, 1, []), [(0, [true], [zz (.aload_n 0), (0, .getfield 24, 9, 2, 99, []), (6, .invokevirtual 342, 233, 1, 402, [1, 0, 0, 5, 0, 0, 0, 0, 0])]),
  (7, [false], [(5, .ireturn, 1, 0, 0, [])])])
noncomputable def pm_235 : mMt := ((yX10_meetsBox, cX10_meetsBox, 4, some .boolean, 0, 2, []), [(0, [true, true, false, false], [zz (.aload_n 0), zz (.iload_n 1), (6, .invokevirtual 59, 122, 1, 271, [2, 0, 0, 11, 0, 0, 0, 0, 0])]),
  (5, [true, true, false, false], [(3, .ifCond .le 7, 3, 2, 0, [])]),
  (8, [true, true, false, false], [zz (.iconst 1), (2, .goto 4, 4, 0, 0, [])]),
  (12, [true, true, false, false], [zz (.iconst 0), (1, .return_, 4, 0, 0, [])]),
  (13, [true, true, false, false], [zz (.istore_n 2), zz (.iconst 0), zz (.istore_n 3), (1, .return_, 5, 0, 0, [])]),
  (16, [true, true, true, true], [zz (.iload_n 3), zz (.iconst 3), (3, .if_icmp .ge 60, 17, 6, 0, [])]),
  (21, [true, true, true, true], [zz (.iload_n 2), (3, .ifCond .eq 56, 17, 7, 0, [])]),
  (25, [true, true, false, true], [zz (.aload_n 0), zz (.iload_n 1), zz (.iload_n 3), (6, .invokevirtual 136, 136, 8, 292, [3, 0, 0, 11, 0, 0, 0, 0, 0])]),
  (31, [true, true, false, true], [zz (.aload_n 0), (0, .getfield 7, 10, 0, 109, []), zz (.sipush 2011), zz (.iload_n 3), zz (.iadd), (8, .iaload, 9, 0, 0, [])]),
  (41, [true, true, false, true], [(6, .invokestatic 146, 137, 10, 295, [2, 0, 0, 0, 0, 0, 0, 0, 0])]),
  (44, [true, true, false, true], [zz (.aload_n 0), zz (.iload_n 1), zz (.iload_n 3), (6, .invokevirtual 143, 138, 11, 294, [3, 0, 0, 11, 0, 0, 0, 0, 0])]),
  (50, [true, true, false, true], [zz (.aload_n 0), (0, .getfield 7, 10, 0, 109, []), zz (.sipush 2014), zz (.iload_n 3), zz (.iadd), (8, .iaload, 12, 0, 0, [])]),
  (60, [true, true, false, true], [(6, .invokestatic 140, 135, 13, 293, [2, 0, 0, 0, 0, 0, 0, 0, 0])]),
  (63, [true, true, false, true], [(3, .if_icmp .gt 7, 15, 14, 0, [])]),
  (66, [true, true, false, true], [zz (.iconst 1), (2, .goto 4, 16, 0, 0, [])]),
  (70, [true, true, false, true], [zz (.iconst 0), (1, .return_, 16, 0, 0, [])]),
  (71, [true, true, false, true], [zz (.istore_n 2), zz (.iinc 3 1), (2, .goto (-59), 5, 0, 0, [])]),
  (78, [false, false, true, false], [zz (.iload_n 2), (5, .ireturn, 2, 0, 0, [])])])
noncomputable def pm_236 : mMt := ((yX10_visitsFrom, cX10_visitsFrom, 2, some .int, 0, 2, []), [(0, [true, true], [zz (.iload_n 1), (3, .ifCond .ge 5, 2, 1, 0, [])]),
  (4, [false, false], [zz (.iconst 0), (5, .ireturn, 1, 0, 0, [])]),
  (6, [true, true], [zz (.aload_n 0), zz (.iload_n 1), (6, .invokevirtual 186, 235, 3, 403, [2, 0, 0, 11, 0, 0, 0, 0, 0])]),
  (11, [true, true], [(3, .ifCond .eq 37, 9, 4, 0, [])]),
  (14, [true, true], [zz (.iconst 1), zz (.aload_n 0), zz (.aload_n 0), (0, .getfield 7, 10, 0, 109, []), zz (.sipush 1400), zz (.iload_n 1), zz (.iadd), (8, .iaload, 5, 0, 0, [])]),
  (26, [true, true], [(6, .invokevirtual 189, 236, 6, 404, [2, 0, 0, 11, 0, 0, 0, 0, 0])]),
  (29, [true, true], [zz (.iadd), zz (.aload_n 0), zz (.aload_n 0), (0, .getfield 7, 10, 0, 109, []), zz (.sipush 1600), zz (.iload_n 1), zz (.iadd), (8, .iaload, 7, 0, 0, [])]),
  (41, [false, false], [(6, .invokevirtual 189, 236, 8, 404, [2, 0, 0, 11, 0, 0, 0, 0, 0])]),
  (44, [false, false], [zz (.iadd), (2, .goto 4, 10, 0, 0, [])]),
  (48, [false, false], [zz (.iconst 1), (1, .return_, 10, 0, 0, [])]),
  (49, [false, false], [(5, .ireturn, 1, 0, 0, [])])])
noncomputable def pm_237 : mMt := ((yX10_visits, cX10_visits, 1, some .int, 0, 1, []), [(0, [true], [zz (.aload_n 0), zz (.iconst 0), (0, .putfield 38, 10, 3, 191, [0]), zz (.aload_n 0), zz (.aload_n 0), (0, .getfield 7, 10, 0, 109, []), zz (.sipush 2000), (8, .iaload, 1, 0, 0, [])]),
  (14, [false], [(6, .invokevirtual 189, 236, 2, 404, [2, 0, 0, 11, 0, 0, 0, 0, 0])]),
  (17, [false], [(5, .ireturn, 1, 0, 0, [])])])
noncomputable def pm_238 : mMt := ((yX0_addIfAlive, cX0_addIfAlive, 2, none, 0, 2, []), [(0, [true, true], [zz (.aload_n 0), (0, .getfield 29, 0, 0, 83, []), (0, .getfield 52, 8, 0, 405, []), zz (.iload_n 1), (6, .invokevirtual 58, 32, 1, 406, [2, 0, 0, 3, 0, 0, 0, 0, 0])]),
  (11, [true, true], [(3, .ifCond .eq 11, 3, 2, 0, [])]),
  (14, [true, true], [zz (.aload_n 0), (0, .getfield 12, 0, 1, 79, []), zz (.iload_n 1), (6, .invokevirtual 64, 25, 3, 407, [2, 0, 0, 2, 0, 0, 0, 0, 0])]),
  (22, [false, false], [(5, .return_, 0, 0, 0, [])])])
noncomputable def pm_239 : mMt := ((yX0_listPreorder, cX0_listPreorder, 2, none, 0, 1, []), [(0, [true, false], [zz (.iconst 0), zz (.istore_n 1), (1, .return_, 1, 0, 0, [])]),
  (2, [true, true], [zz (.iload_n 1), zz (.aload_n 0), (0, .getfield 29, 0, 0, 83, []), (0, .getfield 68, 8, 9, 408, []), (0, .getfield 33, 1, 1, 409, []), (3, .if_icmp .ge 24, 5, 2, 0, [])]),
  (16, [true, true], [zz (.aload_n 0), zz (.aload_n 0), (0, .getfield 29, 0, 0, 83, []), (0, .getfield 68, 8, 9, 408, []), zz (.iload_n 1), (6, .invokevirtual 36, 30, 3, 410, [2, 0, 0, 2, 0, 0, 0, 0, 0])]),
  (28, [true, true], [(6, .invokevirtual 71, 238, 4, 411, [2, 0, 0, 1, 0, 0, 0, 0, 0])]),
  (31, [true, true], [zz (.iinc 1 1), (2, .goto (-32), 1, 0, 0, [])]),
  (37, [false, false], [(5, .return_, 0, 0, 0, [])])])
end
section
/-! THE BLOCKS OF THE METHODS, 4 -/
noncomputable def pm_240 : mMt := ((yX0_waitLeftwards, cX0_waitLeftwards, 4, none, 0, 2, []), [(0, [true, true, false, false], [zz (.iload_n 1), zz (.istore_n 2), zz (.iconst 0), zz (.istore_n 3), (1, .return_, 1, 0, 0, [])]),
  (4, [true, false, true, true], [zz (.iload_n 3), zz (.sipush 200), (3, .if_icmp .ge 32, 6, 2, 0, [])]),
  (11, [true, false, true, true], [zz (.iload_n 2), zz (.iconst (-1)), (3, .if_icmp .eq 27, 6, 3, 0, [])]),
  (16, [true, false, true, true], [zz (.aload_n 0), (0, .getfield 18, 0, 2, 80, []), zz (.iload_n 2), (6, .invokevirtual 64, 25, 4, 407, [2, 0, 0, 2, 0, 0, 0, 0, 0])]),
  (24, [true, false, true, true], [zz (.aload_n 0), (0, .getfield 29, 0, 0, 83, []), zz (.iload_n 2), zz (.iconst 0), (6, .invokevirtual 84, 28, 5, 412, [3, 0, 0, 9, 0, 0, 0, 0, 0])]),
  (33, [true, false, false, true], [zz (.istore_n 2), zz (.iinc 3 1), (2, .goto (-33), 1, 0, 0, [])]),
  (40, [false, false, false, false], [(5, .return_, 0, 0, 0, [])])])
noncomputable def pm_241 : mMt := ((yX0_listInorder, cX0_listInorder, 3, none, 0, 1, []), [(0, [true, false, false], [zz (.aload_n 0), zz (.aload_n 0), (0, .getfield 29, 0, 0, 83, []), (0, .getfield 74, 8, 11, 413, []), (6, .invokevirtual 77, 240, 1, 414, [2, 0, 0, 1, 0, 0, 0, 0, 0])]),
  (11, [true, false, false], [zz (.iconst 0), zz (.istore_n 1), (1, .return_, 2, 0, 0, [])]),
  (13, [true, true, false], [zz (.iload_n 1), zz (.sipush 200), (3, .if_icmp .ge 45, 9, 3, 0, [])]),
  (20, [true, true, false], [zz (.aload_n 0), (0, .getfield 18, 0, 2, 80, []), (0, .getfield 33, 1, 1, 409, []), (3, .ifCond .le 35, 9, 4, 0, [])]),
  (30, [true, true, false], [zz (.aload_n 0), (0, .getfield 18, 0, 2, 80, []), (6, .invokevirtual 80, 27, 5, 415, [1, 0, 0, 2, 0, 0, 0, 0, 0])]),
  (37, [true, true, false], [zz (.istore_n 2), zz (.aload_n 0), zz (.iload_n 2), (6, .invokevirtual 71, 238, 6, 411, [2, 0, 0, 1, 0, 0, 0, 0, 0])]),
  (43, [true, true, true], [zz (.aload_n 0), zz (.aload_n 0), (0, .getfield 29, 0, 0, 83, []), zz (.iload_n 2), zz (.iconst 1), (6, .invokevirtual 84, 28, 7, 412, [3, 0, 0, 9, 0, 0, 0, 0, 0])]),
  (53, [true, true, false], [(6, .invokevirtual 77, 240, 8, 414, [2, 0, 0, 1, 0, 0, 0, 0, 0])]),
  (56, [true, true, false], [zz (.iinc 1 1), (2, .goto (-46), 2, 0, 0, [])]),
  (62, [false, false, false], [(5, .return_, 0, 0, 0, [])])])
noncomputable def pm_242 : mMt := ((yX0_listLevels, cX0_listLevels, 3, none, 0, 1, []), [(0, [true, false, false], [zz (.aload_n 0), (0, .getfield 18, 0, 2, 80, []), zz (.aload_n 0), (0, .getfield 29, 0, 0, 83, []), (0, .getfield 74, 8, 11, 413, []), (6, .invokevirtual 88, 231, 1, 416, [2, 0, 0, 2, 0, 0, 0, 0, 0])]),
  (14, [true, false, false], [zz (.iconst 0), zz (.istore_n 1), (1, .return_, 2, 0, 0, [])]),
  (16, [true, true, false], [zz (.iload_n 1), zz (.sipush 200), (3, .if_icmp .ge 66, 11, 3, 0, [])]),
  (23, [true, true, false], [zz (.iload_n 1), zz (.aload_n 0), (0, .getfield 18, 0, 2, 80, []), (0, .getfield 33, 1, 1, 409, []), (3, .if_icmp .ge 55, 11, 4, 0, [])]),
  (34, [true, true, false], [zz (.aload_n 0), (0, .getfield 18, 0, 2, 80, []), zz (.iload_n 1), (6, .invokevirtual 36, 30, 5, 410, [2, 0, 0, 2, 0, 0, 0, 0, 0])]),
  (42, [true, true, false], [zz (.istore_n 2), zz (.aload_n 0), zz (.iload_n 2), (6, .invokevirtual 71, 238, 6, 411, [2, 0, 0, 1, 0, 0, 0, 0, 0])]),
  (48, [true, true, true], [zz (.aload_n 0), (0, .getfield 18, 0, 2, 80, []), zz (.aload_n 0), (0, .getfield 29, 0, 0, 83, []), zz (.iload_n 2), zz (.iconst 0), (6, .invokevirtual 84, 28, 7, 412, [3, 0, 0, 9, 0, 0, 0, 0, 0])]),
  (61, [true, true, true], [(6, .invokevirtual 88, 231, 8, 416, [2, 0, 0, 2, 0, 0, 0, 0, 0])]),
  (64, [true, true, true], [zz (.aload_n 0), (0, .getfield 18, 0, 2, 80, []), zz (.aload_n 0), (0, .getfield 29, 0, 0, 83, []), zz (.iload_n 2), zz (.iconst 1), (6, .invokevirtual 84, 28, 9, 412, [3, 0, 0, 9, 0, 0, 0, 0, 0])]),
  (77, [true, true, false], [(6, .invokevirtual 88, 231, 10, 416, [2, 0, 0, 2, 0, 0, 0, 0, 0])]),
  (80, [true, true, false], [zz (.iinc 1 1), (2, .goto (-67), 2, 0, 0, [])]),
  (86, [false, false, false], [(5, .return_, 0, 0, 0, [])])])
noncomputable def pm_243 : mMt := ((yX0_start, cX0_start, 2, some .int, 0, 2, []), [(0, [true, true], [zz (.aload_n 0), (0, .getfield 12, 0, 1, 79, []), (6, .invokevirtual 40, 24, 1, 417, [1, 0, 0, 2, 0, 0, 0, 0, 0])]),
  (7, [true, true], [zz (.aload_n 0), (0, .getfield 18, 0, 2, 80, []), (6, .invokevirtual 40, 24, 2, 417, [1, 0, 0, 2, 0, 0, 0, 0, 0])]),
  (14, [true, true], [zz (.aload_n 0), zz (.iconst 0), (0, .putfield 21, 0, 3, 81, [0]), zz (.aload_n 0), zz (.iconst 1), (0, .putfield 25, 0, 4, 82, [1]), zz (.iload_n 1), (4, .lookupswitch 41 #[(0, 27), (1, 34)], 7, 0, 0, [3, 5])]),
  (52, [true, false], [zz (.aload_n 0), (6, .invokevirtual 43, 239, 4, 418, [1, 0, 0, 1, 0, 0, 0, 0, 0])]),
  (56, [true, false], [(2, .goto 14, 8, 0, 0, [])]),
  (59, [true, false], [zz (.aload_n 0), (6, .invokevirtual 46, 241, 6, 419, [1, 0, 0, 1, 0, 0, 0, 0, 0])]),
  (63, [true, false], [(2, .goto 7, 8, 0, 0, [])]),
  (66, [true, false], [zz (.aload_n 0), (6, .invokevirtual 49, 242, 8, 420, [1, 0, 0, 1, 0, 0, 0, 0, 0])]),
  (70, [true, false], [zz (.aload_n 0), (0, .getfield 12, 0, 1, 79, []), (0, .getfield 33, 1, 1, 409, []), (5, .ireturn, 1, 0, 0, [])])])
noncomputable def pm_244 : mMt := ((yX9_open, cX9_open, 2, some .int, 1, 2, []), [(0, [true, true], [zz (.iload_n 1), (3, .ifCond .eq 24, 4, 1, 0, [])]),
  (4, [true, true], [zz (.iload_n 1), zz (.iconst 1), (3, .if_icmp .eq 19, 4, 2, 0, [])]),
  (9, [true, true], [zz (.iload_n 1), zz (.iconst 2), (3, .if_icmp .eq 14, 4, 3, 0, [])]),
  (14, [false, false], [(7, .new 60, 0, 0, 181, [1, 421])]),
  (25, [true, true], [zz (.aload_n 0), (0, .getfield 37, 9, 3, 103, []), zz (.iload_n 1), (6, .invokevirtual 347, 243, 5, 422, [2, 0, 1, 1, 0, 0, 0, 0, 0])]),
  (33, [false, false], [(5, .ireturn, 1, 0, 0, [])])])
noncomputable def pm_245 : mMt := ((yL_open, cL_open, 4, some .int, 1, 3, [(0, 9, 12, 13)]), [(0, [true, true, true, false], [zz (.aload_n 2), zz (.iconst 0), zz (.aload_n 0), zz (.iload_n 1), (6, .invokevirtual 112, 244, 1, 423, [2, 1, 1, 10, 5, 1, 1, 1, 1])]),
  (7, [false, false, false, false], [zz (.i2l), (9, .lastore, 2, 0, 0, [])]),
  (9, [false, false, false, false], [(2, .goto 6, 4, 0, 0, [])]),
  (12, [false, false, false, false], [zz (.astore_n 3), zz (.iconst 1), (5, .ireturn, 1, 0, 0, [])]),
  (15, [false, false, false, false], [zz (.iconst 0), (5, .ireturn, 1, 0, 0, [])])])
noncomputable def pm_246 : mMt := ((yX10_takes, cX10_takes, 2, none, 0, 2, []), [(0, [true, true], [zz (.aload_n 0), (0, .getfield 7, 10, 0, 109, []), zz (.sipush 1000), zz (.iload_n 1), zz (.iadd), (8, .iaload, 1, 0, 0, [])]),
  (10, [true, true], [zz (.iconst 1), (3, .if_icmp .ne 23, 4, 2, 0, [])]),
  (14, [true, true], [zz (.aload_n 0), (0, .getfield 25, 10, 9, 114, []), zz (.aload_n 0), (0, .getfield 192, 10, 10, 424, []), zz (.iload_n 1), (9, .iastore, 3, 0, 0, [])]),
  (24, [true, false], [zz (.aload_n 0), zz (.dup), (0, .getfield 192, 10, 10, 424, []), zz (.iconst 1), zz (.iadd), (0, .putfield 192, 10, 10, 424, [0]), (1, .return_, 4, 0, 0, [])]),
  (34, [false, false], [(5, .return_, 0, 0, 0, [])])])
noncomputable def pm_247 : mMt := ((yX10_goesBefore, cX10_goesBefore, 2, none, 0, 2, []), [(0, [true, true], [zz (.iload_n 1), (3, .ifCond .ge 4, 2, 1, 0, [])]),
  (4, [false, false], [(5, .return_, 0, 0, 0, [])]),
  (5, [true, true], [zz (.aload_n 0), zz (.iload_n 1), (6, .invokevirtual 195, 246, 3, 425, [2, 0, 0, 11, 0, 0, 0, 0, 0])]),
  (10, [true, true], [zz (.aload_n 0), zz (.aload_n 0), (0, .getfield 7, 10, 0, 109, []), zz (.sipush 1400), zz (.iload_n 1), zz (.iadd), (8, .iaload, 4, 0, 0, [])]),
  (21, [true, true], [(6, .invokevirtual 198, 247, 5, 426, [2, 0, 0, 11, 0, 0, 0, 0, 0])]),
  (24, [true, true], [zz (.aload_n 0), zz (.aload_n 0), (0, .getfield 7, 10, 0, 109, []), zz (.sipush 1600), zz (.iload_n 1), zz (.iadd), (8, .iaload, 6, 0, 0, [])]),
  (35, [false, false], [(6, .invokevirtual 198, 247, 7, 426, [2, 0, 0, 11, 0, 0, 0, 0, 0])]),
  (38, [false, false], [(5, .return_, 0, 0, 0, [])])])
noncomputable def pm_248 : mMt := ((yX10_goesBetween, cX10_goesBetween, 2, none, 0, 2, []), [(0, [true, true], [zz (.iload_n 1), (3, .ifCond .ge 4, 2, 1, 0, [])]),
  (4, [false, false], [(5, .return_, 0, 0, 0, [])]),
  (5, [true, true], [zz (.aload_n 0), zz (.aload_n 0), (0, .getfield 7, 10, 0, 109, []), zz (.sipush 1400), zz (.iload_n 1), zz (.iadd), (8, .iaload, 3, 0, 0, [])]),
  (16, [true, true], [(6, .invokevirtual 201, 248, 4, 427, [2, 0, 0, 11, 0, 0, 0, 0, 0])]),
  (19, [true, true], [zz (.aload_n 0), zz (.iload_n 1), (6, .invokevirtual 195, 246, 5, 425, [2, 0, 0, 11, 0, 0, 0, 0, 0])]),
  (24, [true, true], [zz (.aload_n 0), zz (.aload_n 0), (0, .getfield 7, 10, 0, 109, []), zz (.sipush 1600), zz (.iload_n 1), zz (.iadd), (8, .iaload, 6, 0, 0, [])]),
  (35, [false, false], [(6, .invokevirtual 201, 248, 7, 427, [2, 0, 0, 11, 0, 0, 0, 0, 0])]),
  (38, [false, false], [(5, .return_, 0, 0, 0, [])])])
noncomputable def pm_249 : mMt := ((yX10_goesLevel, cX10_goesLevel, 3, none, 0, 3, []), [(0, [true, true, true], [zz (.iload_n 1), (3, .ifCond .ge 4, 2, 1, 0, [])]),
  (4, [false, false, false], [(5, .return_, 0, 0, 0, [])]),
  (5, [true, true, true], [zz (.iload_n 2), (3, .ifCond .ne 9, 5, 3, 0, [])]),
  (9, [true, true, false], [zz (.aload_n 0), zz (.iload_n 1), (6, .invokevirtual 195, 246, 4, 425, [2, 0, 0, 11, 0, 0, 0, 0, 0])]),
  (14, [false, false, false], [(5, .return_, 0, 0, 0, [])]),
  (15, [true, true, true], [zz (.aload_n 0), zz (.aload_n 0), (0, .getfield 7, 10, 0, 109, []), zz (.sipush 1400), zz (.iload_n 1), zz (.iadd), (8, .iaload, 6, 0, 0, [])]),
  (26, [true, true, true], [zz (.iload_n 2), zz (.iconst 1), zz (.isub), (6, .invokevirtual 204, 249, 7, 428, [3, 0, 0, 11, 0, 0, 0, 0, 0])]),
  (32, [true, true, true], [zz (.aload_n 0), zz (.aload_n 0), (0, .getfield 7, 10, 0, 109, []), zz (.sipush 1600), zz (.iload_n 1), zz (.iadd), (8, .iaload, 8, 0, 0, [])]),
  (43, [false, false, true], [zz (.iload_n 2), zz (.iconst 1), zz (.isub), (6, .invokevirtual 204, 249, 9, 428, [3, 0, 0, 11, 0, 0, 0, 0, 0])]),
  (49, [false, false, false], [(5, .return_, 0, 0, 0, [])])])
noncomputable def pm_250 : mMt := ((yX10_open, cX10_open, 3, some .int, 0, 2, []), [(0, [true, true, false], [zz (.aload_n 0), zz (.iconst 0), (0, .putfield 38, 10, 3, 191, [0]), zz (.iload_n 1), zz (.iconst 0), zz (.iconst 2), (6, .invokestatic 41, 51, 1, 190, [3, 0, 0, 0, 0, 0, 0, 0, 0])]),
  (11, [true, true, false], [(3, .ifCond .ne 9, 4, 2, 0, [])]),
  (14, [true, false, false], [zz (.aload_n 0), zz (.iconst 1), (6, .invokevirtual 106, 53, 3, 205, [2, 0, 0, 11, 0, 0, 0, 0, 0])]),
  (19, [false, false, false], [(5, .ireturn, 1, 0, 0, [])]),
  (20, [true, true, false], [zz (.aload_n 0), zz (.iconst 0), (0, .putfield 192, 10, 10, 424, [0]), zz (.aload_n 0), zz (.iconst 0), (0, .putfield 208, 10, 11, 429, [0]), zz (.aload_n 0), zz (.iconst 1), (0, .putfield 93, 10, 8, 201, [1]), zz (.iload_n 1), (3, .ifCond .ne 18, 8, 5, 0, [])]),
  (39, [true, true, false], [zz (.aload_n 0), zz (.aload_n 0), (0, .getfield 7, 10, 0, 109, []), zz (.sipush 2000), (8, .iaload, 6, 0, 0, [])]),
  (48, [true, true, false], [(6, .invokevirtual 198, 247, 7, 426, [2, 0, 0, 11, 0, 0, 0, 0, 0])]),
  (51, [true, true, false], [(2, .goto 20, 11, 0, 0, [])]),
  (54, [true, true, false], [zz (.iload_n 1), zz (.iconst 1), (3, .if_icmp .ne 15, 11, 9, 0, [])]),
  (59, [true, true, false], [zz (.aload_n 0), zz (.aload_n 0), (0, .getfield 7, 10, 0, 109, []), zz (.sipush 2000), (8, .iaload, 10, 0, 0, [])]),
  (68, [true, true, false], [(6, .invokevirtual 201, 248, 11, 427, [2, 0, 0, 11, 0, 0, 0, 0, 0])]),
  (71, [true, true, false], [zz (.iconst 0), zz (.istore_n 2), (1, .return_, 12, 0, 0, [])]),
  (73, [true, true, true], [zz (.iload_n 1), zz (.iconst 2), (3, .if_icmp .ne 38, 19, 13, 0, [])]),
  (78, [true, true, true], [zz (.iload_n 2), zz (.aload_n 0), zz (.aload_n 0), (0, .getfield 7, 10, 0, 109, []), zz (.sipush 2000), (8, .iaload, 14, 0, 0, [])]),
  (88, [true, true, true], [(6, .invokevirtual 62, 118, 15, 266, [2, 0, 0, 11, 0, 0, 0, 0, 0])]),
  (91, [true, true, true], [(3, .if_icmp .ge 22, 19, 16, 0, [])]),
  (94, [true, true, true], [zz (.aload_n 0), zz (.aload_n 0), (0, .getfield 7, 10, 0, 109, []), zz (.sipush 2000), (8, .iaload, 17, 0, 0, [])]),
  (103, [true, true, true], [zz (.iload_n 2), (6, .invokevirtual 204, 249, 18, 428, [3, 0, 0, 11, 0, 0, 0, 0, 0])]),
  (107, [true, true, true], [zz (.iinc 2 1), (2, .goto (-37), 12, 0, 0, [])]),
  (113, [true, false, false], [zz (.aload_n 0), (0, .getfield 192, 10, 10, 424, []), (5, .ireturn, 1, 0, 0, [])])])
noncomputable def pm_251 : mMt := ((yX9_requireCursor, cX9_requireCursor, 1, none, 1, 1, []), [(0, [true], [zz (.aload_n 0), (0, .getfield 37, 9, 3, 103, []), (0, .getfield 414, 0, 4, 430, []), (3, .ifCond .ne 14, 2, 1, 0, [])]),
  (10, [false], [(7, .new 77, 1, 0, 185, [1, 431])]),
  (21, [false], [(5, .return_, 0, 0, 0, [])])])
noncomputable def pm_252 : mMt := ((yX0_hasMore, cX0_hasMore, 1, some .boolean, 0, 1, []), [(0, [true], [zz (.aload_n 0), (0, .getfield 21, 0, 3, 81, []), zz (.aload_n 0), (0, .getfield 12, 0, 1, 79, []), (0, .getfield 33, 1, 1, 409, []), (3, .if_icmp .ge 7, 2, 1, 0, [])]),
  (14, [false], [zz (.iconst 1), (2, .goto 4, 3, 0, 0, [])]),
  (18, [false], [zz (.iconst 0), (1, .return_, 3, 0, 0, [])]),
  (19, [false], [(5, .ireturn, 2, 0, 0, [])])])
noncomputable def pm_253 : mMt := ((yX9_hasNext, cX9_hasNext, 1, some .boolean, 1, 1, []), [(0, [true], [zz (.aload_n 0), (6, .invokevirtual 350, 251, 1, 432, [1, 1, 1, 10, 0, 0, 0, 0, 0])]),
  (4, [true], [zz (.aload_n 0), (0, .getfield 37, 9, 3, 103, []), (6, .invokevirtual 353, 252, 2, 433, [1, 0, 1, 1, 0, 0, 0, 0, 0])]),
  (11, [false], [(5, .ireturn, 2, 0, 0, [])])])
noncomputable def pm_254 : mMt := ((yL_hasNext, cL_hasNext, 3, some .int, 1, 2, [(0, 15, 18, 15)]), [(0, [true, true, false], [zz (.aload_n 1), zz (.iconst 0), zz (.aload_n 0), (6, .invokevirtual 115, 253, 1, 434, [1, 1, 1, 10, 1, 8, 1, 1, 1])]),
  (6, [false, false, false], [(3, .ifCond .eq 7, 3, 2, 0, [])]),
  (9, [false, false, false], [zz (.lconst 1), (2, .goto 4, 4, 0, 0, [])]),
  (13, [false, false, false], [zz (.lconst 0), (1, .return_, 4, 0, 0, [])]),
  (14, [false, false, false], [(9, .lastore, 5, 0, 0, [])]),
  (15, [false, false, false], [(2, .goto 6, 7, 0, 0, [])]),
  (18, [false, false, false], [zz (.astore_n 2), zz (.iconst 1), (5, .ireturn, 1, 0, 0, [])]),
  (21, [false, false, false], [zz (.iconst 0), (5, .ireturn, 1, 0, 0, [])])])
noncomputable def pm_255 : mMt := ((yX10_hasNext, cX10_hasNext, 1, some .boolean, 0, 1, []), [(0, [true], [zz (.aload_n 0), zz (.aload_n 0), (0, .getfield 93, 10, 8, 201, []), (3, .ifCond .eq 7, 2, 1, 0, [])]),
  (8, [true], [zz (.iconst 0), (2, .goto 4, 3, 0, 0, [])]),
  (12, [true], [zz (.iconst 1), (1, .return_, 3, 0, 0, [])]),
  (13, [true], [(0, .putfield 38, 10, 3, 191, [0]), zz (.aload_n 0), (0, .getfield 93, 10, 8, 201, []), (3, .ifCond .eq 18, 6, 4, 0, [])]),
  (23, [true], [zz (.aload_n 0), (0, .getfield 208, 10, 11, 429, []), zz (.aload_n 0), (0, .getfield 192, 10, 10, 424, []), (3, .if_icmp .ge 7, 6, 5, 0, [])]),
  (34, [false], [zz (.iconst 1), (2, .goto 4, 7, 0, 0, [])]),
  (38, [false], [zz (.iconst 0), (1, .return_, 7, 0, 0, [])]),
  (39, [false], [(5, .ireturn, 2, 0, 0, [])])])
noncomputable def pm_256 : mMt := ((yX0_advance, cX0_advance, 2, some .int, 0, 1, []), [(0, [true, false], [zz (.aload_n 0), (0, .getfield 12, 0, 1, 79, []), zz (.aload_n 0), (0, .getfield 21, 0, 3, 81, []), (6, .invokevirtual 36, 30, 1, 410, [2, 0, 0, 2, 0, 0, 0, 0, 0])]),
  (11, [true, false], [zz (.istore_n 1), zz (.aload_n 0), zz (.dup), (0, .getfield 21, 0, 3, 81, []), zz (.iconst 1), zz (.iadd), (0, .putfield 21, 0, 3, 81, [0]), zz (.iload_n 1), (5, .ireturn, 1, 0, 0, [])])])
noncomputable def pm_257 : mMt := ((yX9_next, cX9_next, 1, some .int, 2, 1, []), [(0, [true], [zz (.aload_n 0), (6, .invokevirtual 350, 251, 1, 432, [1, 1, 2, 10, 0, 0, 0, 0, 0])]),
  (4, [true], [zz (.aload_n 0), (0, .getfield 37, 9, 3, 103, []), (6, .invokevirtual 353, 252, 2, 433, [1, 0, 2, 1, 0, 0, 0, 0, 0])]),
  (11, [true], [(3, .ifCond .ne 14, 4, 3, 0, [])]),
  (14, [false], [(7, .new 92, 2, 0, 214, [2, 435])]),
  (25, [true], [zz (.aload_n 0), (0, .getfield 37, 9, 3, 103, []), (6, .invokevirtual 359, 256, 5, 436, [1, 0, 2, 1, 0, 0, 0, 0, 0])]),
  (32, [false], [(5, .ireturn, 1, 0, 0, [])])])
noncomputable def pm_258 : mMt := ((yL_next, cL_next, 3, some .int, 2, 2, [(0, 8, 11, 15), (0, 8, 14, 21)]), [(0, [true, true, false], [zz (.aload_n 1), zz (.iconst 0), zz (.aload_n 0), (6, .invokevirtual 119, 257, 1, 437, [1, 2, 2, 10, 1, 5, 6, 1, 1])]),
  (6, [false, false, false], [zz (.i2l), (9, .lastore, 2, 0, 0, [])]),
  (8, [false, false, false], [(2, .goto 9, 5, 0, 0, [])]),
  (11, [false, false, false], [zz (.astore_n 2), zz (.iconst 1), (5, .ireturn, 1, 0, 0, [])]),
  (14, [false, false, false], [zz (.astore_n 2), zz (.iconst 2), (5, .ireturn, 1, 0, 0, [])]),
  (17, [false, false, false], [zz (.iconst 0), (5, .ireturn, 1, 0, 0, [])])])
noncomputable def pm_259 : mMt := ((yX10_next_, cX10_next_, 1, some .int, 0, 1, []), [(0, [true], [zz (.aload_n 0), zz (.iconst 0), (0, .putfield 38, 10, 3, 191, [0]), zz (.aload_n 0), (0, .getfield 93, 10, 8, 201, []), (3, .ifCond .ne 9, 3, 1, 0, [])]),
  (12, [true], [zz (.aload_n 0), zz (.iconst 1), (6, .invokevirtual 106, 53, 2, 205, [2, 0, 0, 11, 0, 0, 0, 0, 0])]),
  (17, [false], [(5, .ireturn, 1, 0, 0, [])]),
  (18, [true], [zz (.aload_n 0), (0, .getfield 208, 10, 11, 429, []), zz (.aload_n 0), (0, .getfield 192, 10, 10, 424, []), (3, .if_icmp .ne 9, 6, 4, 0, [])]),
  (29, [true], [zz (.aload_n 0), zz (.iconst 2), (6, .invokevirtual 106, 53, 5, 205, [2, 0, 0, 11, 0, 0, 0, 0, 0])]),
  (34, [false], [(5, .ireturn, 1, 0, 0, [])]),
  (35, [true], [zz (.aload_n 0), zz (.dup), (0, .getfield 208, 10, 11, 429, []), zz (.iconst 1), zz (.iadd), (0, .putfield 208, 10, 11, 429, [0]), zz (.aload_n 0), (0, .getfield 25, 10, 9, 114, []), zz (.aload_n 0), (0, .getfield 208, 10, 11, 429, []), zz (.iconst 1), zz (.isub), (8, .iaload, 7, 0, 0, [])]),
  (56, [false], [(5, .ireturn, 1, 0, 0, [])])])
noncomputable def pm_260 : mMt := ((yX7_addSign, cX7_addSign, 2, none, 0, 2, []), [(0, [true, true], [zz (.aload_n 0), (0, .getfield 19, 7, 2, 87, []), (3, .ifCond .lt 35, 5, 1, 0, [])]),
  (7, [true, true], [zz (.aload_n 0), (0, .getfield 19, 7, 2, 87, []), zz (.aload_n 0), (0, .getfield 9, 7, 0, 85, []), (8, .arraylength, 2, 0, 0, [])]),
  (16, [true, true], [(3, .if_icmp .ge 23, 5, 3, 0, [])]),
  (19, [true, true], [zz (.aload_n 0), (0, .getfield 9, 7, 0, 85, []), zz (.aload_n 0), (0, .getfield 19, 7, 2, 87, []), zz (.iload_n 1), (9, .castore, 4, 0, 0, [])]),
  (29, [true, false], [zz (.aload_n 0), zz (.dup), (0, .getfield 19, 7, 2, 87, []), zz (.iconst 1), zz (.iadd), (0, .putfield 19, 7, 2, 87, [0]), (1, .return_, 5, 0, 0, [])]),
  (39, [false, false], [(5, .return_, 0, 0, 0, [])])])
noncomputable def pm_261 : mMt := ((yX9_append, cX9_append, 2, none, 1, 2, []), [(0, [true, true], [zz (.aload_n 0), (0, .getfield 44, 9, 4, 106, []), (0, .getfield 362, 7, 2, 438, []), zz (.bipush 90), (3, .if_icmp .lt 14, 2, 1, 0, [])]),
  (12, [false, false], [(7, .new 77, 1, 0, 185, [1, 439])]),
  (23, [true, true], [zz (.aload_n 0), (0, .getfield 44, 9, 4, 106, []), zz (.iload_n 1), (6, .invokevirtual 367, 260, 3, 440, [2, 0, 1, 8, 0, 0, 0, 0, 0])]),
  (31, [false, false], [(5, .return_, 0, 0, 0, [])])])
noncomputable def pm_262 : mMt := ((yL_append, cL_append, 3, some .int, 1, 2, [(0, 5, 8, 15)]), [(0, [true, true, false], [zz (.aload_n 0), zz (.iload_n 1), (6, .invokevirtual 122, 261, 1, 441, [2, 1, 1, 10, 1, 4, 1, 1, 1])]),
  (5, [false, false, false], [(2, .goto 6, 3, 0, 0, [])]),
  (8, [false, false, false], [zz (.astore_n 2), zz (.iconst 1), (5, .ireturn, 1, 0, 0, [])]),
  (11, [false, false, false], [zz (.iconst 0), (5, .ireturn, 1, 0, 0, [])])])
noncomputable def pm_263 : mMt := ((yX10_append, cX10_append, 2, none, 0, 2, []), [(0, [true, true], [zz (.aload_n 0), zz (.iconst 0), (0, .putfield 38, 10, 3, 191, [0]), zz (.aload_n 0), (0, .getfield 211, 10, 13, 442, []), zz (.bipush 90), (3, .if_icmp .ne 9, 2, 1, 0, [])]),
  (14, [true, false], [zz (.aload_n 0), zz (.iconst 1), (0, .putfield 38, 10, 3, 191, [0]), (5, .return_, 0, 0, 0, [])]),
  (20, [true, true], [zz (.aload_n 0), (0, .getfield 28, 10, 12, 115, []), zz (.aload_n 0), (0, .getfield 211, 10, 13, 442, []), zz (.iload_n 1), (9, .iastore, 3, 0, 0, [])]),
  (30, [true, false], [zz (.aload_n 0), zz (.dup), (0, .getfield 211, 10, 13, 442, []), zz (.iconst 1), zz (.iadd), (0, .putfield 211, 10, 13, 442, [0]), (5, .return_, 0, 0, 0, [])])])
noncomputable def pm_264 : mMt := ((yX7_hasSign, cX7_hasSign, 1, some .boolean, 0, 1, []), [(0, [true], [zz (.aload_n 0), (0, .getfield 23, 7, 3, 88, []), (3, .ifCond .lt 30, 5, 1, 0, [])]),
  (7, [true], [zz (.aload_n 0), (0, .getfield 23, 7, 3, 88, []), zz (.aload_n 0), (0, .getfield 19, 7, 2, 87, []), (3, .if_icmp .ge 19, 5, 2, 0, [])]),
  (18, [true], [zz (.aload_n 0), (0, .getfield 23, 7, 3, 88, []), zz (.aload_n 0), (0, .getfield 9, 7, 0, 85, []), (8, .arraylength, 3, 0, 0, [])]),
  (27, [false], [(3, .if_icmp .ge 7, 5, 4, 0, [])]),
  (30, [false], [zz (.iconst 1), (2, .goto 4, 6, 0, 0, [])]),
  (34, [false], [zz (.iconst 0), (1, .return_, 6, 0, 0, [])]),
  (35, [false], [(5, .ireturn, 2, 0, 0, [])])])
noncomputable def pm_265 : mMt := ((yX7_accepts, cX7_accepts, 2, some .boolean, 0, 2, []), [(0, [true, true], [zz (.aload_n 0), (0, .getfield 29, 7, 5, 90, []), zz (.iconst (-1)), (3, .if_icmp .ne 23, 5, 1, 0, [])]),
  (8, [true, true], [zz (.aload_n 0), (6, .invokevirtual 67, 264, 2, 443, [1, 0, 0, 8, 0, 0, 0, 0, 0])]),
  (12, [true, true], [(3, .ifCond .eq 16, 5, 3, 0, [])]),
  (15, [true, true], [zz (.aload_n 0), (0, .getfield 9, 7, 0, 85, []), zz (.aload_n 0), (0, .getfield 23, 7, 3, 88, []), (8, .caload, 4, 0, 0, [])]),
  (24, [true, true], [zz (.iload_n 1), (3, .if_icmp .eq 5, 6, 5, 0, [])]),
  (28, [false, false], [zz (.iconst 0), (5, .ireturn, 2, 0, 0, [])]),
  (30, [true, false], [zz (.aload_n 0), zz (.dup), (0, .getfield 23, 7, 3, 88, []), zz (.iconst 1), zz (.iadd), (0, .putfield 23, 7, 3, 88, [0]), zz (.iconst 1), (5, .ireturn, 2, 0, 0, [])])])
noncomputable def pm_266 : mMt := ((yX7_markFault, cX7_markFault, 1, none, 0, 1, []), [(0, [true], [zz (.aload_n 0), (0, .getfield 29, 7, 5, 90, []), zz (.iconst (-1)), (3, .if_icmp .ne 11, 2, 1, 0, [])]),
  (8, [true], [zz (.aload_n 0), zz (.aload_n 0), (0, .getfield 23, 7, 3, 88, []), (0, .putfield 29, 7, 5, 90, [0]), (1, .return_, 2, 0, 0, [])]),
  (16, [false], [(5, .return_, 0, 0, 0, [])])])
noncomputable def pm_267 : mMt := ((yX7_demand, cX7_demand, 2, none, 0, 2, []), [(0, [true, true], [zz (.aload_n 0), zz (.iload_n 1), (6, .invokevirtual 51, 265, 1, 444, [2, 0, 0, 8, 0, 0, 0, 0, 0])]),
  (5, [true, false], [(3, .ifCond .ne 7, 3, 2, 0, [])]),
  (8, [true, false], [zz (.aload_n 0), (6, .invokevirtual 71, 266, 3, 445, [1, 0, 0, 8, 0, 0, 0, 0, 0])]),
  (12, [false, false], [(5, .return_, 0, 0, 0, [])])])
noncomputable def pm_268 : mMt := ((yX7_hasDigit, cX7_hasDigit, 1, some .boolean, 0, 1, []), [(0, [true], [zz (.aload_n 0), (0, .getfield 29, 7, 5, 90, []), zz (.iconst (-1)), (3, .if_icmp .ne 42, 8, 1, 0, [])]),
  (8, [true], [zz (.aload_n 0), (6, .invokevirtual 67, 264, 2, 443, [1, 0, 0, 8, 0, 0, 0, 0, 0])]),
  (12, [true], [(3, .ifCond .eq 35, 8, 3, 0, [])]),
  (15, [true], [zz (.aload_n 0), (0, .getfield 9, 7, 0, 85, []), zz (.aload_n 0), (0, .getfield 23, 7, 3, 88, []), (8, .caload, 4, 0, 0, [])]),
  (24, [true], [zz (.bipush 48), (3, .if_icmp .lt 21, 8, 5, 0, [])]),
  (29, [true], [zz (.aload_n 0), (0, .getfield 9, 7, 0, 85, []), zz (.aload_n 0), (0, .getfield 23, 7, 3, 88, []), (8, .caload, 6, 0, 0, [])]),
  (38, [false], [zz (.bipush 57), (3, .if_icmp .gt 7, 8, 7, 0, [])]),
  (43, [false], [zz (.iconst 1), (2, .goto 4, 9, 0, 0, [])]),
  (47, [false], [zz (.iconst 0), (1, .return_, 9, 0, 0, [])]),
  (48, [false], [(5, .ireturn, 2, 0, 0, [])])])
noncomputable def pm_269 : mMt := ((yX7_parseNumber, cX7_parseNumber, 4, some .int, 0, 2, []), [(0, [true, true, false, false], [zz (.iconst 0), zz (.istore_n 2), zz (.iconst 0), zz (.istore_n 3), (1, .return_, 1, 0, 0, [])]),
  (4, [true, true, true, true], [zz (.iload_n 3), zz (.iload_n 1), (3, .if_icmp .ge 52, 8, 2, 0, [])]),
  (9, [true, true, true, true], [zz (.aload_n 0), (6, .invokevirtual 74, 268, 3, 446, [1, 0, 0, 8, 0, 0, 0, 0, 0])]),
  (13, [true, true, true, true], [(3, .ifCond .eq 45, 8, 4, 0, [])]),
  (16, [true, true, true, true], [zz (.iload_n 3), (3, .ifCond .eq 7, 6, 5, 0, [])]),
  (20, [true, true, true, true], [zz (.iload_n 2), (3, .ifCond .eq 37, 8, 6, 0, [])]),
  (24, [true, true, true, true], [zz (.bipush 10), zz (.iload_n 2), zz (.imul), zz (.aload_n 0), (0, .getfield 9, 7, 0, 85, []), zz (.aload_n 0), (0, .getfield 23, 7, 3, 88, []), (8, .caload, 7, 0, 0, [])]),
  (37, [true, true, false, true], [zz (.bipush 48), zz (.isub), zz (.iadd), zz (.istore_n 2), zz (.aload_n 0), zz (.dup), (0, .getfield 23, 7, 3, 88, []), zz (.iconst 1), zz (.iadd), (0, .putfield 23, 7, 3, 88, [0]), zz (.iinc 3 1), (2, .goto (-51), 1, 0, 0, [])]),
  (58, [true, false, true, true], [zz (.iload_n 3), (3, .ifCond .ne 7, 10, 9, 0, [])]),
  (62, [true, false, true, false], [zz (.aload_n 0), (6, .invokevirtual 71, 266, 10, 445, [1, 0, 0, 8, 0, 0, 0, 0, 0])]),
  (66, [false, false, true, false], [zz (.iload_n 2), (5, .ireturn, 1, 0, 0, [])])])
noncomputable def pm_270 : mMt := ((yX7_putPart, cX7_putPart, 3, none, 0, 3, []), [(0, [true, true, true], [zz (.aload_n 0), (0, .getfield 15, 7, 1, 86, []), zz (.iconst 5), zz (.aload_n 0), (0, .getfield 26, 7, 4, 89, []), zz (.imul), zz (.iload_n 1), zz (.iadd), zz (.iload_n 2), (6, .invokestatic 63, 17, 1, 447, [3, 0, 0, 0, 0, 0, 0, 0, 0])]),
  (16, [false, false, false], [(5, .return_, 0, 0, 0, [])])])
noncomputable def pm_271 : mMt := ((yX7_parseCoordinate, cX7_parseCoordinate, 4, none, 0, 2, []), [(0, [true, true, false, false], [zz (.aload_n 0), zz (.bipush 45), (6, .invokevirtual 51, 265, 1, 444, [2, 0, 0, 8, 0, 0, 0, 0, 0])]),
  (6, [true, true, false, false], [zz (.istore_n 2), zz (.aload_n 0), zz (.iconst 3), (6, .invokevirtual 55, 269, 2, 448, [2, 0, 0, 8, 0, 0, 0, 0, 0])]),
  (12, [true, true, true, false], [zz (.istore_n 3), zz (.iload_n 3), zz (.bipush 100), (3, .if_icmp .le 8, 4, 3, 0, [])]),
  (19, [true, true, true, true], [zz (.aload_n 0), zz (.iconst 1), (0, .putfield 32, 7, 6, 91, [1]), (1, .return_, 4, 0, 0, [])]),
  (24, [true, true, true, true], [zz (.aload_n 0), zz (.iload_n 1), zz (.iload_n 2), (3, .ifCond .eq 8, 6, 5, 0, [])]),
  (30, [false, false, false, true], [zz (.iload_n 3), zz (.ineg), (2, .goto 4, 7, 0, 0, [])]),
  (35, [false, false, false, true], [zz (.iload_n 3), (1, .return_, 7, 0, 0, [])]),
  (36, [false, false, false, false], [(6, .invokevirtual 59, 270, 8, 449, [3, 0, 0, 8, 0, 0, 0, 0, 0])]),
  (39, [false, false, false, false], [(5, .return_, 0, 0, 0, [])])])
noncomputable def pm_272 : mMt := ((yX7_parseDescription, cX7_parseDescription, 2, none, 0, 1, []), [(0, [true, false], [zz (.iconst 0), zz (.istore_n 1), (1, .return_, 1, 0, 0, [])]),
  (2, [true, true], [zz (.iload_n 1), zz (.iconst 3), (3, .if_icmp .ge 32, 7, 2, 0, [])]),
  (7, [true, true], [zz (.aload_n 0), (0, .getfield 29, 7, 5, 90, []), zz (.iconst (-1)), (3, .if_icmp .ne 24, 7, 3, 0, [])]),
  (15, [true, true], [zz (.iload_n 1), (3, .ifCond .le 9, 5, 4, 0, [])]),
  (19, [true, true], [zz (.aload_n 0), zz (.bipush 44), (6, .invokevirtual 43, 267, 5, 450, [2, 0, 0, 8, 0, 0, 0, 0, 0])]),
  (25, [true, true], [zz (.aload_n 0), zz (.iload_n 1), (6, .invokevirtual 47, 271, 6, 451, [2, 0, 0, 8, 0, 0, 0, 0, 0])]),
  (30, [true, true], [zz (.iinc 1 1), (2, .goto (-31), 1, 0, 0, [])]),
  (36, [true, false], [zz (.aload_n 0), zz (.iconst 3), zz (.aload_n 0), zz (.bipush 58), (6, .invokevirtual 51, 265, 8, 444, [2, 0, 0, 8, 0, 0, 0, 0, 0])]),
  (44, [true, false], [(3, .ifCond .eq 11, 11, 9, 0, [])]),
  (47, [true, false], [zz (.aload_n 0), zz (.iconst 2), (6, .invokevirtual 55, 269, 10, 448, [2, 0, 0, 8, 0, 0, 0, 0, 0])]),
  (52, [true, false], [(2, .goto 4, 12, 0, 0, [])]),
  (55, [true, false], [zz (.iconst 1), (1, .return_, 12, 0, 0, [])]),
  (56, [true, false], [(6, .invokevirtual 59, 270, 13, 449, [3, 0, 0, 8, 0, 0, 0, 0, 0])]),
  (59, [true, false], [zz (.aload_n 0), zz (.iconst 4), zz (.aload_n 0), zz (.bipush 35), (6, .invokevirtual 51, 265, 14, 444, [2, 0, 0, 8, 0, 0, 0, 0, 0])]),
  (67, [true, false], [(3, .ifCond .eq 11, 17, 15, 0, [])]),
  (70, [true, false], [zz (.aload_n 0), zz (.iconst 1), (6, .invokevirtual 55, 269, 16, 448, [2, 0, 0, 8, 0, 0, 0, 0, 0])]),
  (75, [true, false], [(2, .goto 4, 18, 0, 0, [])]),
  (78, [true, false], [zz (.iconst 0), (1, .return_, 18, 0, 0, [])]),
  (79, [true, false], [(6, .invokevirtual 59, 270, 19, 449, [3, 0, 0, 8, 0, 0, 0, 0, 0])]),
  (82, [true, false], [zz (.aload_n 0), zz (.dup), (0, .getfield 26, 7, 4, 89, []), zz (.iconst 1), zz (.iadd), (0, .putfield 26, 7, 4, 89, [0]), (5, .return_, 0, 0, 0, [])])])
noncomputable def pm_273 : mMt := ((yX7_parse, cX7_parse, 3, none, 0, 1, []), [(0, [true, false, false], [zz (.aload_n 0), zz (.iconst 0), (0, .putfield 23, 7, 3, 88, [0]), zz (.aload_n 0), zz (.iconst 0), (0, .putfield 26, 7, 4, 89, [0]), zz (.aload_n 0), zz (.iconst (-1)), (0, .putfield 29, 7, 5, 90, [0]), zz (.aload_n 0), zz (.iconst 0), (0, .putfield 32, 7, 6, 91, [1]), zz (.iconst 1), zz (.istore_n 1), zz (.iconst 0), zz (.istore_n 2), (1, .return_, 1, 0, 0, [])]),
  (24, [true, true, true], [zz (.iload_n 2), zz (.bipush 16), (3, .if_icmp .ge 66, 15, 2, 0, [])]),
  (30, [true, true, true], [zz (.iload_n 1), (3, .ifCond .eq 62, 15, 3, 0, [])]),
  (34, [true, false, true], [zz (.aload_n 0), (6, .invokevirtual 40, 272, 4, 452, [1, 0, 0, 8, 0, 0, 0, 0, 0])]),
  (38, [true, false, true], [zz (.aload_n 0), (0, .getfield 29, 7, 5, 90, []), zz (.iconst (-1)), (3, .if_icmp .ne 18, 7, 5, 0, [])]),
  (46, [true, false, true], [zz (.aload_n 0), (0, .getfield 23, 7, 3, 88, []), zz (.aload_n 0), (0, .getfield 19, 7, 2, 87, []), (3, .if_icmp .ge 7, 7, 6, 0, [])]),
  (57, [true, false, true], [zz (.iconst 1), (2, .goto 4, 8, 0, 0, [])]),
  (61, [true, false, true], [zz (.iconst 0), (1, .return_, 8, 0, 0, [])]),
  (62, [true, false, true], [zz (.istore_n 1), zz (.iload_n 1), (3, .ifCond .eq 23, 14, 9, 0, [])]),
  (67, [true, false, true], [zz (.aload_n 0), zz (.bipush 59), (6, .invokevirtual 43, 267, 10, 450, [2, 0, 0, 8, 0, 0, 0, 0, 0])]),
  (73, [true, false, true], [zz (.aload_n 0), (0, .getfield 29, 7, 5, 90, []), zz (.iconst (-1)), (3, .if_icmp .ne 7, 12, 11, 0, [])]),
  (81, [true, false, true], [zz (.iconst 1), (2, .goto 4, 13, 0, 0, [])]),
  (85, [true, false, true], [zz (.iconst 0), (1, .return_, 13, 0, 0, [])]),
  (86, [true, false, true], [zz (.istore_n 1), (1, .return_, 14, 0, 0, [])]),
  (87, [true, true, true], [zz (.iinc 2 1), (2, .goto (-66), 1, 0, 0, [])]),
  (93, [true, false, false], [zz (.aload_n 0), zz (.iconst 0), (0, .putfield 19, 7, 2, 87, [0]), (5, .return_, 0, 0, 0, [])])])
noncomputable def pm_274 : mMt := ((yX7_partOf, cX7_partOf, 3, some .int, 0, 3, []), [(0, [true, true, true], [zz (.aload_n 0), (0, .getfield 15, 7, 1, 86, []), zz (.iconst 5), zz (.iload_n 1), zz (.imul), zz (.iload_n 2), zz (.iadd), (6, .invokestatic 36, 19, 1, 453, [2, 0, 0, 0, 0, 0, 0, 0, 0])]),
  (12, [false, false, false], [(5, .ireturn, 1, 0, 0, [])])])
noncomputable def pm_275 : mMt := ((yX9_read, cX9_read, 2, some .int, 1, 1, []), [(0, [true, false], [zz (.aload_n 0), (0, .getfield 44, 9, 4, 106, []), (6, .invokevirtual 371, 273, 1, 454, [1, 0, 1, 8, 0, 0, 0, 0, 0])]),
  (7, [true, false], [zz (.aload_n 0), (0, .getfield 44, 9, 4, 106, []), (0, .getfield 374, 7, 5, 455, []), zz (.iconst (-1)), (3, .if_icmp .ne 13, 3, 2, 0, [])]),
  (18, [true, false], [zz (.aload_n 0), (0, .getfield 44, 9, 4, 106, []), (0, .getfield 377, 7, 6, 456, []), (3, .ifCond .eq 14, 4, 3, 0, [])]),
  (28, [false, false], [(7, .new 60, 0, 0, 181, [1, 457])]),
  (39, [true, false], [zz (.aload_n 0), (0, .getfield 10, 9, 0, 95, []), (0, .getfield 67, 6, 0, 183, []), zz (.aload_n 0), (0, .getfield 44, 9, 4, 106, []), (0, .getfield 382, 7, 4, 458, []), (6, .invokevirtual 71, 15, 5, 184, [2, 0, 1, 3, 0, 0, 0, 0, 0])]),
  (56, [true, false], [(3, .ifCond .ne 14, 7, 6, 0, [])]),
  (59, [false, false], [(7, .new 77, 1, 0, 185, [1, 459])]),
  (70, [true, false], [zz (.aload_n 0), (0, .getfield 37, 9, 3, 103, []), (6, .invokevirtual 82, 16, 8, 187, [1, 0, 1, 1, 0, 0, 0, 0, 0])]),
  (77, [true, false], [zz (.iconst 0), zz (.istore_n 1), (1, .return_, 9, 0, 0, [])]),
  (79, [true, true], [zz (.iload_n 1), zz (.aload_n 0), (0, .getfield 44, 9, 4, 106, []), (0, .getfield 382, 7, 4, 458, []), (3, .if_icmp .ge 62, 17, 10, 0, [])]),
  (90, [true, true], [zz (.aload_n 0), (0, .getfield 10, 9, 0, 95, []), zz (.aload_n 0), (0, .getfield 44, 9, 4, 106, []), zz (.iload_n 1), zz (.iconst 0), (6, .invokevirtual 387, 274, 11, 460, [3, 0, 1, 8, 0, 0, 0, 0, 0])]),
  (103, [true, true], [zz (.aload_n 0), (0, .getfield 44, 9, 4, 106, []), zz (.iload_n 1), zz (.iconst 1), (6, .invokevirtual 387, 274, 12, 460, [3, 0, 1, 8, 0, 0, 0, 0, 0])]),
  (112, [true, true], [zz (.aload_n 0), (0, .getfield 44, 9, 4, 106, []), zz (.iload_n 1), zz (.iconst 2), (6, .invokevirtual 387, 274, 13, 460, [3, 0, 1, 8, 0, 0, 0, 0, 0])]),
  (121, [true, true], [zz (.aload_n 0), (0, .getfield 44, 9, 4, 106, []), zz (.iload_n 1), zz (.iconst 3), (6, .invokevirtual 387, 274, 14, 460, [3, 0, 1, 8, 0, 0, 0, 0, 0])]),
  (130, [true, true], [zz (.aload_n 0), (0, .getfield 44, 9, 4, 106, []), zz (.iload_n 1), zz (.iconst 4), (6, .invokevirtual 387, 274, 15, 460, [3, 0, 1, 8, 0, 0, 0, 0, 0])]),
  (139, [true, true], [(6, .invokevirtual 85, 48, 16, 188, [6, 0, 1, 7, 0, 0, 0, 0, 0])]),
  (142, [true, true], [zz (.pop), zz (.iinc 1 1), (2, .goto (-67), 9, 0, 0, [])]),
  (149, [true, false], [zz (.aload_n 0), (0, .getfield 44, 9, 4, 106, []), (0, .getfield 382, 7, 4, 458, []), (5, .ireturn, 1, 0, 0, [])])])
noncomputable def pm_276 : mMt := ((yL_read, cL_read, 3, some .int, 1, 2, [(0, 8, 11, 13), (0, 8, 14, 15)]), [(0, [true, true, false], [zz (.aload_n 1), zz (.iconst 0), zz (.aload_n 0), (6, .invokevirtual 126, 275, 1, 461, [1, 1, 1, 10, 5, 6, 1, 1, 1])]),
  (6, [false, false, false], [zz (.i2l), (9, .lastore, 2, 0, 0, [])]),
  (8, [false, false, false], [(2, .goto 9, 5, 0, 0, [])]),
  (11, [false, false, false], [zz (.astore_n 2), zz (.iconst 1), (5, .ireturn, 1, 0, 0, [])]),
  (14, [false, false, false], [zz (.astore_n 2), zz (.iconst 2), (5, .ireturn, 1, 0, 0, [])]),
  (17, [false, false, false], [zz (.iconst 0), (5, .ireturn, 1, 0, 0, [])])])
noncomputable def pm_277 : mMt := ((yX10_here, cX10_here, 1, some .int, 0, 1, []), [(0, [true], [zz (.aload_n 0), (0, .getfield 214, 10, 14, 462, []), zz (.aload_n 0), (0, .getfield 211, 10, 13, 442, []), (3, .if_icmp .ge 15, 3, 1, 0, [])]),
  (11, [true], [zz (.aload_n 0), (0, .getfield 28, 10, 12, 115, []), zz (.aload_n 0), (0, .getfield 214, 10, 14, 462, []), (8, .iaload, 2, 0, 0, [])]),
  (20, [false], [(2, .goto 4, 4, 0, 0, [])]),
  (23, [false], [zz (.iconst (-1)), (1, .return_, 4, 0, 0, [])]),
  (24, [false], [(5, .ireturn, 1, 0, 0, [])])])
noncomputable def pm_278 : mMt := ((yX10_skips, cX10_skips, 2, some .boolean, 0, 2, []), [(0, [true, true], [zz (.aload_n 0), (6, .invokevirtual 217, 277, 1, 463, [1, 0, 0, 11, 0, 0, 0, 0, 0])]),
  (4, [true, true], [zz (.iload_n 1), (3, .if_icmp .eq 5, 3, 2, 0, [])]),
  (8, [false, false], [zz (.iconst 0), (5, .ireturn, 2, 0, 0, [])]),
  (10, [true, false], [zz (.aload_n 0), zz (.dup), (0, .getfield 214, 10, 14, 462, []), zz (.iconst 1), zz (.iadd), (0, .putfield 214, 10, 14, 462, [0]), zz (.iconst 1), (5, .ireturn, 2, 0, 0, [])])])
noncomputable def pm_279 : mMt := ((yX10_isDigit, cX10_isDigit, 1, some .boolean, 0, 1, []), [(0, [true], [zz (.aload_n 0), (6, .invokevirtual 217, 277, 1, 463, [1, 0, 0, 11, 0, 0, 0, 0, 0])]),
  (4, [false], [zz (.bipush 48), zz (.bipush 57), (6, .invokestatic 41, 51, 2, 190, [3, 0, 0, 0, 0, 0, 0, 0, 0])]),
  (11, [false], [(5, .ireturn, 2, 0, 0, [])])])
noncomputable def pm_280 : mMt := ((yX10_digits, cX10_digits, 3, some .boolean, 0, 2, []), [(0, [true, true, false], [zz (.aload_n 0), zz (.iconst 0), (0, .putfield 220, 10, 15, 464, [0]), zz (.aload_n 0), (6, .invokevirtual 223, 279, 1, 465, [1, 0, 0, 11, 0, 0, 0, 0, 0])]),
  (9, [true, true, false], [(3, .ifCond .ne 5, 3, 2, 0, [])]),
  (12, [false, false, false], [zz (.iconst 0), (5, .ireturn, 2, 0, 0, [])]),
  (14, [true, true, false], [zz (.aload_n 0), zz (.bipush 48), (6, .invokevirtual 227, 278, 4, 466, [2, 0, 0, 11, 0, 0, 0, 0, 0])]),
  (20, [true, true, false], [(3, .ifCond .eq 5, 6, 5, 0, [])]),
  (23, [false, false, false], [zz (.iconst 1), (5, .ireturn, 2, 0, 0, [])]),
  (25, [true, true, false], [zz (.iconst 0), zz (.istore_n 2), (1, .return_, 7, 0, 0, [])]),
  (27, [true, true, true], [zz (.iload_n 2), zz (.iload_n 1), (3, .if_icmp .ge 45, 12, 8, 0, [])]),
  (32, [true, true, true], [zz (.aload_n 0), (6, .invokevirtual 223, 279, 9, 465, [1, 0, 0, 11, 0, 0, 0, 0, 0])]),
  (36, [true, true, true], [(3, .ifCond .eq 38, 12, 10, 0, [])]),
  (39, [true, true, true], [zz (.aload_n 0), zz (.bipush 10), zz (.aload_n 0), (0, .getfield 220, 10, 15, 464, []), zz (.imul), zz (.aload_n 0), (6, .invokevirtual 217, 277, 11, 463, [1, 0, 0, 11, 0, 0, 0, 0, 0])]),
  (51, [true, true, true], [zz (.iadd), zz (.bipush 48), zz (.isub), (0, .putfield 220, 10, 15, 464, [0]), zz (.aload_n 0), zz (.dup), (0, .getfield 214, 10, 14, 462, []), zz (.iconst 1), zz (.iadd), (0, .putfield 214, 10, 14, 462, [0]), zz (.iinc 2 1), (2, .goto (-44), 7, 0, 0, [])]),
  (74, [false, false, false], [zz (.iconst 1), (5, .ireturn, 2, 0, 0, [])])])
noncomputable def pm_281 : mMt := ((yX10_coordinates, cX10_coordinates, 3, some .boolean, 0, 1, []), [(0, [true, false, false], [zz (.iconst 0), zz (.istore_n 1), (1, .return_, 1, 0, 0, [])]),
  (2, [true, true, false], [zz (.iload_n 1), zz (.iconst 3), (3, .if_icmp .ge 70, 15, 2, 0, [])]),
  (7, [true, true, false], [zz (.iload_n 1), (3, .ifCond .le 14, 6, 3, 0, [])]),
  (11, [true, true, false], [zz (.aload_n 0), zz (.bipush 44), (6, .invokevirtual 227, 278, 4, 466, [2, 0, 0, 11, 0, 0, 0, 0, 0])]),
  (17, [true, true, false], [(3, .ifCond .ne 5, 6, 5, 0, [])]),
  (20, [false, false, false], [zz (.iconst 0), (5, .ireturn, 2, 0, 0, [])]),
  (22, [true, true, false], [zz (.aload_n 0), zz (.bipush 45), (6, .invokevirtual 227, 278, 7, 466, [2, 0, 0, 11, 0, 0, 0, 0, 0])]),
  (28, [true, true, false], [zz (.istore_n 2), zz (.aload_n 0), zz (.iconst 3), (6, .invokevirtual 230, 280, 8, 467, [2, 0, 0, 11, 0, 0, 0, 0, 0])]),
  (34, [true, true, true], [(3, .ifCond .ne 5, 10, 9, 0, [])]),
  (37, [false, false, false], [zz (.iconst 0), (5, .ireturn, 2, 0, 0, [])]),
  (39, [true, true, true], [zz (.aload_n 0), (0, .getfield 35, 10, 17, 117, []), zz (.iconst 5), zz (.aload_n 0), (0, .getfield 233, 10, 18, 468, []), zz (.imul), zz (.iload_n 1), zz (.iadd), zz (.iload_n 2), (3, .ifCond .eq 11, 12, 11, 0, [])]),
  (55, [true, true, false], [zz (.aload_n 0), (0, .getfield 220, 10, 15, 464, []), zz (.ineg), (2, .goto 7, 13, 0, 0, [])]),
  (63, [true, true, false], [zz (.aload_n 0), (0, .getfield 220, 10, 15, 464, []), (1, .return_, 13, 0, 0, [])]),
  (67, [true, true, false], [(9, .iastore, 14, 0, 0, [])]),
  (68, [true, true, false], [zz (.iinc 1 1), (2, .goto (-69), 1, 0, 0, [])]),
  (74, [false, false, false], [zz (.iconst 1), (5, .ireturn, 2, 0, 0, [])])])
noncomputable def pm_282 : mMt := ((yX10_describes, cX10_describes, 1, some .boolean, 0, 1, []), [(0, [true], [zz (.aload_n 0), (6, .invokevirtual 236, 281, 1, 469, [1, 0, 0, 11, 0, 0, 0, 0, 0])]),
  (4, [true], [(3, .ifCond .ne 5, 3, 2, 0, [])]),
  (7, [false], [zz (.iconst 0), (5, .ireturn, 2, 0, 0, [])]),
  (9, [true], [zz (.aload_n 0), (0, .getfield 35, 10, 17, 117, []), zz (.iconst 5), zz (.aload_n 0), (0, .getfield 233, 10, 18, 468, []), zz (.imul), zz (.iconst 3), zz (.iadd), zz (.iconst 1), (9, .iastore, 4, 0, 0, [])]),
  (23, [true], [zz (.aload_n 0), (0, .getfield 35, 10, 17, 117, []), zz (.iconst 5), zz (.aload_n 0), (0, .getfield 233, 10, 18, 468, []), zz (.imul), zz (.iconst 4), zz (.iadd), zz (.iconst 0), (9, .iastore, 5, 0, 0, [])]),
  (37, [true], [zz (.aload_n 0), zz (.bipush 58), (6, .invokevirtual 227, 278, 6, 466, [2, 0, 0, 11, 0, 0, 0, 0, 0])]),
  (43, [true], [(3, .ifCond .eq 30, 11, 7, 0, [])]),
  (46, [true], [zz (.aload_n 0), zz (.iconst 2), (6, .invokevirtual 230, 280, 8, 467, [2, 0, 0, 11, 0, 0, 0, 0, 0])]),
  (51, [true], [(3, .ifCond .ne 5, 10, 9, 0, [])]),
  (54, [false], [zz (.iconst 0), (5, .ireturn, 2, 0, 0, [])]),
  (56, [true], [zz (.aload_n 0), (0, .getfield 35, 10, 17, 117, []), zz (.iconst 5), zz (.aload_n 0), (0, .getfield 233, 10, 18, 468, []), zz (.imul), zz (.iconst 3), zz (.iadd), zz (.aload_n 0), (0, .getfield 220, 10, 15, 464, []), (9, .iastore, 11, 0, 0, [])]),
  (73, [true], [zz (.aload_n 0), zz (.bipush 35), (6, .invokevirtual 227, 278, 12, 466, [2, 0, 0, 11, 0, 0, 0, 0, 0])]),
  (79, [true], [(3, .ifCond .eq 42, 19, 13, 0, [])]),
  (82, [true], [zz (.aload_n 0), (6, .invokevirtual 223, 279, 14, 465, [1, 0, 0, 11, 0, 0, 0, 0, 0])]),
  (86, [true], [(3, .ifCond .ne 5, 16, 15, 0, [])]),
  (89, [false], [zz (.iconst 0), (5, .ireturn, 2, 0, 0, [])]),
  (91, [true], [zz (.aload_n 0), (0, .getfield 35, 10, 17, 117, []), zz (.iconst 5), zz (.aload_n 0), (0, .getfield 233, 10, 18, 468, []), zz (.imul), zz (.iconst 4), zz (.iadd), zz (.aload_n 0), (6, .invokevirtual 217, 277, 17, 463, [1, 0, 0, 11, 0, 0, 0, 0, 0])]),
  (107, [true], [zz (.bipush 48), zz (.isub), (9, .iastore, 18, 0, 0, [])]),
  (111, [true], [zz (.aload_n 0), zz (.dup), (0, .getfield 214, 10, 14, 462, []), zz (.iconst 1), zz (.iadd), (0, .putfield 214, 10, 14, 462, [0]), (1, .return_, 19, 0, 0, [])]),
  (121, [true], [zz (.aload_n 0), zz (.dup), (0, .getfield 233, 10, 18, 468, []), zz (.iconst 1), zz (.iadd), (0, .putfield 233, 10, 18, 468, [0]), zz (.iconst 1), (5, .ireturn, 2, 0, 0, [])])])
noncomputable def pm_283 : mMt := ((yX10_faultOf, cX10_faultOf, 1, some .int, 0, 1, []), [(0, [true], [zz (.aload_n 0), zz (.iconst 0), (0, .putfield 214, 10, 14, 462, [0]), zz (.aload_n 0), zz (.iconst 0), (0, .putfield 233, 10, 18, 468, [0]), (1, .return_, 1, 0, 0, [])]),
  (10, [true], [zz (.aload_n 0), (6, .invokevirtual 239, 282, 2, 470, [1, 0, 0, 11, 0, 0, 0, 0, 0])]),
  (14, [true], [(3, .ifCond .ne 8, 4, 3, 0, [])]),
  (17, [true], [zz (.aload_n 0), (0, .getfield 214, 10, 14, 462, []), (5, .ireturn, 1, 0, 0, [])]),
  (22, [true], [zz (.aload_n 0), zz (.bipush 59), (6, .invokevirtual 227, 278, 5, 466, [2, 0, 0, 11, 0, 0, 0, 0, 0])]),
  (28, [true], [(3, .ifCond .ne (-18), 1, 6, 0, [])]),
  (31, [true], [zz (.aload_n 0), (0, .getfield 214, 10, 14, 462, []), zz (.aload_n 0), (0, .getfield 211, 10, 13, 442, []), (3, .if_icmp .ge 10, 8, 7, 0, [])]),
  (42, [true], [zz (.aload_n 0), (0, .getfield 214, 10, 14, 462, []), (2, .goto 4, 9, 0, 0, [])]),
  (49, [false], [zz (.iconst (-1)), (1, .return_, 9, 0, 0, [])]),
  (50, [false], [(5, .ireturn, 1, 0, 0, [])])])
noncomputable def pm_284 : mMt := ((yX10_areInvalid, cX10_areInvalid, 2, some .boolean, 0, 1, []), [(0, [true, false], [zz (.iconst 0), zz (.istore_n 1), (1, .return_, 1, 0, 0, [])]),
  (2, [true, true], [zz (.iload_n 1), zz (.aload_n 0), (0, .getfield 233, 10, 18, 468, []), (3, .if_icmp .ge 45, 9, 2, 0, [])]),
  (10, [true, true], [zz (.aload_n 0), (0, .getfield 35, 10, 17, 117, []), zz (.iconst 5), zz (.iload_n 1), zz (.imul), (8, .iaload, 3, 0, 0, [])]),
  (18, [true, true], [zz (.aload_n 0), (0, .getfield 35, 10, 17, 117, []), zz (.iconst 5), zz (.iload_n 1), zz (.imul), zz (.iconst 1), zz (.iadd), (8, .iaload, 4, 0, 0, [])]),
  (28, [true, true], [zz (.aload_n 0), (0, .getfield 35, 10, 17, 117, []), zz (.iconst 5), zz (.iload_n 1), zz (.imul), zz (.iconst 2), zz (.iadd), (8, .iaload, 5, 0, 0, [])]),
  (38, [true, true], [(6, .invokestatic 103, 52, 6, 204, [3, 0, 0, 0, 0, 0, 0, 0, 0])]),
  (41, [true, true], [(3, .ifCond .ne 5, 8, 7, 0, [])]),
  (44, [false, false], [zz (.iconst 1), (5, .ireturn, 2, 0, 0, [])]),
  (46, [true, true], [zz (.iinc 1 1), (2, .goto (-47), 1, 0, 0, [])]),
  (52, [false, false], [zz (.iconst 0), (5, .ireturn, 2, 0, 0, [])])])
noncomputable def pm_285 : mMt := ((yX10_read, cX10_read, 2, some .int, 0, 1, []), [(0, [true, false], [zz (.aload_n 0), zz (.iconst 0), (0, .putfield 38, 10, 3, 191, [0]), zz (.aload_n 0), zz (.aload_n 0), (6, .invokevirtual 242, 283, 1, 471, [1, 0, 0, 11, 0, 0, 0, 0, 0])]),
  (10, [true, false], [(0, .putfield 31, 10, 16, 116, [0]), zz (.aload_n 0), zz (.iconst 0), (0, .putfield 211, 10, 13, 442, [0]), zz (.aload_n 0), (0, .getfield 31, 10, 16, 116, []), (3, .ifCond .ge 10, 4, 2, 0, [])]),
  (25, [true, false], [zz (.aload_n 0), (6, .invokevirtual 245, 284, 3, 472, [1, 0, 0, 11, 0, 0, 0, 0, 0])]),
  (29, [true, false], [(3, .ifCond .eq 9, 6, 4, 0, [])]),
  (32, [true, false], [zz (.aload_n 0), zz (.iconst 1), (6, .invokevirtual 106, 53, 5, 205, [2, 0, 0, 11, 0, 0, 0, 0, 0])]),
  (37, [false, false], [(5, .ireturn, 1, 0, 0, [])]),
  (38, [true, false], [zz (.aload_n 0), (6, .invokevirtual 109, 54, 7, 206, [1, 0, 0, 11, 0, 0, 0, 0, 0])]),
  (42, [true, false], [zz (.aload_n 0), (0, .getfield 233, 10, 18, 468, []), zz (.iadd), zz (.bipush 60), (3, .if_icmp .gt 22, 10, 8, 0, [])]),
  (52, [true, false], [zz (.aload_n 0), (0, .getfield 7, 10, 0, 109, []), zz (.sipush 2001), (8, .iaload, 9, 0, 0, [])]),
  (60, [true, false], [zz (.aload_n 0), (0, .getfield 233, 10, 18, 468, []), zz (.iadd), zz (.sipush 200), (3, .if_icmp .le 9, 12, 10, 0, [])]),
  (71, [true, false], [zz (.aload_n 0), zz (.iconst 2), (6, .invokevirtual 106, 53, 11, 205, [2, 0, 0, 11, 0, 0, 0, 0, 0])]),
  (76, [false, false], [(5, .ireturn, 1, 0, 0, [])]),
  (77, [true, false], [zz (.iconst 0), zz (.istore_n 1), (1, .return_, 13, 0, 0, [])]),
  (79, [true, true], [zz (.iload_n 1), zz (.aload_n 0), (0, .getfield 233, 10, 18, 468, []), (3, .if_icmp .ge 62, 21, 14, 0, [])]),
  (87, [true, true], [zz (.aload_n 0), zz (.aload_n 0), (0, .getfield 35, 10, 17, 117, []), zz (.iconst 5), zz (.iload_n 1), zz (.imul), (8, .iaload, 15, 0, 0, [])]),
  (96, [true, true], [zz (.aload_n 0), (0, .getfield 35, 10, 17, 117, []), zz (.iconst 5), zz (.iload_n 1), zz (.imul), zz (.iconst 1), zz (.iadd), (8, .iaload, 16, 0, 0, [])]),
  (106, [true, true], [zz (.aload_n 0), (0, .getfield 35, 10, 17, 117, []), zz (.iconst 5), zz (.iload_n 1), zz (.imul), zz (.iconst 2), zz (.iadd), (8, .iaload, 17, 0, 0, [])]),
  (116, [true, true], [zz (.aload_n 0), (0, .getfield 35, 10, 17, 117, []), zz (.iconst 5), zz (.iload_n 1), zz (.imul), zz (.iconst 3), zz (.iadd), (8, .iaload, 18, 0, 0, [])]),
  (126, [true, true], [zz (.aload_n 0), (0, .getfield 35, 10, 17, 117, []), zz (.iconst 5), zz (.iload_n 1), zz (.imul), zz (.iconst 4), zz (.iadd), (8, .iaload, 19, 0, 0, [])]),
  (136, [true, true], [(6, .invokevirtual 113, 65, 20, 207, [6, 0, 0, 11, 0, 0, 0, 0, 0])]),
  (139, [true, true], [zz (.pop), zz (.iinc 1 1), (2, .goto (-64), 13, 0, 0, [])]),
  (146, [true, false], [zz (.aload_n 0), (0, .getfield 233, 10, 18, 468, []), (5, .ireturn, 1, 0, 0, [])])])
noncomputable def pm_286 : mMt := ((yX9_faultPosition, cX9_faultPosition, 1, some .int, 0, 1, []), [(0, [true], [zz (.aload_n 0), (0, .getfield 44, 9, 4, 106, []), (0, .getfield 374, 7, 5, 455, []), (5, .ireturn, 1, 0, 0, [])])])
noncomputable def pm_287 : mMt := ((yX10_faultPosition, cX10_faultPosition, 1, some .int, 0, 1, []), [(0, [true], [zz (.aload_n 0), zz (.iconst 0), (0, .putfield 38, 10, 3, 191, [0]), zz (.aload_n 0), (0, .getfield 31, 10, 16, 116, []), (5, .ireturn, 1, 0, 0, [])])])
noncomputable def pm_288 : mMt := ((yX9_copyRow, cX9_copyRow, 2, none, 0, 2, []), [(0, [true, true], [zz (.aload_n 0), zz (.iconst 0), zz (.aload_n 1), zz (.iconst 0), zz (.aload_n 0), (8, .arraylength, 1, 0, 0, [])]),
  (6, [false, true], [zz (.aload_n 1), (8, .arraylength, 2, 0, 0, [])]),
  (8, [false, false], [(0, .invokestatic 419, 2, 0, 473, []), (9, .invokestatic 424, 3, 0, 474, [])]),
  (14, [false, false], [(5, .return_, 0, 0, 0, [])])])
noncomputable def pm_289 : mMt := ((yX2_copyFrom, cX2_copyFrom, 2, none, 0, 2, []), [(0, [true, true], [zz (.aload_n 1), (0, .getfield 9, 2, 0, 1, []), zz (.aload_n 0), (0, .getfield 9, 2, 0, 1, []), (6, .invokestatic 47, 288, 1, 475, [2, 0, 0, 0, 0, 0, 0, 0, 0])]),
  (11, [true, true], [zz (.aload_n 1), (0, .getfield 15, 2, 1, 2, []), zz (.aload_n 0), (0, .getfield 15, 2, 1, 2, []), (6, .invokestatic 47, 288, 2, 475, [2, 0, 0, 0, 0, 0, 0, 0, 0])]),
  (22, [true, true], [zz (.aload_n 1), (0, .getfield 18, 2, 2, 3, []), zz (.aload_n 0), (0, .getfield 18, 2, 2, 3, []), (6, .invokestatic 47, 288, 3, 475, [2, 0, 0, 0, 0, 0, 0, 0, 0])]),
  (33, [true, true], [zz (.aload_n 1), (0, .getfield 21, 2, 3, 4, []), zz (.aload_n 0), (0, .getfield 21, 2, 3, 4, []), (6, .invokestatic 47, 288, 4, 475, [2, 0, 0, 0, 0, 0, 0, 0, 0])]),
  (44, [true, true], [zz (.aload_n 0), zz (.aload_n 1), (0, .getfield 24, 2, 4, 5, []), (0, .putfield 24, 2, 4, 5, [0]), zz (.aload_n 0), zz (.aload_n 1), (0, .getfield 28, 2, 5, 6, []), (0, .putfield 28, 2, 5, 6, [0]), (5, .return_, 0, 0, 0, [])])])
noncomputable def pm_290 : mMt := ((yX8_copyFrom, cX8_copyFrom, 2, none, 0, 2, []), [(0, [true, true], [zz (.aload_n 1), (0, .getfield 9, 8, 1, 11, []), zz (.aload_n 0), (0, .getfield 9, 8, 1, 11, []), (6, .invokestatic 146, 288, 1, 476, [2, 0, 0, 0, 0, 0, 0, 0, 0])]),
  (11, [true, true], [zz (.aload_n 0), zz (.aload_n 1), (0, .getfield 46, 8, 11, 23, []), (0, .putfield 46, 8, 11, 23, [0]), zz (.aload_n 0), (6, .invokevirtual 104, 38, 2, 241, [1, 0, 0, 9, 0, 0, 0, 0, 0])]),
  (23, [false, false], [(5, .return_, 0, 0, 0, [])])])
noncomputable def pm_291 : mMt := ((yX3_copyFrom, cX3_copyFrom, 2, none, 0, 2, []), [(0, [true, true], [zz (.aload_n 1), (0, .getfield 9, 3, 2, 27, []), zz (.aload_n 0), (0, .getfield 9, 3, 2, 27, []), (6, .invokestatic 119, 288, 1, 477, [2, 0, 0, 0, 0, 0, 0, 0, 0])]),
  (11, [false, false], [(5, .return_, 0, 0, 0, [])])])
noncomputable def pm_292 : mMt := ((yX5_copyFrom, cX5_copyFrom, 2, none, 0, 2, []), [(0, [true, true], [zz (.aload_n 1), (0, .getfield 18, 5, 0, 42, []), zz (.aload_n 0), (0, .getfield 18, 5, 0, 42, []), (6, .invokestatic 49, 288, 1, 478, [2, 0, 0, 0, 0, 0, 0, 0, 0])]),
  (11, [true, true], [zz (.aload_n 1), (0, .getfield 23, 5, 1, 43, []), zz (.aload_n 0), (0, .getfield 23, 5, 1, 43, []), (6, .invokestatic 49, 288, 2, 478, [2, 0, 0, 0, 0, 0, 0, 0, 0])]),
  (22, [true, true], [zz (.aload_n 1), (0, .getfield 26, 5, 2, 44, []), zz (.aload_n 0), (0, .getfield 26, 5, 2, 44, []), (6, .invokestatic 49, 288, 3, 478, [2, 0, 0, 0, 0, 0, 0, 0, 0])]),
  (33, [true, true], [zz (.aload_n 1), (0, .getfield 29, 5, 3, 45, []), zz (.aload_n 0), (0, .getfield 29, 5, 3, 45, []), (6, .invokestatic 49, 288, 4, 478, [2, 0, 0, 0, 0, 0, 0, 0, 0])]),
  (44, [true, true], [zz (.aload_n 1), (0, .getfield 32, 5, 4, 46, []), zz (.aload_n 0), (0, .getfield 32, 5, 4, 46, []), (6, .invokestatic 49, 288, 5, 478, [2, 0, 0, 0, 0, 0, 0, 0, 0])]),
  (55, [false, false], [(5, .return_, 0, 0, 0, [])])])
noncomputable def pm_293 : mMt := ((yX6_copyFrom, cX6_copyFrom, 2, none, 0, 2, []), [(0, [true, true], [zz (.aload_n 0), (0, .getfield 12, 6, 0, 50, []), zz (.aload_n 1), (0, .getfield 12, 6, 0, 50, []), (6, .invokevirtual 108, 289, 1, 479, [2, 0, 0, 3, 0, 0, 0, 0, 0])]),
  (11, [true, true], [zz (.aload_n 0), (0, .getfield 23, 6, 1, 53, []), zz (.aload_n 1), (0, .getfield 23, 6, 1, 53, []), (6, .invokevirtual 111, 290, 2, 480, [2, 0, 0, 9, 0, 0, 0, 0, 0])]),
  (22, [true, true], [zz (.aload_n 0), (0, .getfield 32, 6, 2, 56, []), zz (.aload_n 1), (0, .getfield 32, 6, 2, 56, []), (6, .invokevirtual 114, 291, 3, 481, [2, 0, 0, 4, 0, 0, 0, 0, 0])]),
  (33, [true, true], [zz (.aload_n 0), (0, .getfield 39, 6, 3, 59, []), zz (.aload_n 1), (0, .getfield 39, 6, 3, 59, []), (6, .invokevirtual 117, 292, 4, 482, [2, 0, 0, 6, 0, 0, 0, 0, 0])]),
  (44, [false, false], [(5, .return_, 0, 0, 0, [])])])
noncomputable def pm_294 : mMt := ((yX9_save, cX9_save, 1, none, 0, 1, []), [(0, [true], [zz (.aload_n 0), (0, .getfield 16, 9, 1, 96, []), zz (.aload_n 0), (0, .getfield 10, 9, 0, 95, []), (6, .invokevirtual 390, 293, 1, 483, [2, 0, 0, 7, 0, 0, 0, 0, 0])]),
  (11, [true], [zz (.aload_n 0), zz (.iconst 1), (0, .putfield 48, 9, 5, 107, [1]), (5, .return_, 0, 0, 0, [])])])
noncomputable def pm_295 : mMt := ((yX10_save, cX10_save, 2, none, 0, 1, []), [(0, [true, false], [zz (.aload_n 0), zz (.iconst 0), (0, .putfield 38, 10, 3, 191, [0]), zz (.aload_n 0), zz (.iconst 1), (0, .putfield 248, 10, 2, 484, [1]), zz (.iconst 0), zz (.istore_n 1), (1, .return_, 1, 0, 0, [])]),
  (12, [true, true], [zz (.iload_n 1), zz (.sipush 2031), (3, .if_icmp .ge 21, 5, 2, 0, [])]),
  (19, [true, true], [zz (.aload_n 0), (0, .getfield 13, 10, 1, 110, []), zz (.iload_n 1), zz (.aload_n 0), (0, .getfield 7, 10, 0, 109, []), zz (.iload_n 1), (8, .iaload, 3, 0, 0, [])]),
  (30, [true, true], [(9, .iastore, 4, 0, 0, [])]),
  (31, [true, true], [zz (.iinc 1 1), (2, .goto (-22), 1, 0, 0, [])]),
  (37, [false, false], [(5, .return_, 0, 0, 0, [])])])
noncomputable def pm_296 : mMt := ((yX9_restore, cX9_restore, 1, none, 1, 1, []), [(0, [true], [zz (.aload_n 0), (0, .getfield 48, 9, 5, 107, []), (3, .ifCond .ne 14, 2, 1, 0, [])]),
  (7, [false], [(7, .new 77, 1, 0, 185, [1, 485])]),
  (18, [true], [zz (.aload_n 0), (0, .getfield 37, 9, 3, 103, []), (6, .invokevirtual 82, 16, 3, 187, [1, 0, 1, 1, 0, 0, 0, 0, 0])]),
  (25, [true], [zz (.aload_n 0), (0, .getfield 10, 9, 0, 95, []), zz (.aload_n 0), (0, .getfield 16, 9, 1, 96, []), (6, .invokevirtual 390, 293, 4, 483, [2, 0, 1, 7, 0, 0, 0, 0, 0])]),
  (36, [false], [(5, .return_, 0, 0, 0, [])])])
noncomputable def pm_297 : mMt := ((yL_restore, cL_restore, 2, some .int, 1, 1, [(0, 4, 7, 15)]), [(0, [true, false], [zz (.aload_n 0), (6, .invokevirtual 129, 296, 1, 486, [1, 1, 1, 10, 1, 4, 1, 1, 1])]),
  (4, [false, false], [(2, .goto 6, 3, 0, 0, [])]),
  (7, [false, false], [zz (.astore_n 1), zz (.iconst 1), (5, .ireturn, 1, 0, 0, [])]),
  (10, [false, false], [zz (.iconst 0), (5, .ireturn, 1, 0, 0, [])])])
noncomputable def pm_298 : mMt := ((yX10_restore, cX10_restore, 2, none, 0, 1, []), [(0, [true, false], [zz (.aload_n 0), zz (.iconst 0), (0, .putfield 38, 10, 3, 191, [0]), zz (.aload_n 0), (0, .getfield 248, 10, 2, 484, []), (3, .ifCond .ne 9, 2, 1, 0, [])]),
  (12, [true, false], [zz (.aload_n 0), zz (.iconst 1), (0, .putfield 38, 10, 3, 191, [0]), (5, .return_, 0, 0, 0, [])]),
  (18, [true, false], [zz (.iconst 0), zz (.istore_n 1), (1, .return_, 3, 0, 0, [])]),
  (20, [true, true], [zz (.iload_n 1), zz (.sipush 2031), (3, .if_icmp .ge 21, 7, 4, 0, [])]),
  (27, [true, true], [zz (.aload_n 0), (0, .getfield 7, 10, 0, 109, []), zz (.iload_n 1), zz (.aload_n 0), (0, .getfield 13, 10, 1, 110, []), zz (.iload_n 1), (8, .iaload, 5, 0, 0, [])]),
  (38, [true, true], [(9, .iastore, 6, 0, 0, [])]),
  (39, [true, true], [zz (.iinc 1 1), (2, .goto (-22), 3, 0, 0, [])]),
  (45, [true, false], [zz (.aload_n 0), zz (.iconst 0), (0, .putfield 93, 10, 8, 201, [1]), (5, .return_, 0, 0, 0, [])])])
noncomputable def pm_299 : mMt := ((yL_law, cL_law, 10, some .boolean, 3400, 1, []), [(0, [true, false, false, false, false, false, false, false, false, false], [(10, .new 8, 1, 9, 487, [3400, 0, 1, 1, 1, 1, 1, 0])]),
  (3, [true, false, false, false, false, false, false, false, false, false], [zz (.dup), (6, .invokespecial 132, 10, 2, 488, [1, 81, 3400, 10, 0, 0, 0, 0, 0])]),
  (7, [true, false, false, false, false, false, false, false, false, false], [zz (.astore_n 1), (10, .new 133, 3, 10, 489, [3400, 0, 1, 1, 0, 0, 1, 0, 1, 1, 0, 1, 0, 0, 1, 0, 0, 0, 0, 1, 0])]),
  (11, [true, true, false, false, false, false, false, false, false, false], [zz (.dup), (6, .invokespecial 135, 11, 4, 490, [1, 8, 3400, 11, 0, 0, 0, 0, 0])]),
  (15, [true, true, false, false, false, false, false, false, false, false], [zz (.astore_n 2), zz (.iconst 1), (10, .newarray .long, 5, 0, 0, [3400, 3])]),
  (19, [true, true, true, false, false, false, false, false, false, false], [zz (.astore_n 3), zz (.iconst 1), (10, .newarray .double, 6, 0, 0, [3400, 4])]),
  (23, [true, true, true, true, false, false, false, false, false, false], [zz (.astore 4), zz (.iconst 0), zz (.istore 5), (1, .return_, 7, 0, 0, [])]),
  (28, [true, true, true, true, true, true, false, false, false, false], [zz (.iload 5), zz (.aload_n 0), (8, .arraylength, 8, 1, 0, [])]),
  (32, [true, true, true, true, true, true, false, false, false, false], [zz (.bipush 6), zz (.isub), (3, .if_icmp .gt 2485, 504, 9, 0, [])]),
  (38, [true, true, true, true, true, true, false, false, false, false], [zz (.aload_n 0), zz (.iload 5), (8, .iaload, 10, 1, 0, [])]),
  (42, [true, true, true, true, true, true, false, false, false, false], [zz (.bipush 63), zz (.iand), (4, .tableswitch 2469 0 44 #[195, 299, 355, 380, 448, 504, 560, 640, 720, 764, 832, 888, 944, 957, 1025, 1081, 1161, 1229, 1242, 1298, 1358, 1449, 1505, 1561, 1617, 1661, 1686, 1739, 1795, 1851, 1876, 1944, 2016, 2029, 2085, 2098, 2175, 2188, 2244, 2295, 2339, 2377, 2421, 2434, 2445], 503, 0, 0, [11, 31, 43, 49, 63, 75, 87, 103, 119, 129, 143, 155, 167, 171, 185, 197, 213, 227, 231, 243, 255, 278, 290, 302, 314, 324, 330, 339, 351, 363, 369, 383, 397, 401, 413, 417, 433, 437, 449, 462, 472, 480, 490, 494, 497])]),
  (240, [true, true, true, true, true, true, false, false, false, false], [zz (.aload_n 1), zz (.aload_n 0), zz (.iload 5), zz (.iconst 1), zz (.iadd), (8, .iaload, 12, 1, 0, [])]),
  (247, [true, true, true, true, true, true, false, false, false, false], [zz (.aload_n 0), zz (.iload 5), zz (.iconst 2), zz (.iadd), (8, .iaload, 13, 1, 0, [])]),
  (253, [true, true, true, true, true, true, false, false, false, false], [zz (.aload_n 0), zz (.iload 5), zz (.iconst 3), zz (.iadd), (8, .iaload, 14, 1, 0, [])]),
  (259, [true, true, true, true, true, true, false, false, false, false], [zz (.aload_n 0), zz (.iload 5), zz (.iconst 4), zz (.iadd), (8, .iaload, 15, 1, 0, [])]),
  (265, [true, true, true, true, true, true, false, false, false, false], [zz (.aload_n 0), zz (.iload 5), zz (.iconst 5), zz (.iadd), (8, .iaload, 16, 1, 0, [])]),
  (271, [true, true, true, true, true, true, false, false, false, false], [zz (.aload_n 3), (6, .invokestatic 136, 50, 17, 491, [7, 1, 3400, 0, 0, 0, 0, 0, 0])]),
  (275, [true, true, true, true, true, true, false, false, false, false], [zz (.istore 6), zz (.aload_n 2), zz (.aload_n 0), zz (.iload 5), zz (.iconst 1), zz (.iadd), (8, .iaload, 18, 1, 0, [])]),
  (284, [true, true, true, true, true, true, true, false, false, false], [zz (.aload_n 0), zz (.iload 5), zz (.iconst 2), zz (.iadd), (8, .iaload, 19, 1, 0, [])]),
  (290, [true, true, true, true, true, true, true, false, false, false], [zz (.aload_n 0), zz (.iload 5), zz (.iconst 3), zz (.iadd), (8, .iaload, 20, 1, 0, [])]),
  (296, [true, true, true, true, true, true, true, false, false, false], [zz (.aload_n 0), zz (.iload 5), zz (.iconst 4), zz (.iadd), (8, .iaload, 21, 1, 0, [])]),
  (302, [true, true, true, true, true, true, true, false, false, false], [zz (.aload_n 0), zz (.iload 5), zz (.iconst 5), zz (.iadd), (8, .iaload, 22, 1, 0, [])]),
  (308, [true, true, true, true, true, true, true, false, false, false], [(6, .invokevirtual 141, 66, 23, 492, [6, 0, 3400, 11, 0, 0, 0, 0, 0])]),
  (311, [true, true, true, true, true, true, true, false, false, false], [zz (.istore 7), zz (.aload_n 2), (6, .invokevirtual 142, 67, 24, 493, [1, 0, 3400, 11, 0, 0, 0, 0, 0])]),
  (317, [true, true, true, true, true, true, true, true, false, false], [zz (.iload 6), (3, .if_icmp .eq 5, 26, 25, 0, [])]),
  (322, [false, false, false, false, false, false, false, false, false, false], [zz (.iconst 0), (5, .ireturn, 2, 0, 0, [])]),
  (324, [true, true, true, true, true, true, true, true, false, false], [zz (.iload 6), (3, .ifCond .ne 15, 30, 27, 0, [])]),
  (329, [true, true, true, true, true, true, false, true, false, false], [zz (.aload_n 3), zz (.iconst 0), (8, .laload, 28, 0, 0, [])]),
  (332, [true, true, true, true, true, true, false, true, false, false], [zz (.iload 7), zz (.i2l), zz (.lcmp), (3, .ifCond .eq 5, 30, 29, 0, [])]),
  (339, [false, false, false, false, false, false, false, false, false, false], [zz (.iconst 0), (5, .ireturn, 2, 0, 0, [])]),
  (341, [true, true, true, true, true, true, false, false, false, false], [(2, .goto 2173, 503, 0, 0, [])]),
  (344, [true, true, true, true, true, true, false, false, false, false], [zz (.aload_n 1), zz (.aload_n 0), zz (.iload 5), zz (.iconst 1), zz (.iadd), (8, .iaload, 32, 1, 0, [])]),
  (351, [true, true, true, true, true, true, false, false, false, false], [zz (.aload_n 3), (6, .invokestatic 145, 71, 33, 494, [3, 1, 3400, 0, 0, 0, 0, 0, 0])]),
  (355, [true, true, true, true, true, true, false, false, false, false], [zz (.istore 6), zz (.aload_n 2), zz (.aload_n 0), zz (.iload 5), zz (.iconst 1), zz (.iadd), (8, .iaload, 34, 1, 0, [])]),
  (364, [true, true, true, true, true, true, true, false, false, false], [(6, .invokevirtual 148, 76, 35, 495, [2, 0, 3400, 11, 0, 0, 0, 0, 0])]),
  (367, [true, true, true, true, true, true, true, false, false, false], [zz (.istore 7), zz (.aload_n 2), (6, .invokevirtual 142, 67, 36, 493, [1, 0, 3400, 11, 0, 0, 0, 0, 0])]),
  (373, [true, true, true, true, true, true, true, true, false, false], [zz (.iload 6), (3, .if_icmp .eq 5, 38, 37, 0, [])]),
  (378, [false, false, false, false, false, false, false, false, false, false], [zz (.iconst 0), (5, .ireturn, 2, 0, 0, [])]),
  (380, [true, true, true, true, true, true, true, true, false, false], [zz (.iload 6), (3, .ifCond .ne 15, 42, 39, 0, [])]),
  (385, [true, true, true, true, true, true, false, true, false, false], [zz (.aload_n 3), zz (.iconst 0), (8, .laload, 40, 0, 0, [])]),
  (388, [true, true, true, true, true, true, false, true, false, false], [zz (.iload 7), zz (.i2l), zz (.lcmp), (3, .ifCond .eq 5, 42, 41, 0, [])]),
  (395, [false, false, false, false, false, false, false, false, false, false], [zz (.iconst 0), (5, .ireturn, 2, 0, 0, [])]),
  (397, [true, true, true, true, true, true, false, false, false, false], [(2, .goto 2117, 503, 0, 0, [])]),
  (400, [true, true, true, true, true, true, false, false, false, false], [zz (.aload_n 1), zz (.aload_n 0), zz (.iload 5), zz (.iconst 1), zz (.iadd), (8, .iaload, 44, 1, 0, [])]),
  (407, [true, true, true, true, true, true, false, false, false, false], [(6, .invokevirtual 149, 77, 45, 496, [2, 0, 3400, 10, 0, 0, 0, 0, 0])]),
  (410, [true, true, true, true, true, true, false, false, false, false], [zz (.aload_n 2), zz (.aload_n 0), zz (.iload 5), zz (.iconst 1), zz (.iadd), (8, .iaload, 46, 1, 0, [])]),
  (417, [true, true, true, true, true, true, false, false, false, false], [(6, .invokevirtual 153, 78, 47, 497, [2, 0, 3400, 11, 0, 0, 0, 0, 0])]),
  (420, [true, true, true, true, true, true, false, false, false, false], [(3, .if_icmp .eq 2094, 503, 48, 0, [])]),
  (423, [false, false, false, false, false, false, false, false, false, false], [zz (.iconst 0), (5, .ireturn, 2, 0, 0, [])]),
  (425, [true, true, true, true, true, true, false, false, false, false], [zz (.aload_n 1), zz (.aload_n 0), zz (.iload 5), zz (.iconst 1), zz (.iadd), (8, .iaload, 50, 1, 0, [])]),
  (432, [true, true, true, true, true, true, false, false, false, false], [zz (.aload_n 0), zz (.iload 5), zz (.iconst 2), zz (.iadd), (8, .iaload, 51, 1, 0, [])]),
  (438, [true, true, true, true, true, true, false, false, false, false], [zz (.aload_n 3), (6, .invokestatic 154, 82, 52, 498, [4, 2, 3400, 0, 0, 0, 0, 0, 0])]),
  (442, [true, true, true, true, true, true, false, false, false, false], [zz (.istore 6), zz (.aload_n 2), zz (.aload_n 0), zz (.iload 5), zz (.iconst 1), zz (.iadd), (8, .iaload, 53, 1, 0, [])]),
  (451, [true, true, true, true, true, true, true, false, false, false], [zz (.aload_n 0), zz (.iload 5), zz (.iconst 2), zz (.iadd), (8, .iaload, 54, 1, 0, [])]),
  (457, [true, true, true, true, true, true, true, false, false, false], [(6, .invokevirtual 157, 84, 55, 499, [3, 0, 3400, 11, 0, 0, 0, 0, 0])]),
  (460, [true, true, true, true, true, true, true, false, false, false], [zz (.istore 7), zz (.aload_n 2), (6, .invokevirtual 142, 67, 56, 493, [1, 0, 3400, 11, 0, 0, 0, 0, 0])]),
  (466, [true, true, true, true, true, true, true, true, false, false], [zz (.iload 6), (3, .if_icmp .eq 5, 58, 57, 0, [])]),
  (471, [false, false, false, false, false, false, false, false, false, false], [zz (.iconst 0), (5, .ireturn, 2, 0, 0, [])]),
  (473, [true, true, true, true, true, true, true, true, false, false], [zz (.iload 6), (3, .ifCond .ne 15, 62, 59, 0, [])]),
  (478, [true, true, true, true, true, true, false, true, false, false], [zz (.aload_n 3), zz (.iconst 0), (8, .laload, 60, 0, 0, [])]),
  (481, [true, true, true, true, true, true, false, true, false, false], [zz (.iload 7), zz (.i2l), zz (.lcmp), (3, .ifCond .eq 5, 62, 61, 0, [])]),
  (488, [false, false, false, false, false, false, false, false, false, false], [zz (.iconst 0), (5, .ireturn, 2, 0, 0, [])]),
  (490, [true, true, true, true, true, true, false, false, false, false], [(2, .goto 2024, 503, 0, 0, [])]),
  (493, [true, true, true, true, true, true, false, false, false, false], [zz (.aload_n 1), zz (.aload_n 0), zz (.iload 5), zz (.iconst 1), zz (.iadd), (8, .iaload, 64, 1, 0, [])]),
  (500, [true, true, true, true, true, true, false, false, false, false], [zz (.aload_n 3), (6, .invokestatic 158, 86, 65, 500, [3, 1, 3400, 0, 0, 0, 0, 0, 0])]),
  (504, [true, true, true, true, true, true, false, false, false, false], [zz (.istore 6), zz (.aload_n 2), zz (.aload_n 0), zz (.iload 5), zz (.iconst 1), zz (.iadd), (8, .iaload, 66, 1, 0, [])]),
  (513, [true, true, true, true, true, true, true, false, false, false], [(6, .invokevirtual 160, 87, 67, 501, [2, 0, 3400, 11, 0, 0, 0, 0, 0])]),
  (516, [true, true, true, true, true, true, true, false, false, false], [zz (.istore 7), zz (.aload_n 2), (6, .invokevirtual 142, 67, 68, 493, [1, 0, 3400, 11, 0, 0, 0, 0, 0])]),
  (522, [true, true, true, true, true, true, true, true, false, false], [zz (.iload 6), (3, .if_icmp .eq 5, 70, 69, 0, [])]),
  (527, [false, false, false, false, false, false, false, false, false, false], [zz (.iconst 0), (5, .ireturn, 2, 0, 0, [])]),
  (529, [true, true, true, true, true, true, true, true, false, false], [zz (.iload 6), (3, .ifCond .ne 15, 74, 71, 0, [])]),
  (534, [true, true, true, true, true, true, false, true, false, false], [zz (.aload_n 3), zz (.iconst 0), (8, .laload, 72, 0, 0, [])]),
  (537, [true, true, true, true, true, true, false, true, false, false], [zz (.iload 7), zz (.i2l), zz (.lcmp), (3, .ifCond .eq 5, 74, 73, 0, [])]),
  (544, [false, false, false, false, false, false, false, false, false, false], [zz (.iconst 0), (5, .ireturn, 2, 0, 0, [])]),
  (546, [true, true, true, true, true, true, false, false, false, false], [(2, .goto 1968, 503, 0, 0, [])]),
  (549, [true, true, true, true, true, true, false, false, false, false], [zz (.aload_n 1), zz (.aload_n 0), zz (.iload 5), zz (.iconst 1), zz (.iadd), (8, .iaload, 76, 1, 0, [])]),
  (556, [true, true, true, true, true, true, false, false, false, false], [zz (.aload_n 3), (6, .invokestatic 161, 89, 77, 502, [3, 1, 3400, 0, 0, 0, 0, 0, 0])]),
  (560, [true, true, true, true, true, true, false, false, false, false], [zz (.istore 6), zz (.aload_n 2), zz (.aload_n 0), zz (.iload 5), zz (.iconst 1), zz (.iadd), (8, .iaload, 78, 1, 0, [])]),
  (569, [true, true, true, true, true, true, true, false, false, false], [(6, .invokevirtual 163, 90, 79, 503, [2, 0, 3400, 11, 0, 0, 0, 0, 0])]),
  (572, [true, true, true, true, true, true, true, false, false, false], [zz (.istore 7), zz (.aload_n 2), (6, .invokevirtual 142, 67, 80, 493, [1, 0, 3400, 11, 0, 0, 0, 0, 0])]),
  (578, [true, true, true, true, true, true, true, true, false, false], [zz (.iload 6), (3, .if_icmp .eq 5, 82, 81, 0, [])]),
  (583, [false, false, false, false, false, false, false, false, false, false], [zz (.iconst 0), (5, .ireturn, 2, 0, 0, [])]),
  (585, [true, true, true, true, true, true, true, true, false, false], [zz (.iload 6), (3, .ifCond .ne 15, 86, 83, 0, [])]),
  (590, [true, true, true, true, true, true, false, true, false, false], [zz (.aload_n 3), zz (.iconst 0), (8, .laload, 84, 0, 0, [])]),
  (593, [true, true, true, true, true, true, false, true, false, false], [zz (.iload 7), zz (.i2l), zz (.lcmp), (3, .ifCond .eq 5, 86, 85, 0, [])]),
  (600, [false, false, false, false, false, false, false, false, false, false], [zz (.iconst 0), (5, .ireturn, 2, 0, 0, [])]),
  (602, [true, true, true, true, true, true, false, false, false, false], [(2, .goto 1912, 503, 0, 0, [])]),
  (605, [true, true, true, true, true, true, false, false, false, false], [zz (.aload_n 1), zz (.aload_n 0), zz (.iload 5), zz (.iconst 1), zz (.iadd), (8, .iaload, 88, 1, 0, [])]),
  (612, [true, true, true, true, true, true, false, false, false, false], [zz (.aload_n 0), zz (.iload 5), zz (.iconst 2), zz (.iadd), (8, .iaload, 89, 1, 0, [])]),
  (618, [true, true, true, true, true, true, false, false, false, false], [zz (.aload_n 0), zz (.iload 5), zz (.iconst 3), zz (.iadd), (8, .iaload, 90, 1, 0, [])]),
  (624, [true, true, true, true, true, true, false, false, false, false], [zz (.aload_n 3), (6, .invokestatic 164, 92, 91, 504, [5, 2, 3400, 0, 0, 0, 0, 0, 0])]),
  (628, [true, true, true, true, true, true, false, false, false, false], [zz (.istore 6), zz (.aload_n 2), zz (.aload_n 0), zz (.iload 5), zz (.iconst 1), zz (.iadd), (8, .iaload, 92, 1, 0, [])]),
  (637, [true, true, true, true, true, true, true, false, false, false], [zz (.aload_n 0), zz (.iload 5), zz (.iconst 2), zz (.iadd), (8, .iaload, 93, 1, 0, [])]),
  (643, [true, true, true, true, true, true, true, false, false, false], [zz (.aload_n 0), zz (.iload 5), zz (.iconst 3), zz (.iadd), (8, .iaload, 94, 1, 0, [])]),
  (649, [true, true, true, true, true, true, true, false, false, false], [(6, .invokevirtual 167, 93, 95, 505, [4, 0, 3400, 11, 0, 0, 0, 0, 0])]),
  (652, [true, true, true, true, true, true, true, false, false, false], [zz (.istore 7), zz (.aload_n 2), (6, .invokevirtual 142, 67, 96, 493, [1, 0, 3400, 11, 0, 0, 0, 0, 0])]),
  (658, [true, true, true, true, true, true, true, true, false, false], [zz (.iload 6), (3, .if_icmp .eq 5, 98, 97, 0, [])]),
  (663, [false, false, false, false, false, false, false, false, false, false], [zz (.iconst 0), (5, .ireturn, 2, 0, 0, [])]),
  (665, [true, true, true, true, true, true, true, true, false, false], [zz (.iload 6), (3, .ifCond .ne 15, 102, 99, 0, [])]),
  (670, [true, true, true, true, true, true, false, true, false, false], [zz (.aload_n 3), zz (.iconst 0), (8, .laload, 100, 0, 0, [])]),
  (673, [true, true, true, true, true, true, false, true, false, false], [zz (.iload 7), zz (.i2l), zz (.lcmp), (3, .ifCond .eq 5, 102, 101, 0, [])]),
  (680, [false, false, false, false, false, false, false, false, false, false], [zz (.iconst 0), (5, .ireturn, 2, 0, 0, [])]),
  (682, [true, true, true, true, true, true, false, false, false, false], [(2, .goto 1832, 503, 0, 0, [])]),
  (685, [true, true, true, true, true, true, false, false, false, false], [zz (.aload_n 1), zz (.aload_n 0), zz (.iload 5), zz (.iconst 1), zz (.iadd), (8, .iaload, 104, 1, 0, [])]),
  (692, [true, true, true, true, true, true, false, false, false, false], [zz (.aload_n 0), zz (.iload 5), zz (.iconst 2), zz (.iadd), (8, .iaload, 105, 1, 0, [])]),
  (698, [true, true, true, true, true, true, false, false, false, false], [zz (.aload_n 0), zz (.iload 5), zz (.iconst 3), zz (.iadd), (8, .iaload, 106, 1, 0, [])]),
  (704, [true, true, true, true, true, true, false, false, false, false], [zz (.aload_n 3), (6, .invokestatic 168, 98, 107, 506, [5, 1, 3400, 0, 0, 0, 0, 0, 0])]),
  (708, [true, true, true, true, true, true, false, false, false, false], [zz (.istore 6), zz (.aload_n 2), zz (.aload_n 0), zz (.iload 5), zz (.iconst 1), zz (.iadd), (8, .iaload, 108, 1, 0, [])]),
  (717, [true, true, true, true, true, true, true, false, false, false], [zz (.aload_n 0), zz (.iload 5), zz (.iconst 2), zz (.iadd), (8, .iaload, 109, 1, 0, [])]),
  (723, [true, true, true, true, true, true, true, false, false, false], [zz (.aload_n 0), zz (.iload 5), zz (.iconst 3), zz (.iadd), (8, .iaload, 110, 1, 0, [])]),
  (729, [true, true, true, true, true, true, true, false, false, false], [(6, .invokevirtual 170, 100, 111, 507, [4, 0, 3400, 11, 0, 0, 0, 0, 0])]),
  (732, [true, true, true, true, true, true, true, false, false, false], [zz (.istore 7), zz (.aload_n 2), (6, .invokevirtual 142, 67, 112, 493, [1, 0, 3400, 11, 0, 0, 0, 0, 0])]),
  (738, [true, true, true, true, true, true, true, true, false, false], [zz (.iload 6), (3, .if_icmp .eq 5, 114, 113, 0, [])]),
  (743, [false, false, false, false, false, false, false, false, false, false], [zz (.iconst 0), (5, .ireturn, 2, 0, 0, [])]),
  (745, [true, true, true, true, true, true, true, true, false, false], [zz (.iload 6), (3, .ifCond .ne 15, 118, 115, 0, [])]),
  (750, [true, true, true, true, true, true, false, true, false, false], [zz (.aload_n 3), zz (.iconst 0), (8, .laload, 116, 0, 0, [])]),
  (753, [true, true, true, true, true, true, false, true, false, false], [zz (.iload 7), zz (.i2l), zz (.lcmp), (3, .ifCond .eq 5, 118, 117, 0, [])]),
  (760, [false, false, false, false, false, false, false, false, false, false], [zz (.iconst 0), (5, .ireturn, 2, 0, 0, [])]),
  (762, [true, true, true, true, true, true, false, false, false, false], [(2, .goto 1752, 503, 0, 0, [])]),
  (765, [true, true, true, true, true, true, false, false, false, false], [zz (.aload_n 1), zz (.aload_n 3), (6, .invokestatic 171, 102, 120, 508, [2, 1, 3400, 0, 0, 0, 0, 0, 0])]),
  (770, [true, true, true, true, true, true, false, false, false, false], [zz (.istore 6), zz (.aload_n 2), (6, .invokevirtual 174, 103, 121, 509, [1, 0, 3400, 11, 0, 0, 0, 0, 0])]),
  (776, [true, true, true, true, true, true, true, false, false, false], [zz (.istore 7), zz (.aload_n 2), (6, .invokevirtual 142, 67, 122, 493, [1, 0, 3400, 11, 0, 0, 0, 0, 0])]),
  (782, [true, true, true, true, true, true, true, true, false, false], [zz (.iload 6), (3, .if_icmp .eq 5, 124, 123, 0, [])]),
  (787, [false, false, false, false, false, false, false, false, false, false], [zz (.iconst 0), (5, .ireturn, 2, 0, 0, [])]),
  (789, [true, true, true, true, true, true, true, true, false, false], [zz (.iload 6), (3, .ifCond .ne 15, 128, 125, 0, [])]),
  (794, [true, true, true, true, true, true, false, true, false, false], [zz (.aload_n 3), zz (.iconst 0), (8, .laload, 126, 0, 0, [])]),
  (797, [true, true, true, true, true, true, false, true, false, false], [zz (.iload 7), zz (.i2l), zz (.lcmp), (3, .ifCond .eq 5, 128, 127, 0, [])]),
  (804, [false, false, false, false, false, false, false, false, false, false], [zz (.iconst 0), (5, .ireturn, 2, 0, 0, [])]),
  (806, [true, true, true, true, true, true, false, false, false, false], [(2, .goto 1708, 503, 0, 0, [])]),
  (809, [true, true, true, true, true, true, false, false, false, false], [zz (.aload_n 1), zz (.aload_n 0), zz (.iload 5), zz (.iconst 1), zz (.iadd), (8, .iaload, 130, 1, 0, [])]),
  (816, [true, true, true, true, true, true, false, false, false, false], [zz (.aload_n 0), zz (.iload 5), zz (.iconst 2), zz (.iadd), (8, .iaload, 131, 1, 0, [])]),
  (822, [true, true, true, true, true, true, false, false, false, false], [zz (.aload_n 3), (6, .invokestatic 175, 107, 132, 510, [4, 2, 3400, 0, 0, 0, 0, 0, 0])]),
  (826, [true, true, true, true, true, true, false, false, false, false], [zz (.istore 6), zz (.aload_n 2), zz (.aload_n 0), zz (.iload 5), zz (.iconst 1), zz (.iadd), (8, .iaload, 133, 1, 0, [])]),
  (835, [true, true, true, true, true, true, true, false, false, false], [zz (.aload_n 0), zz (.iload 5), zz (.iconst 2), zz (.iadd), (8, .iaload, 134, 1, 0, [])]),
  (841, [true, true, true, true, true, true, true, false, false, false], [(6, .invokevirtual 177, 109, 135, 511, [3, 0, 3400, 11, 0, 0, 0, 0, 0])]),
  (844, [true, true, true, true, true, true, true, false, false, false], [zz (.istore 7), zz (.aload_n 2), (6, .invokevirtual 142, 67, 136, 493, [1, 0, 3400, 11, 0, 0, 0, 0, 0])]),
  (850, [true, true, true, true, true, true, true, true, false, false], [zz (.iload 6), (3, .if_icmp .eq 5, 138, 137, 0, [])]),
  (855, [false, false, false, false, false, false, false, false, false, false], [zz (.iconst 0), (5, .ireturn, 2, 0, 0, [])]),
  (857, [true, true, true, true, true, true, true, true, false, false], [zz (.iload 6), (3, .ifCond .ne 15, 142, 139, 0, [])]),
  (862, [true, true, true, true, true, true, false, true, false, false], [zz (.aload_n 3), zz (.iconst 0), (8, .laload, 140, 0, 0, [])]),
  (865, [true, true, true, true, true, true, false, true, false, false], [zz (.iload 7), zz (.i2l), zz (.lcmp), (3, .ifCond .eq 5, 142, 141, 0, [])]),
  (872, [false, false, false, false, false, false, false, false, false, false], [zz (.iconst 0), (5, .ireturn, 2, 0, 0, [])]),
  (874, [true, true, true, true, true, true, false, false, false, false], [(2, .goto 1640, 503, 0, 0, [])]),
  (877, [true, true, true, true, true, true, false, false, false, false], [zz (.aload_n 1), zz (.aload_n 0), zz (.iload 5), zz (.iconst 1), zz (.iadd), (8, .iaload, 144, 1, 0, [])]),
  (884, [true, true, true, true, true, true, false, false, false, false], [zz (.aload_n 3), (6, .invokestatic 178, 111, 145, 512, [3, 1, 3400, 0, 0, 0, 0, 0, 0])]),
  (888, [true, true, true, true, true, true, false, false, false, false], [zz (.istore 6), zz (.aload_n 2), zz (.aload_n 0), zz (.iload 5), zz (.iconst 1), zz (.iadd), (8, .iaload, 146, 1, 0, [])]),
  (897, [true, true, true, true, true, true, true, false, false, false], [(6, .invokevirtual 180, 112, 147, 513, [2, 0, 3400, 11, 0, 0, 0, 0, 0])]),
  (900, [true, true, true, true, true, true, true, false, false, false], [zz (.istore 7), zz (.aload_n 2), (6, .invokevirtual 142, 67, 148, 493, [1, 0, 3400, 11, 0, 0, 0, 0, 0])]),
  (906, [true, true, true, true, true, true, true, true, false, false], [zz (.iload 6), (3, .if_icmp .eq 5, 150, 149, 0, [])]),
  (911, [false, false, false, false, false, false, false, false, false, false], [zz (.iconst 0), (5, .ireturn, 2, 0, 0, [])]),
  (913, [true, true, true, true, true, true, true, true, false, false], [zz (.iload 6), (3, .ifCond .ne 15, 154, 151, 0, [])]),
  (918, [true, true, true, true, true, true, false, true, false, false], [zz (.aload_n 3), zz (.iconst 0), (8, .laload, 152, 0, 0, [])]),
  (921, [true, true, true, true, true, true, false, true, false, false], [zz (.iload 7), zz (.i2l), zz (.lcmp), (3, .ifCond .eq 5, 154, 153, 0, [])]),
  (928, [false, false, false, false, false, false, false, false, false, false], [zz (.iconst 0), (5, .ireturn, 2, 0, 0, [])]),
  (930, [true, true, true, true, true, true, false, false, false, false], [(2, .goto 1584, 503, 0, 0, [])]),
  (933, [true, true, true, true, true, true, false, false, false, false], [zz (.aload_n 1), zz (.aload_n 0), zz (.iload 5), zz (.iconst 1), zz (.iadd), (8, .iaload, 156, 1, 0, [])]),
  (940, [true, true, true, true, true, true, false, false, false, false], [zz (.aload_n 3), (6, .invokestatic 181, 114, 157, 514, [3, 1, 3400, 0, 0, 0, 0, 0, 0])]),
  (944, [true, true, true, true, true, true, false, false, false, false], [zz (.istore 6), zz (.aload_n 2), zz (.aload_n 0), zz (.iload 5), zz (.iconst 1), zz (.iadd), (8, .iaload, 158, 1, 0, [])]),
  (953, [true, true, true, true, true, true, true, false, false, false], [(6, .invokevirtual 183, 115, 159, 515, [2, 0, 3400, 11, 0, 0, 0, 0, 0])]),
  (956, [true, true, true, true, true, true, true, false, false, false], [zz (.istore 7), zz (.aload_n 2), (6, .invokevirtual 142, 67, 160, 493, [1, 0, 3400, 11, 0, 0, 0, 0, 0])]),
  (962, [true, true, true, true, true, true, true, true, false, false], [zz (.iload 6), (3, .if_icmp .eq 5, 162, 161, 0, [])]),
  (967, [false, false, false, false, false, false, false, false, false, false], [zz (.iconst 0), (5, .ireturn, 2, 0, 0, [])]),
  (969, [true, true, true, true, true, true, true, true, false, false], [zz (.iload 6), (3, .ifCond .ne 15, 166, 163, 0, [])]),
  (974, [true, true, true, true, true, true, false, true, false, false], [zz (.aload_n 3), zz (.iconst 0), (8, .laload, 164, 0, 0, [])]),
  (977, [true, true, true, true, true, true, false, true, false, false], [zz (.iload 7), zz (.i2l), zz (.lcmp), (3, .ifCond .eq 5, 166, 165, 0, [])]),
  (984, [false, false, false, false, false, false, false, false, false, false], [zz (.iconst 0), (5, .ireturn, 2, 0, 0, [])]),
  (986, [true, true, true, true, true, true, false, false, false, false], [(2, .goto 1528, 503, 0, 0, [])]),
  (989, [true, true, true, true, true, true, false, false, false, false], [zz (.aload_n 1), (6, .invokevirtual 184, 117, 168, 516, [1, 0, 3400, 10, 0, 0, 0, 0, 0])]),
  (993, [true, true, true, true, true, true, false, false, false, false], [zz (.aload_n 2), (6, .invokevirtual 187, 119, 169, 517, [1, 0, 3400, 11, 0, 0, 0, 0, 0])]),
  (997, [true, true, true, true, true, true, false, false, false, false], [(3, .if_icmp .eq 1517, 503, 170, 0, [])]),
  (1000, [false, false, false, false, false, false, false, false, false, false], [zz (.iconst 0), (5, .ireturn, 2, 0, 0, [])]),
  (1002, [true, true, true, true, true, true, false, false, false, false], [zz (.aload_n 1), zz (.aload_n 0), zz (.iload 5), zz (.iconst 1), zz (.iadd), (8, .iaload, 172, 1, 0, [])]),
  (1009, [true, true, true, true, true, true, false, false, false, false], [zz (.aload_n 0), zz (.iload 5), zz (.iconst 2), zz (.iadd), (8, .iaload, 173, 1, 0, [])]),
  (1015, [true, true, true, true, true, true, false, false, false, false], [zz (.aload_n 3), (6, .invokestatic 188, 121, 174, 518, [4, 2, 3400, 0, 0, 0, 0, 0, 0])]),
  (1019, [true, true, true, true, true, true, false, false, false, false], [zz (.istore 6), zz (.aload_n 2), zz (.aload_n 0), zz (.iload 5), zz (.iconst 1), zz (.iadd), (8, .iaload, 175, 1, 0, [])]),
  (1028, [true, true, true, true, true, true, true, false, false, false], [zz (.aload_n 0), zz (.iload 5), zz (.iconst 2), zz (.iadd), (8, .iaload, 176, 1, 0, [])]),
  (1034, [true, true, true, true, true, true, true, false, false, false], [(6, .invokevirtual 190, 123, 177, 519, [3, 0, 3400, 11, 0, 0, 0, 0, 0])]),
  (1037, [true, true, true, true, true, true, true, false, false, false], [zz (.istore 7), zz (.aload_n 2), (6, .invokevirtual 142, 67, 178, 493, [1, 0, 3400, 11, 0, 0, 0, 0, 0])]),
  (1043, [true, true, true, true, true, true, true, true, false, false], [zz (.iload 6), (3, .if_icmp .eq 5, 180, 179, 0, [])]),
  (1048, [false, false, false, false, false, false, false, false, false, false], [zz (.iconst 0), (5, .ireturn, 2, 0, 0, [])]),
  (1050, [true, true, true, true, true, true, true, true, false, false], [zz (.iload 6), (3, .ifCond .ne 15, 184, 181, 0, [])]),
  (1055, [true, true, true, true, true, true, false, true, false, false], [zz (.aload_n 3), zz (.iconst 0), (8, .laload, 182, 0, 0, [])]),
  (1058, [true, true, true, true, true, true, false, true, false, false], [zz (.iload 7), zz (.i2l), zz (.lcmp), (3, .ifCond .eq 5, 184, 183, 0, [])]),
  (1065, [false, false, false, false, false, false, false, false, false, false], [zz (.iconst 0), (5, .ireturn, 2, 0, 0, [])]),
  (1067, [true, true, true, true, true, true, false, false, false, false], [(2, .goto 1447, 503, 0, 0, [])]),
  (1070, [true, true, true, true, true, true, false, false, false, false], [zz (.aload_n 1), zz (.aload_n 0), zz (.iload 5), zz (.iconst 1), zz (.iadd), (8, .iaload, 186, 1, 0, [])]),
  (1077, [true, true, true, true, true, true, false, false, false, false], [zz (.aload_n 3), (6, .invokestatic 191, 128, 187, 520, [3, 1, 3400, 0, 0, 0, 0, 0, 0])]),
  (1081, [true, true, true, true, true, true, false, false, false, false], [zz (.istore 6), zz (.aload_n 2), zz (.aload_n 0), zz (.iload 5), zz (.iconst 1), zz (.iadd), (8, .iaload, 188, 1, 0, [])]),
  (1090, [true, true, true, true, true, true, true, false, false, false], [(6, .invokevirtual 193, 131, 189, 521, [2, 0, 3400, 11, 0, 0, 0, 0, 0])]),
  (1093, [true, true, true, true, true, true, true, false, false, false], [zz (.istore 7), zz (.aload_n 2), (6, .invokevirtual 142, 67, 190, 493, [1, 0, 3400, 11, 0, 0, 0, 0, 0])]),
  (1099, [true, true, true, true, true, true, true, true, false, false], [zz (.iload 6), (3, .if_icmp .eq 5, 192, 191, 0, [])]),
  (1104, [false, false, false, false, false, false, false, false, false, false], [zz (.iconst 0), (5, .ireturn, 2, 0, 0, [])]),
  (1106, [true, true, true, true, true, true, true, true, false, false], [zz (.iload 6), (3, .ifCond .ne 15, 196, 193, 0, [])]),
  (1111, [true, true, true, true, true, true, false, true, false, false], [zz (.aload_n 3), zz (.iconst 0), (8, .laload, 194, 0, 0, [])]),
  (1114, [true, true, true, true, true, true, false, true, false, false], [zz (.iload 7), zz (.i2l), zz (.lcmp), (3, .ifCond .eq 5, 196, 195, 0, [])]),
  (1121, [false, false, false, false, false, false, false, false, false, false], [zz (.iconst 0), (5, .ireturn, 2, 0, 0, [])]),
  (1123, [true, true, true, true, true, true, false, false, false, false], [(2, .goto 1391, 503, 0, 0, [])]),
  (1126, [true, true, true, true, true, true, false, false, false, false], [zz (.aload_n 1), zz (.aload_n 0), zz (.iload 5), zz (.iconst 1), zz (.iadd), (8, .iaload, 198, 1, 0, [])]),
  (1133, [true, true, true, true, true, true, false, false, false, false], [zz (.aload_n 0), zz (.iload 5), zz (.iconst 2), zz (.iadd), (8, .iaload, 199, 1, 0, [])]),
  (1139, [true, true, true, true, true, true, false, false, false, false], [zz (.aload_n 0), zz (.iload 5), zz (.iconst 3), zz (.iadd), (8, .iaload, 200, 1, 0, [])]),
  (1145, [true, true, true, true, true, true, false, false, false, false], [zz (.aload_n 3), (6, .invokestatic 194, 134, 201, 522, [5, 3, 3400, 0, 0, 0, 0, 0, 0])]),
  (1149, [true, true, true, true, true, true, false, false, false, false], [zz (.istore 6), zz (.aload_n 2), zz (.aload_n 0), zz (.iload 5), zz (.iconst 1), zz (.iadd), (8, .iaload, 202, 1, 0, [])]),
  (1158, [true, true, true, true, true, true, true, false, false, false], [zz (.aload_n 0), zz (.iload 5), zz (.iconst 2), zz (.iadd), (8, .iaload, 203, 1, 0, [])]),
  (1164, [true, true, true, true, true, true, true, false, false, false], [zz (.aload_n 0), zz (.iload 5), zz (.iconst 3), zz (.iadd), (8, .iaload, 204, 1, 0, [])]),
  (1170, [true, true, true, true, true, true, true, false, false, false], [(6, .invokevirtual 196, 139, 205, 523, [4, 0, 3400, 11, 0, 0, 0, 0, 0])]),
  (1173, [true, true, true, true, true, true, true, false, false, false], [zz (.istore 7), zz (.aload_n 2), (6, .invokevirtual 142, 67, 206, 493, [1, 0, 3400, 11, 0, 0, 0, 0, 0])]),
  (1179, [true, true, true, true, true, true, true, true, false, false], [zz (.iload 6), (3, .if_icmp .eq 5, 208, 207, 0, [])]),
  (1184, [false, false, false, false, false, false, false, false, false, false], [zz (.iconst 0), (5, .ireturn, 2, 0, 0, [])]),
  (1186, [true, true, true, true, true, true, true, true, false, false], [zz (.iload 6), (3, .ifCond .ne 15, 212, 209, 0, [])]),
  (1191, [true, true, true, true, true, true, false, true, false, false], [zz (.aload_n 3), zz (.iconst 0), (8, .laload, 210, 0, 0, [])]),
  (1194, [true, true, true, true, true, true, false, true, false, false], [zz (.iload 7), zz (.i2l), zz (.lcmp), (3, .ifCond .eq 5, 212, 211, 0, [])]),
  (1201, [false, false, false, false, false, false, false, false, false, false], [zz (.iconst 0), (5, .ireturn, 2, 0, 0, [])]),
  (1203, [true, true, true, true, true, true, false, false, false, false], [(2, .goto 1311, 503, 0, 0, [])]),
  (1206, [true, true, true, true, true, true, false, false, false, false], [zz (.aload_n 1), zz (.aload_n 0), zz (.iload 5), zz (.iconst 1), zz (.iadd), (8, .iaload, 214, 1, 0, [])]),
  (1213, [true, true, true, true, true, true, false, false, false, false], [zz (.aload_n 0), zz (.iload 5), zz (.iconst 2), zz (.iadd), (8, .iaload, 215, 1, 0, [])]),
  (1219, [true, true, true, true, true, true, false, false, false, false], [zz (.aload_n 3), (6, .invokestatic 197, 141, 216, 524, [4, 1, 3400, 0, 0, 0, 0, 0, 0])]),
  (1223, [true, true, true, true, true, true, false, false, false, false], [zz (.istore 6), zz (.aload_n 2), zz (.aload_n 0), zz (.iload 5), zz (.iconst 1), zz (.iadd), (8, .iaload, 217, 1, 0, [])]),
  (1232, [true, true, true, true, true, true, true, false, false, false], [zz (.aload_n 0), zz (.iload 5), zz (.iconst 2), zz (.iadd), (8, .iaload, 218, 1, 0, [])]),
  (1238, [true, true, true, true, true, true, true, false, false, false], [(6, .invokevirtual 199, 143, 219, 525, [3, 0, 3400, 11, 0, 0, 0, 0, 0])]),
  (1241, [true, true, true, true, true, true, true, false, false, false], [zz (.istore 7), zz (.aload_n 2), (6, .invokevirtual 142, 67, 220, 493, [1, 0, 3400, 11, 0, 0, 0, 0, 0])]),
  (1247, [true, true, true, true, true, true, true, true, false, false], [zz (.iload 6), (3, .if_icmp .eq 5, 222, 221, 0, [])]),
  (1252, [false, false, false, false, false, false, false, false, false, false], [zz (.iconst 0), (5, .ireturn, 2, 0, 0, [])]),
  (1254, [true, true, true, true, true, true, true, true, false, false], [zz (.iload 6), (3, .ifCond .ne 15, 226, 223, 0, [])]),
  (1259, [true, true, true, true, true, true, false, true, false, false], [zz (.aload_n 3), zz (.iconst 0), (8, .laload, 224, 0, 0, [])]),
  (1262, [true, true, true, true, true, true, false, true, false, false], [zz (.iload 7), zz (.i2l), zz (.lcmp), (3, .ifCond .eq 5, 226, 225, 0, [])]),
  (1269, [false, false, false, false, false, false, false, false, false, false], [zz (.iconst 0), (5, .ireturn, 2, 0, 0, [])]),
  (1271, [true, true, true, true, true, true, false, false, false, false], [(2, .goto 1243, 503, 0, 0, [])]),
  (1274, [true, true, true, true, true, true, false, false, false, false], [zz (.aload_n 1), (6, .invokevirtual 200, 144, 228, 526, [1, 0, 3400, 10, 0, 0, 0, 0, 0])]),
  (1278, [true, true, true, true, true, true, false, false, false, false], [zz (.aload_n 2), (6, .invokevirtual 203, 145, 229, 527, [1, 0, 3400, 11, 0, 0, 0, 0, 0])]),
  (1282, [true, true, true, true, true, true, false, false, false, false], [(3, .if_icmp .eq 1232, 503, 230, 0, [])]),
  (1285, [false, false, false, false, false, false, false, false, false, false], [zz (.iconst 0), (5, .ireturn, 2, 0, 0, [])]),
  (1287, [true, true, true, true, true, true, false, false, false, false], [zz (.aload_n 1), zz (.aload_n 0), zz (.iload 5), zz (.iconst 1), zz (.iadd), (8, .iaload, 232, 1, 0, [])]),
  (1294, [true, true, true, true, true, true, false, false, false, false], [zz (.aload_n 3), (6, .invokestatic 204, 147, 233, 528, [3, 1, 3400, 0, 0, 0, 0, 0, 0])]),
  (1298, [true, true, true, true, true, true, false, false, false, false], [zz (.istore 6), zz (.aload_n 2), zz (.aload_n 0), zz (.iload 5), zz (.iconst 1), zz (.iadd), (8, .iaload, 234, 1, 0, [])]),
  (1307, [true, true, true, true, true, true, true, false, false, false], [(6, .invokevirtual 206, 148, 235, 529, [2, 0, 3400, 11, 0, 0, 0, 0, 0])]),
  (1310, [true, true, true, true, true, true, true, false, false, false], [zz (.istore 7), zz (.aload_n 2), (6, .invokevirtual 142, 67, 236, 493, [1, 0, 3400, 11, 0, 0, 0, 0, 0])]),
  (1316, [true, true, true, true, true, true, true, true, false, false], [zz (.iload 6), (3, .if_icmp .eq 5, 238, 237, 0, [])]),
  (1321, [false, false, false, false, false, false, false, false, false, false], [zz (.iconst 0), (5, .ireturn, 2, 0, 0, [])]),
  (1323, [true, true, true, true, true, true, true, true, false, false], [zz (.iload 6), (3, .ifCond .ne 15, 242, 239, 0, [])]),
  (1328, [true, true, true, true, true, true, false, true, false, false], [zz (.aload_n 3), zz (.iconst 0), (8, .laload, 240, 0, 0, [])]),
  (1331, [true, true, true, true, true, true, false, true, false, false], [zz (.iload 7), zz (.i2l), zz (.lcmp), (3, .ifCond .eq 5, 242, 241, 0, [])]),
  (1338, [false, false, false, false, false, false, false, false, false, false], [zz (.iconst 0), (5, .ireturn, 2, 0, 0, [])]),
  (1340, [true, true, true, true, true, true, false, false, false, false], [(2, .goto 1174, 503, 0, 0, [])]),
  (1343, [true, true, true, true, true, true, false, false, false, false], [zz (.aload_n 1), zz (.aload_n 0), zz (.iload 5), zz (.iconst 1), zz (.iadd), (8, .iaload, 244, 1, 0, [])]),
  (1350, [true, true, true, true, true, true, false, false, false, false], [zz (.aload_n 0), zz (.iload 5), zz (.iconst 2), zz (.iadd), (8, .iaload, 245, 1, 0, [])]),
  (1356, [true, true, true, true, true, true, false, false, false, false], [zz (.aload_n 0), zz (.iload 5), zz (.iconst 3), zz (.iadd), (8, .iaload, 246, 1, 0, [])]),
  (1362, [true, true, true, true, true, true, false, false, false, false], [(6, .invokestatic 207, 151, 247, 530, [4, 1, 3400, 0, 0, 0, 0, 0, 0])]),
  (1365, [true, true, true, true, true, true, false, false, false, false], [zz (.istore 6), zz (.aload_n 2), zz (.aload_n 0), zz (.iload 5), zz (.iconst 1), zz (.iadd), (8, .iaload, 248, 1, 0, [])]),
  (1374, [true, true, true, true, true, true, true, false, false, false], [zz (.aload_n 0), zz (.iload 5), zz (.iconst 2), zz (.iadd), (8, .iaload, 249, 1, 0, [])]),
  (1380, [true, true, true, true, true, true, true, false, false, false], [zz (.aload_n 0), zz (.iload 5), zz (.iconst 3), zz (.iadd), (8, .iaload, 250, 1, 0, [])]),
  (1386, [true, true, true, true, true, true, true, false, false, false], [(6, .invokevirtual 210, 152, 251, 531, [4, 0, 3400, 11, 0, 0, 0, 0, 0])]),
  (1389, [true, true, true, true, true, true, true, false, false, false], [zz (.aload_n 2), (6, .invokevirtual 142, 67, 252, 493, [1, 0, 3400, 11, 0, 0, 0, 0, 0])]),
  (1393, [true, true, true, true, true, true, true, false, false, false], [zz (.iload 6), (3, .if_icmp .eq 5, 254, 253, 0, [])]),
  (1398, [false, false, false, false, false, false, false, false, false, false], [zz (.iconst 0), (5, .ireturn, 2, 0, 0, [])]),
  (1400, [true, true, true, true, true, true, false, false, false, false], [(2, .goto 1114, 503, 0, 0, [])]),
  (1403, [true, true, true, true, true, true, false, false, false, false], [zz (.aload_n 1), zz (.aload_n 0), zz (.iload 5), zz (.iconst 1), zz (.iadd), (8, .iaload, 256, 1, 0, [])]),
  (1410, [true, true, true, true, true, true, false, false, false, false], [zz (.aload_n 0), zz (.iload 5), zz (.iconst 2), zz (.iadd), (8, .iaload, 257, 1, 0, [])]),
  (1416, [true, true, true, true, true, true, false, false, false, false], [(3, .ifCond .eq 7, 259, 258, 0, [])]),
  (1419, [true, true, true, true, true, true, false, false, false, false], [zz (.iconst 1), (2, .goto 4, 260, 0, 0, [])]),
  (1423, [true, true, true, true, true, true, false, false, false, false], [zz (.iconst 0), (1, .return_, 260, 0, 0, [])]),
  (1424, [true, true, true, true, true, true, false, false, false, false], [zz (.aload_n 3), (6, .invokestatic 211, 154, 261, 532, [4, 1, 3400, 0, 0, 0, 0, 0, 0])]),
  (1428, [true, true, true, true, true, true, false, false, false, false], [zz (.istore 6), zz (.aload_n 2), zz (.aload_n 0), zz (.iload 5), zz (.iconst 1), zz (.iadd), (8, .iaload, 262, 1, 0, [])]),
  (1437, [true, true, true, true, true, true, true, false, false, false], [zz (.aload_n 0), zz (.iload 5), zz (.iconst 2), zz (.iadd), (8, .iaload, 263, 1, 0, [])]),
  (1443, [true, true, true, true, true, true, true, false, false, false], [(3, .ifCond .eq 7, 265, 264, 0, [])]),
  (1446, [true, true, true, true, true, true, true, false, false, false], [zz (.iconst 1), (2, .goto 4, 266, 0, 0, [])]),
  (1450, [true, true, true, true, true, true, true, false, false, false], [zz (.iconst 0), (1, .return_, 266, 0, 0, [])]),
  (1451, [true, true, true, true, true, true, true, false, false, false], [(6, .invokevirtual 214, 155, 267, 533, [3, 0, 3400, 11, 0, 0, 0, 0, 0])]),
  (1454, [true, true, true, true, true, true, true, false, false, false], [zz (.istore 7), zz (.aload_n 2), (6, .invokevirtual 142, 67, 268, 493, [1, 0, 3400, 11, 0, 0, 0, 0, 0])]),
  (1460, [true, true, true, true, true, true, true, true, false, false], [zz (.iload 6), (3, .if_icmp .eq 5, 270, 269, 0, [])]),
  (1465, [false, false, false, false, false, false, false, false, false, false], [zz (.iconst 0), (5, .ireturn, 2, 0, 0, [])]),
  (1467, [true, true, true, true, true, true, true, true, false, false], [zz (.iload 6), (3, .ifCond .ne 22, 277, 271, 0, [])]),
  (1472, [true, true, true, true, true, true, false, true, false, false], [zz (.aload_n 3), zz (.iconst 0), (8, .laload, 272, 0, 0, [])]),
  (1475, [true, true, true, true, true, true, false, true, false, false], [zz (.iload 7), (3, .ifCond .eq 7, 274, 273, 0, [])]),
  (1480, [true, true, true, true, true, true, false, false, false, false], [zz (.lconst 1), (2, .goto 4, 275, 0, 0, [])]),
  (1484, [true, true, true, true, true, true, false, false, false, false], [zz (.lconst 0), (1, .return_, 275, 0, 0, [])]),
  (1485, [true, true, true, true, true, true, false, false, false, false], [zz (.lcmp), (3, .ifCond .eq 5, 277, 276, 0, [])]),
  (1489, [false, false, false, false, false, false, false, false, false, false], [zz (.iconst 0), (5, .ireturn, 2, 0, 0, [])]),
  (1491, [true, true, true, true, true, true, false, false, false, false], [(2, .goto 1023, 503, 0, 0, [])]),
  (1494, [true, true, true, true, true, true, false, false, false, false], [zz (.aload_n 1), zz (.aload_n 0), zz (.iload 5), zz (.iconst 1), zz (.iadd), (8, .iaload, 279, 1, 0, [])]),
  (1501, [true, true, true, true, true, true, false, false, false, false], [zz (.aload_n 3), (6, .invokestatic 215, 159, 280, 534, [3, 1, 3400, 0, 0, 0, 0, 0, 0])]),
  (1505, [true, true, true, true, true, true, false, false, false, false], [zz (.istore 6), zz (.aload_n 2), zz (.aload_n 0), zz (.iload 5), zz (.iconst 1), zz (.iadd), (8, .iaload, 281, 1, 0, [])]),
  (1514, [true, true, true, true, true, true, true, false, false, false], [(6, .invokevirtual 217, 163, 282, 535, [2, 0, 3400, 11, 0, 0, 0, 0, 0])]),
  (1517, [true, true, true, true, true, true, true, false, false, false], [zz (.istore 7), zz (.aload_n 2), (6, .invokevirtual 142, 67, 283, 493, [1, 0, 3400, 11, 0, 0, 0, 0, 0])]),
  (1523, [true, true, true, true, true, true, true, true, false, false], [zz (.iload 6), (3, .if_icmp .eq 5, 285, 284, 0, [])]),
  (1528, [false, false, false, false, false, false, false, false, false, false], [zz (.iconst 0), (5, .ireturn, 2, 0, 0, [])]),
  (1530, [true, true, true, true, true, true, true, true, false, false], [zz (.iload 6), (3, .ifCond .ne 15, 289, 286, 0, [])]),
  (1535, [true, true, true, true, true, true, false, true, false, false], [zz (.aload_n 3), zz (.iconst 0), (8, .laload, 287, 0, 0, [])]),
  (1538, [true, true, true, true, true, true, false, true, false, false], [zz (.iload 7), zz (.i2l), zz (.lcmp), (3, .ifCond .eq 5, 289, 288, 0, [])]),
  (1545, [false, false, false, false, false, false, false, false, false, false], [zz (.iconst 0), (5, .ireturn, 2, 0, 0, [])]),
  (1547, [true, true, true, true, true, true, false, false, false, false], [(2, .goto 967, 503, 0, 0, [])]),
  (1550, [true, true, true, true, true, true, false, false, false, false], [zz (.aload_n 1), zz (.aload_n 0), zz (.iload 5), zz (.iconst 1), zz (.iadd), (8, .iaload, 291, 1, 0, [])]),
  (1557, [true, true, true, true, true, true, false, false, false, false], [zz (.aload_n 3), (6, .invokestatic 218, 167, 292, 536, [3, 1, 3400, 0, 0, 0, 0, 0, 0])]),
  (1561, [true, true, true, true, true, true, false, false, false, false], [zz (.istore 6), zz (.aload_n 2), zz (.aload_n 0), zz (.iload 5), zz (.iconst 1), zz (.iadd), (8, .iaload, 293, 1, 0, [])]),
  (1570, [true, true, true, true, true, true, true, false, false, false], [(6, .invokevirtual 220, 169, 294, 537, [2, 0, 3400, 11, 0, 0, 0, 0, 0])]),
  (1573, [true, true, true, true, true, true, true, false, false, false], [zz (.istore 7), zz (.aload_n 2), (6, .invokevirtual 142, 67, 295, 493, [1, 0, 3400, 11, 0, 0, 0, 0, 0])]),
  (1579, [true, true, true, true, true, true, true, true, false, false], [zz (.iload 6), (3, .if_icmp .eq 5, 297, 296, 0, [])]),
  (1584, [false, false, false, false, false, false, false, false, false, false], [zz (.iconst 0), (5, .ireturn, 2, 0, 0, [])]),
  (1586, [true, true, true, true, true, true, true, true, false, false], [zz (.iload 6), (3, .ifCond .ne 15, 301, 298, 0, [])]),
  (1591, [true, true, true, true, true, true, false, true, false, false], [zz (.aload_n 3), zz (.iconst 0), (8, .laload, 299, 0, 0, [])]),
  (1594, [true, true, true, true, true, true, false, true, false, false], [zz (.iload 7), zz (.i2l), zz (.lcmp), (3, .ifCond .eq 5, 301, 300, 0, [])]),
  (1601, [false, false, false, false, false, false, false, false, false, false], [zz (.iconst 0), (5, .ireturn, 2, 0, 0, [])]),
  (1603, [true, true, true, true, true, true, false, false, false, false], [(2, .goto 911, 503, 0, 0, [])]),
  (1606, [true, true, true, true, true, true, false, false, false, false], [zz (.aload_n 1), zz (.aload_n 0), zz (.iload 5), zz (.iconst 1), zz (.iadd), (8, .iaload, 303, 1, 0, [])]),
  (1613, [true, true, true, true, true, true, false, false, false, false], [zz (.aload_n 3), (6, .invokestatic 221, 174, 304, 538, [3, 1, 3400, 0, 0, 0, 0, 0, 0])]),
  (1617, [true, true, true, true, true, true, false, false, false, false], [zz (.istore 6), zz (.aload_n 2), zz (.aload_n 0), zz (.iload 5), zz (.iconst 1), zz (.iadd), (8, .iaload, 305, 1, 0, [])]),
  (1626, [true, true, true, true, true, true, true, false, false, false], [(6, .invokevirtual 223, 176, 306, 539, [2, 0, 3400, 11, 0, 0, 0, 0, 0])]),
  (1629, [true, true, true, true, true, true, true, false, false, false], [zz (.istore 7), zz (.aload_n 2), (6, .invokevirtual 142, 67, 307, 493, [1, 0, 3400, 11, 0, 0, 0, 0, 0])]),
  (1635, [true, true, true, true, true, true, true, true, false, false], [zz (.iload 6), (3, .if_icmp .eq 5, 309, 308, 0, [])]),
  (1640, [false, false, false, false, false, false, false, false, false, false], [zz (.iconst 0), (5, .ireturn, 2, 0, 0, [])]),
  (1642, [true, true, true, true, true, true, true, true, false, false], [zz (.iload 6), (3, .ifCond .ne 15, 313, 310, 0, [])]),
  (1647, [true, true, true, true, true, true, false, true, false, false], [zz (.aload_n 3), zz (.iconst 0), (8, .laload, 311, 0, 0, [])]),
  (1650, [true, true, true, true, true, true, false, true, false, false], [zz (.iload 7), zz (.i2l), zz (.lcmp), (3, .ifCond .eq 5, 313, 312, 0, [])]),
  (1657, [false, false, false, false, false, false, false, false, false, false], [zz (.iconst 0), (5, .ireturn, 2, 0, 0, [])]),
  (1659, [true, true, true, true, true, true, false, false, false, false], [(2, .goto 855, 503, 0, 0, [])]),
  (1662, [true, true, true, true, true, true, false, false, false, false], [zz (.aload_n 1), zz (.aload_n 3), (6, .invokestatic 224, 179, 315, 540, [2, 1, 3400, 0, 0, 0, 0, 0, 0])]),
  (1667, [true, true, true, true, true, true, false, false, false, false], [zz (.istore 6), zz (.aload_n 2), (6, .invokevirtual 226, 180, 316, 541, [1, 0, 3400, 11, 0, 0, 0, 0, 0])]),
  (1673, [true, true, true, true, true, true, true, false, false, false], [zz (.istore 7), zz (.aload_n 2), (6, .invokevirtual 142, 67, 317, 493, [1, 0, 3400, 11, 0, 0, 0, 0, 0])]),
  (1679, [true, true, true, true, true, true, true, true, false, false], [zz (.iload 6), (3, .if_icmp .eq 5, 319, 318, 0, [])]),
  (1684, [false, false, false, false, false, false, false, false, false, false], [zz (.iconst 0), (5, .ireturn, 2, 0, 0, [])]),
  (1686, [true, true, true, true, true, true, true, true, false, false], [zz (.iload 6), (3, .ifCond .ne 15, 323, 320, 0, [])]),
  (1691, [true, true, true, true, true, true, false, true, false, false], [zz (.aload_n 3), zz (.iconst 0), (8, .laload, 321, 0, 0, [])]),
  (1694, [true, true, true, true, true, true, false, true, false, false], [zz (.iload 7), zz (.i2l), zz (.lcmp), (3, .ifCond .eq 5, 323, 322, 0, [])]),
  (1701, [false, false, false, false, false, false, false, false, false, false], [zz (.iconst 0), (5, .ireturn, 2, 0, 0, [])]),
  (1703, [true, true, true, true, true, true, false, false, false, false], [(2, .goto 811, 503, 0, 0, [])]),
  (1706, [true, true, true, true, true, true, false, false, false, false], [zz (.aload_n 1), zz (.aload_n 0), zz (.iload 5), zz (.iconst 1), zz (.iadd), (8, .iaload, 325, 1, 0, [])]),
  (1713, [true, true, true, true, true, true, false, false, false, false], [(6, .invokevirtual 227, 182, 326, 542, [2, 0, 3400, 10, 0, 0, 0, 0, 0])]),
  (1716, [true, true, true, true, true, true, false, false, false, false], [zz (.aload_n 2), zz (.aload_n 0), zz (.iload 5), zz (.iconst 1), zz (.iadd), (8, .iaload, 327, 1, 0, [])]),
  (1723, [true, true, true, true, true, true, false, false, false, false], [(6, .invokevirtual 230, 183, 328, 543, [2, 0, 3400, 11, 0, 0, 0, 0, 0])]),
  (1726, [true, true, true, true, true, true, false, false, false, false], [(3, .if_icmp .eq 788, 503, 329, 0, [])]),
  (1729, [false, false, false, false, false, false, false, false, false, false], [zz (.iconst 0), (5, .ireturn, 2, 0, 0, [])]),
  (1731, [true, true, true, true, true, true, false, false, false, false], [zz (.aload_n 1), zz (.aload_n 0), zz (.iload 5), zz (.iconst 1), zz (.iadd), (8, .iaload, 331, 1, 0, [])]),
  (1738, [true, true, true, true, true, true, false, false, false, false], [(6, .invokevirtual 231, 185, 332, 544, [2, 0, 3400, 10, 0, 0, 0, 0, 0])]),
  (1741, [true, true, true, true, true, true, false, false, false, false], [zz (.dstore 6), zz (.aload_n 2), zz (.aload_n 0), zz (.iload 5), zz (.iconst 1), zz (.iadd), (8, .iaload, 333, 1, 0, [])]),
  (1750, [true, true, true, true, true, true, true, false, false, false], [(6, .invokevirtual 234, 186, 334, 545, [2, 0, 3400, 11, 0, 0, 0, 0, 0])]),
  (1753, [true, true, true, true, true, true, true, false, false, false], [zz (.dstore 8), zz (.dload 6), zz (.dload 8), zz (.dcmp .l), (3, .ifCond .eq 21, 338, 335, 0, [])]),
  (1763, [true, true, true, true, true, true, true, false, true, false], [zz (.dload 6), zz (.dload 6), zz (.dcmp .l), (3, .ifCond .eq 11, 337, 336, 0, [])]),
  (1771, [true, true, true, true, true, true, false, false, true, false], [zz (.dload 8), zz (.dload 8), zz (.dcmp .l), (3, .ifCond .ne 5, 338, 337, 0, [])]),
  (1779, [false, false, false, false, false, false, false, false, false, false], [zz (.iconst 0), (5, .ireturn, 2, 0, 0, [])]),
  (1781, [true, true, true, true, true, true, false, false, false, false], [(2, .goto 733, 503, 0, 0, [])]),
  (1784, [true, true, true, true, true, true, false, false, false, false], [zz (.aload_n 1), zz (.aload_n 0), zz (.iload 5), zz (.iconst 1), zz (.iadd), (8, .iaload, 340, 1, 0, [])]),
  (1791, [true, true, true, true, true, true, false, false, false, false], [zz (.aload_n 3), (6, .invokestatic 235, 191, 341, 546, [3, 1, 3400, 0, 0, 0, 0, 0, 0])]),
  (1795, [true, true, true, true, true, true, false, false, false, false], [zz (.istore 6), zz (.aload_n 2), zz (.aload_n 0), zz (.iload 5), zz (.iconst 1), zz (.iadd), (8, .iaload, 342, 1, 0, [])]),
  (1804, [true, true, true, true, true, true, true, false, false, false], [(6, .invokevirtual 237, 193, 343, 547, [2, 0, 3400, 11, 0, 0, 0, 0, 0])]),
  (1807, [true, true, true, true, true, true, true, false, false, false], [zz (.istore 7), zz (.aload_n 2), (6, .invokevirtual 142, 67, 344, 493, [1, 0, 3400, 11, 0, 0, 0, 0, 0])]),
  (1813, [true, true, true, true, true, true, true, true, false, false], [zz (.iload 6), (3, .if_icmp .eq 5, 346, 345, 0, [])]),
  (1818, [false, false, false, false, false, false, false, false, false, false], [zz (.iconst 0), (5, .ireturn, 2, 0, 0, [])]),
  (1820, [true, true, true, true, true, true, true, true, false, false], [zz (.iload 6), (3, .ifCond .ne 15, 350, 347, 0, [])]),
  (1825, [true, true, true, true, true, true, false, true, false, false], [zz (.aload_n 3), zz (.iconst 0), (8, .laload, 348, 0, 0, [])]),
  (1828, [true, true, true, true, true, true, false, true, false, false], [zz (.iload 7), zz (.i2l), zz (.lcmp), (3, .ifCond .eq 5, 350, 349, 0, [])]),
  (1835, [false, false, false, false, false, false, false, false, false, false], [zz (.iconst 0), (5, .ireturn, 2, 0, 0, [])]),
  (1837, [true, true, true, true, true, true, false, false, false, false], [(2, .goto 677, 503, 0, 0, [])]),
  (1840, [true, true, true, true, true, true, false, false, false, false], [zz (.aload_n 1), zz (.aload_n 0), zz (.iload 5), zz (.iconst 1), zz (.iadd), (8, .iaload, 352, 1, 0, [])]),
  (1847, [true, true, true, true, true, true, false, false, false, false], [zz (.aload_n 3), (6, .invokestatic 238, 198, 353, 548, [3, 1, 3400, 0, 0, 0, 0, 0, 0])]),
  (1851, [true, true, true, true, true, true, false, false, false, false], [zz (.istore 6), zz (.aload_n 2), zz (.aload_n 0), zz (.iload 5), zz (.iconst 1), zz (.iadd), (8, .iaload, 354, 1, 0, [])]),
  (1860, [true, true, true, true, true, true, true, false, false, false], [(6, .invokevirtual 240, 200, 355, 549, [2, 0, 3400, 11, 0, 0, 0, 0, 0])]),
  (1863, [true, true, true, true, true, true, true, false, false, false], [zz (.istore 7), zz (.aload_n 2), (6, .invokevirtual 142, 67, 356, 493, [1, 0, 3400, 11, 0, 0, 0, 0, 0])]),
  (1869, [true, true, true, true, true, true, true, true, false, false], [zz (.iload 6), (3, .if_icmp .eq 5, 358, 357, 0, [])]),
  (1874, [false, false, false, false, false, false, false, false, false, false], [zz (.iconst 0), (5, .ireturn, 2, 0, 0, [])]),
  (1876, [true, true, true, true, true, true, true, true, false, false], [zz (.iload 6), (3, .ifCond .ne 15, 362, 359, 0, [])]),
  (1881, [true, true, true, true, true, true, false, true, false, false], [zz (.aload_n 3), zz (.iconst 0), (8, .laload, 360, 0, 0, [])]),
  (1884, [true, true, true, true, true, true, false, true, false, false], [zz (.iload 7), zz (.i2l), zz (.lcmp), (3, .ifCond .eq 5, 362, 361, 0, [])]),
  (1891, [false, false, false, false, false, false, false, false, false, false], [zz (.iconst 0), (5, .ireturn, 2, 0, 0, [])]),
  (1893, [true, true, true, true, true, true, false, false, false, false], [(2, .goto 621, 503, 0, 0, [])]),
  (1896, [true, true, true, true, true, true, false, false, false, false], [zz (.aload_n 1), zz (.aload_n 0), zz (.iload 5), zz (.iconst 1), zz (.iadd), (8, .iaload, 364, 1, 0, [])]),
  (1903, [true, true, true, true, true, true, false, false, false, false], [(6, .invokevirtual 241, 204, 365, 550, [2, 0, 3400, 10, 0, 0, 0, 0, 0])]),
  (1906, [true, true, true, true, true, true, false, false, false, false], [zz (.aload_n 2), zz (.aload_n 0), zz (.iload 5), zz (.iconst 1), zz (.iadd), (8, .iaload, 366, 1, 0, [])]),
  (1913, [true, true, true, true, true, true, false, false, false, false], [(6, .invokevirtual 244, 206, 367, 551, [2, 0, 3400, 11, 0, 0, 0, 0, 0])]),
  (1916, [true, true, true, true, true, true, false, false, false, false], [(3, .if_icmp .eq 598, 503, 368, 0, [])]),
  (1919, [false, false, false, false, false, false, false, false, false, false], [zz (.iconst 0), (5, .ireturn, 2, 0, 0, [])]),
  (1921, [true, true, true, true, true, true, false, false, false, false], [zz (.aload_n 1), zz (.aload_n 0), zz (.iload 5), zz (.iconst 1), zz (.iadd), (8, .iaload, 370, 1, 0, [])]),
  (1928, [true, true, true, true, true, true, false, false, false, false], [zz (.aload_n 0), zz (.iload 5), zz (.iconst 2), zz (.iadd), (8, .iaload, 371, 1, 0, [])]),
  (1934, [true, true, true, true, true, true, false, false, false, false], [zz (.aload_n 3), (6, .invokestatic 245, 209, 372, 552, [4, 1, 3400, 0, 0, 0, 0, 0, 0])]),
  (1938, [true, true, true, true, true, true, false, false, false, false], [zz (.istore 6), zz (.aload_n 2), zz (.aload_n 0), zz (.iload 5), zz (.iconst 1), zz (.iadd), (8, .iaload, 373, 1, 0, [])]),
  (1947, [true, true, true, true, true, true, true, false, false, false], [zz (.aload_n 0), zz (.iload 5), zz (.iconst 2), zz (.iadd), (8, .iaload, 374, 1, 0, [])]),
  (1953, [true, true, true, true, true, true, true, false, false, false], [(6, .invokevirtual 247, 210, 375, 553, [3, 0, 3400, 11, 0, 0, 0, 0, 0])]),
  (1956, [true, true, true, true, true, true, true, false, false, false], [zz (.istore 7), zz (.aload_n 2), (6, .invokevirtual 142, 67, 376, 493, [1, 0, 3400, 11, 0, 0, 0, 0, 0])]),
  (1962, [true, true, true, true, true, true, true, true, false, false], [zz (.iload 6), (3, .if_icmp .eq 5, 378, 377, 0, [])]),
  (1967, [false, false, false, false, false, false, false, false, false, false], [zz (.iconst 0), (5, .ireturn, 2, 0, 0, [])]),
  (1969, [true, true, true, true, true, true, true, true, false, false], [zz (.iload 6), (3, .ifCond .ne 15, 382, 379, 0, [])]),
  (1974, [true, true, true, true, true, true, false, true, false, false], [zz (.aload_n 3), zz (.iconst 0), (8, .laload, 380, 0, 0, [])]),
  (1977, [true, true, true, true, true, true, false, true, false, false], [zz (.iload 7), zz (.i2l), zz (.lcmp), (3, .ifCond .eq 5, 382, 381, 0, [])]),
  (1984, [false, false, false, false, false, false, false, false, false, false], [zz (.iconst 0), (5, .ireturn, 2, 0, 0, [])]),
  (1986, [true, true, true, true, true, true, false, false, false, false], [(2, .goto 528, 503, 0, 0, [])]),
  (1989, [true, true, true, true, true, true, false, false, false, false], [zz (.aload_n 1), zz (.aload_n 0), zz (.iload 5), zz (.iconst 1), zz (.iadd), (8, .iaload, 384, 1, 0, [])]),
  (1996, [true, true, true, true, true, true, false, false, false, false], [zz (.aload_n 0), zz (.iload 5), zz (.iconst 2), zz (.iadd), (8, .iaload, 385, 1, 0, [])]),
  (2002, [true, true, true, true, true, true, false, false, false, false], [zz (.aload_n 0), zz (.iload 5), zz (.iconst 3), zz (.iadd), (8, .iaload, 386, 1, 0, [])]),
  (2008, [true, true, true, true, true, true, false, false, false, false], [zz (.aload_n 0), zz (.iload 5), zz (.iconst 4), zz (.iadd), (8, .iaload, 387, 1, 0, [])]),
  (2014, [true, true, true, true, true, true, false, false, false, false], [(6, .invokestatic 248, 212, 388, 554, [5, 1, 3400, 0, 0, 0, 0, 0, 0])]),
  (2017, [true, true, true, true, true, true, false, false, false, false], [zz (.istore 6), zz (.aload_n 2), zz (.aload_n 0), zz (.iload 5), zz (.iconst 1), zz (.iadd), (8, .iaload, 389, 1, 0, [])]),
  (2026, [true, true, true, true, true, true, true, false, false, false], [zz (.aload_n 0), zz (.iload 5), zz (.iconst 2), zz (.iadd), (8, .iaload, 390, 1, 0, [])]),
  (2032, [true, true, true, true, true, true, true, false, false, false], [zz (.aload_n 0), zz (.iload 5), zz (.iconst 3), zz (.iadd), (8, .iaload, 391, 1, 0, [])]),
  (2038, [true, true, true, true, true, true, true, false, false, false], [zz (.aload_n 0), zz (.iload 5), zz (.iconst 4), zz (.iadd), (8, .iaload, 392, 1, 0, [])]),
  (2044, [true, true, true, true, true, true, true, false, false, false], [(6, .invokevirtual 251, 213, 393, 555, [5, 0, 3400, 11, 0, 0, 0, 0, 0])]),
  (2047, [true, true, true, true, true, true, true, false, false, false], [zz (.aload_n 2), (6, .invokevirtual 142, 67, 394, 493, [1, 0, 3400, 11, 0, 0, 0, 0, 0])]),
  (2051, [true, true, true, true, true, true, true, false, false, false], [zz (.iload 6), (3, .if_icmp .eq 5, 396, 395, 0, [])]),
  (2056, [false, false, false, false, false, false, false, false, false, false], [zz (.iconst 0), (5, .ireturn, 2, 0, 0, [])]),
  (2058, [true, true, true, true, true, true, false, false, false, false], [(2, .goto 456, 503, 0, 0, [])]),
  (2061, [true, true, true, true, true, true, false, false, false, false], [zz (.aload_n 1), (6, .invokevirtual 252, 216, 398, 556, [1, 0, 3400, 10, 0, 0, 0, 0, 0])]),
  (2065, [true, true, true, true, true, true, false, false, false, false], [zz (.aload_n 2), (6, .invokevirtual 255, 219, 399, 557, [1, 0, 3400, 11, 0, 0, 0, 0, 0])]),
  (2069, [true, true, true, true, true, true, false, false, false, false], [(3, .if_icmp .eq 445, 503, 400, 0, [])]),
  (2072, [false, false, false, false, false, false, false, false, false, false], [zz (.iconst 0), (5, .ireturn, 2, 0, 0, [])]),
  (2074, [true, true, true, true, true, true, false, false, false, false], [zz (.aload_n 1), zz (.aload_n 0), zz (.iload 5), zz (.iconst 1), zz (.iadd), (8, .iaload, 402, 1, 0, [])]),
  (2081, [true, true, true, true, true, true, false, false, false, false], [zz (.aload_n 3), (6, .invokestatic 256, 221, 403, 558, [3, 1, 3400, 0, 0, 0, 0, 0, 0])]),
  (2085, [true, true, true, true, true, true, false, false, false, false], [zz (.istore 6), zz (.aload_n 2), zz (.aload_n 0), zz (.iload 5), zz (.iconst 1), zz (.iadd), (8, .iaload, 404, 1, 0, [])]),
  (2094, [true, true, true, true, true, true, true, false, false, false], [(6, .invokevirtual 258, 222, 405, 559, [2, 0, 3400, 11, 0, 0, 0, 0, 0])]),
  (2097, [true, true, true, true, true, true, true, false, false, false], [zz (.istore 7), zz (.aload_n 2), (6, .invokevirtual 142, 67, 406, 493, [1, 0, 3400, 11, 0, 0, 0, 0, 0])]),
  (2103, [true, true, true, true, true, true, true, true, false, false], [zz (.iload 6), (3, .if_icmp .eq 5, 408, 407, 0, [])]),
  (2108, [false, false, false, false, false, false, false, false, false, false], [zz (.iconst 0), (5, .ireturn, 2, 0, 0, [])]),
  (2110, [true, true, true, true, true, true, true, true, false, false], [zz (.iload 6), (3, .ifCond .ne 15, 412, 409, 0, [])]),
  (2115, [true, true, true, true, true, true, false, true, false, false], [zz (.aload_n 3), zz (.iconst 0), (8, .laload, 410, 0, 0, [])]),
  (2118, [true, true, true, true, true, true, false, true, false, false], [zz (.iload 7), zz (.i2l), zz (.lcmp), (3, .ifCond .eq 5, 412, 411, 0, [])]),
  (2125, [false, false, false, false, false, false, false, false, false, false], [zz (.iconst 0), (5, .ireturn, 2, 0, 0, [])]),
  (2127, [true, true, true, true, true, true, false, false, false, false], [(2, .goto 387, 503, 0, 0, [])]),
  (2130, [true, true, true, true, true, true, false, false, false, false], [zz (.aload_n 1), (6, .invokevirtual 259, 224, 414, 560, [1, 0, 3400, 10, 0, 0, 0, 0, 0])]),
  (2134, [true, true, true, true, true, true, false, false, false, false], [zz (.aload_n 2), (6, .invokevirtual 262, 226, 415, 561, [1, 0, 3400, 11, 0, 0, 0, 0, 0])]),
  (2138, [true, true, true, true, true, true, false, false, false, false], [(3, .if_icmp .eq 376, 503, 416, 0, [])]),
  (2141, [false, false, false, false, false, false, false, false, false, false], [zz (.iconst 0), (5, .ireturn, 2, 0, 0, [])]),
  (2143, [true, true, true, true, true, true, false, false, false, false], [zz (.aload_n 1), zz (.aload_n 0), zz (.iload 5), zz (.iconst 1), zz (.iadd), (8, .iaload, 418, 1, 0, [])]),
  (2150, [true, true, true, true, true, true, false, false, false, false], [zz (.aload 4), (6, .invokestatic 263, 229, 419, 562, [3, 2, 3400, 0, 0, 0, 0, 0, 0])]),
  (2155, [true, true, true, true, true, true, false, false, false, false], [zz (.istore 6), zz (.aload_n 2), zz (.aload_n 0), zz (.iload 5), zz (.iconst 1), zz (.iadd), (8, .iaload, 420, 1, 0, [])]),
  (2164, [true, true, true, true, true, true, true, false, false, false], [(6, .invokevirtual 266, 230, 421, 563, [2, 0, 3400, 11, 0, 0, 0, 0, 0])]),
  (2167, [true, true, true, true, true, true, true, false, false, false], [zz (.dstore 7), zz (.aload_n 2), (6, .invokevirtual 142, 67, 422, 493, [1, 0, 3400, 11, 0, 0, 0, 0, 0])]),
  (2173, [true, true, true, true, true, true, true, true, false, false], [zz (.iload 6), (3, .if_icmp .eq 5, 424, 423, 0, [])]),
  (2178, [false, false, false, false, false, false, false, false, false, false], [zz (.iconst 0), (5, .ireturn, 2, 0, 0, [])]),
  (2180, [true, true, true, true, true, true, true, true, false, false], [zz (.iload 6), (3, .ifCond .ne 35, 432, 425, 0, [])]),
  (2185, [true, true, true, true, true, true, false, true, false, false], [zz (.aload 4), zz (.iconst 0), (8, .daload, 426, 0, 0, [])]),
  (2189, [true, true, true, true, true, true, false, true, false, false], [zz (.dload 7), zz (.dcmp .l), (3, .ifCond .eq 25, 432, 427, 0, [])]),
  (2195, [true, true, true, true, true, true, false, true, false, false], [zz (.aload 4), zz (.iconst 0), (8, .daload, 428, 0, 0, [])]),
  (2199, [true, true, true, true, true, true, false, true, false, false], [zz (.aload 4), zz (.iconst 0), (8, .daload, 429, 0, 0, [])]),
  (2203, [true, true, true, true, true, true, false, true, false, false], [zz (.dcmp .l), (3, .ifCond .eq 11, 431, 430, 0, [])]),
  (2207, [true, true, true, true, true, true, false, true, false, false], [zz (.dload 7), zz (.dload 7), zz (.dcmp .l), (3, .ifCond .ne 5, 432, 431, 0, [])]),
  (2215, [false, false, false, false, false, false, false, false, false, false], [zz (.iconst 0), (5, .ireturn, 2, 0, 0, [])]),
  (2217, [true, true, true, true, true, true, false, false, false, false], [(2, .goto 297, 503, 0, 0, [])]),
  (2220, [true, true, true, true, true, true, false, false, false, false], [zz (.aload_n 1), (6, .invokevirtual 267, 234, 434, 564, [1, 0, 3400, 10, 0, 0, 0, 0, 0])]),
  (2224, [true, true, true, true, true, true, false, false, false, false], [zz (.aload_n 2), (6, .invokevirtual 270, 237, 435, 565, [1, 0, 3400, 11, 0, 0, 0, 0, 0])]),
  (2228, [true, true, true, true, true, true, false, false, false, false], [(3, .if_icmp .eq 286, 503, 436, 0, [])]),
  (2231, [false, false, false, false, false, false, false, false, false, false], [zz (.iconst 0), (5, .ireturn, 2, 0, 0, [])]),
  (2233, [true, true, true, true, true, true, false, false, false, false], [zz (.aload_n 1), zz (.aload_n 0), zz (.iload 5), zz (.iconst 1), zz (.iadd), (8, .iaload, 438, 1, 0, [])]),
  (2240, [true, true, true, true, true, true, false, false, false, false], [zz (.aload_n 3), (6, .invokestatic 271, 245, 439, 566, [3, 1, 3400, 0, 0, 0, 0, 0, 0])]),
  (2244, [true, true, true, true, true, true, false, false, false, false], [zz (.istore 6), zz (.aload_n 2), zz (.aload_n 0), zz (.iload 5), zz (.iconst 1), zz (.iadd), (8, .iaload, 440, 1, 0, [])]),
  (2253, [true, true, true, true, true, true, true, false, false, false], [(6, .invokevirtual 273, 250, 441, 567, [2, 0, 3400, 11, 0, 0, 0, 0, 0])]),
  (2256, [true, true, true, true, true, true, true, false, false, false], [zz (.istore 7), zz (.aload_n 2), (6, .invokevirtual 142, 67, 442, 493, [1, 0, 3400, 11, 0, 0, 0, 0, 0])]),
  (2262, [true, true, true, true, true, true, true, true, false, false], [zz (.iload 6), (3, .if_icmp .eq 5, 444, 443, 0, [])]),
  (2267, [false, false, false, false, false, false, false, false, false, false], [zz (.iconst 0), (5, .ireturn, 2, 0, 0, [])]),
  (2269, [true, true, true, true, true, true, true, true, false, false], [zz (.iload 6), (3, .ifCond .ne 15, 448, 445, 0, [])]),
  (2274, [true, true, true, true, true, true, false, true, false, false], [zz (.aload_n 3), zz (.iconst 0), (8, .laload, 446, 0, 0, [])]),
  (2277, [true, true, true, true, true, true, false, true, false, false], [zz (.iload 7), zz (.i2l), zz (.lcmp), (3, .ifCond .eq 5, 448, 447, 0, [])]),
  (2284, [false, false, false, false, false, false, false, false, false, false], [zz (.iconst 0), (5, .ireturn, 2, 0, 0, [])]),
  (2286, [true, true, true, true, true, true, false, false, false, false], [(2, .goto 228, 503, 0, 0, [])]),
  (2289, [true, true, true, true, true, true, false, false, false, false], [zz (.aload_n 1), zz (.aload_n 3), (6, .invokestatic 274, 254, 450, 568, [2, 1, 3400, 0, 0, 0, 0, 0, 0])]),
  (2294, [true, true, true, true, true, true, false, false, false, false], [zz (.istore 6), zz (.aload_n 2), (6, .invokevirtual 276, 255, 451, 569, [1, 0, 3400, 11, 0, 0, 0, 0, 0])]),
  (2300, [true, true, true, true, true, true, true, false, false, false], [zz (.istore 7), zz (.aload_n 2), (6, .invokevirtual 142, 67, 452, 493, [1, 0, 3400, 11, 0, 0, 0, 0, 0])]),
  (2306, [true, true, true, true, true, true, true, true, false, false], [zz (.iload 6), (3, .if_icmp .eq 5, 454, 453, 0, [])]),
  (2311, [false, false, false, false, false, false, false, false, false, false], [zz (.iconst 0), (5, .ireturn, 2, 0, 0, [])]),
  (2313, [true, true, true, true, true, true, true, true, false, false], [zz (.iload 6), (3, .ifCond .ne 22, 461, 455, 0, [])]),
  (2318, [true, true, true, true, true, true, false, true, false, false], [zz (.aload_n 3), zz (.iconst 0), (8, .laload, 456, 0, 0, [])]),
  (2321, [true, true, true, true, true, true, false, true, false, false], [zz (.iload 7), (3, .ifCond .eq 7, 458, 457, 0, [])]),
  (2326, [true, true, true, true, true, true, false, false, false, false], [zz (.lconst 1), (2, .goto 4, 459, 0, 0, [])]),
  (2330, [true, true, true, true, true, true, false, false, false, false], [zz (.lconst 0), (1, .return_, 459, 0, 0, [])]),
  (2331, [true, true, true, true, true, true, false, false, false, false], [zz (.lcmp), (3, .ifCond .eq 5, 461, 460, 0, [])]),
  (2335, [false, false, false, false, false, false, false, false, false, false], [zz (.iconst 0), (5, .ireturn, 2, 0, 0, [])]),
  (2337, [true, true, true, true, true, true, false, false, false, false], [(2, .goto 177, 503, 0, 0, [])]),
  (2340, [true, true, true, true, true, true, false, false, false, false], [zz (.aload_n 1), zz (.aload_n 3), (6, .invokestatic 277, 258, 463, 570, [2, 2, 3400, 0, 0, 0, 0, 0, 0])]),
  (2345, [true, true, true, true, true, true, false, false, false, false], [zz (.istore 6), zz (.aload_n 2), (6, .invokevirtual 279, 259, 464, 571, [1, 0, 3400, 11, 0, 0, 0, 0, 0])]),
  (2351, [true, true, true, true, true, true, true, false, false, false], [zz (.istore 7), zz (.aload_n 2), (6, .invokevirtual 142, 67, 465, 493, [1, 0, 3400, 11, 0, 0, 0, 0, 0])]),
  (2357, [true, true, true, true, true, true, true, true, false, false], [zz (.iload 6), (3, .if_icmp .eq 5, 467, 466, 0, [])]),
  (2362, [false, false, false, false, false, false, false, false, false, false], [zz (.iconst 0), (5, .ireturn, 2, 0, 0, [])]),
  (2364, [true, true, true, true, true, true, true, true, false, false], [zz (.iload 6), (3, .ifCond .ne 15, 471, 468, 0, [])]),
  (2369, [true, true, true, true, true, true, false, true, false, false], [zz (.aload_n 3), zz (.iconst 0), (8, .laload, 469, 0, 0, [])]),
  (2372, [true, true, true, true, true, true, false, true, false, false], [zz (.iload 7), zz (.i2l), zz (.lcmp), (3, .ifCond .eq 5, 471, 470, 0, [])]),
  (2379, [false, false, false, false, false, false, false, false, false, false], [zz (.iconst 0), (5, .ireturn, 2, 0, 0, [])]),
  (2381, [true, true, true, true, true, true, false, false, false, false], [(2, .goto 133, 503, 0, 0, [])]),
  (2384, [true, true, true, true, true, true, false, false, false, false], [zz (.aload_n 1), zz (.aload_n 0), zz (.iload 5), zz (.iconst 1), zz (.iadd), (8, .iaload, 473, 1, 0, [])]),
  (2391, [true, true, true, true, true, true, false, false, false, false], [zz (.i2c), (6, .invokestatic 280, 262, 474, 572, [2, 1, 3400, 0, 0, 0, 0, 0, 0])]),
  (2395, [true, true, true, true, true, true, false, false, false, false], [zz (.istore 6), zz (.aload_n 2), zz (.aload_n 0), zz (.iload 5), zz (.iconst 1), zz (.iadd), (8, .iaload, 475, 1, 0, [])]),
  (2404, [true, true, true, true, true, true, true, false, false, false], [zz (.i2c), (6, .invokevirtual 283, 263, 476, 573, [2, 0, 3400, 11, 0, 0, 0, 0, 0])]),
  (2408, [true, true, true, true, true, true, true, false, false, false], [zz (.aload_n 2), (6, .invokevirtual 142, 67, 477, 493, [1, 0, 3400, 11, 0, 0, 0, 0, 0])]),
  (2412, [true, true, true, true, true, true, true, false, false, false], [zz (.iload 6), (3, .if_icmp .eq 5, 479, 478, 0, [])]),
  (2417, [false, false, false, false, false, false, false, false, false, false], [zz (.iconst 0), (5, .ireturn, 2, 0, 0, [])]),
  (2419, [true, true, true, true, true, true, false, false, false, false], [(2, .goto 95, 503, 0, 0, [])]),
  (2422, [true, true, true, true, true, true, false, false, false, false], [zz (.aload_n 1), zz (.aload_n 3), (6, .invokestatic 284, 276, 481, 574, [2, 1, 3400, 0, 0, 0, 0, 0, 0])]),
  (2427, [true, true, true, true, true, true, false, false, false, false], [zz (.istore 6), zz (.aload_n 2), (6, .invokevirtual 286, 285, 482, 575, [1, 0, 3400, 11, 0, 0, 0, 0, 0])]),
  (2433, [true, true, true, true, true, true, true, false, false, false], [zz (.istore 7), zz (.aload_n 2), (6, .invokevirtual 142, 67, 483, 493, [1, 0, 3400, 11, 0, 0, 0, 0, 0])]),
  (2439, [true, true, true, true, true, true, true, true, false, false], [zz (.iload 6), (3, .if_icmp .eq 5, 485, 484, 0, [])]),
  (2444, [false, false, false, false, false, false, false, false, false, false], [zz (.iconst 0), (5, .ireturn, 2, 0, 0, [])]),
  (2446, [true, true, true, true, true, true, true, true, false, false], [zz (.iload 6), (3, .ifCond .ne 15, 489, 486, 0, [])]),
  (2451, [true, true, true, true, true, true, false, true, false, false], [zz (.aload_n 3), zz (.iconst 0), (8, .laload, 487, 0, 0, [])]),
  (2454, [true, true, true, true, true, true, false, true, false, false], [zz (.iload 7), zz (.i2l), zz (.lcmp), (3, .ifCond .eq 5, 489, 488, 0, [])]),
  (2461, [false, false, false, false, false, false, false, false, false, false], [zz (.iconst 0), (5, .ireturn, 2, 0, 0, [])]),
  (2463, [true, true, true, true, true, true, false, false, false, false], [(2, .goto 51, 503, 0, 0, [])]),
  (2466, [true, true, true, true, true, true, false, false, false, false], [zz (.aload_n 1), (6, .invokevirtual 287, 286, 491, 576, [1, 0, 3400, 10, 0, 0, 0, 0, 0])]),
  (2470, [true, true, true, true, true, true, false, false, false, false], [zz (.aload_n 2), (6, .invokevirtual 290, 287, 492, 577, [1, 0, 3400, 11, 0, 0, 0, 0, 0])]),
  (2474, [true, true, true, true, true, true, false, false, false, false], [(3, .if_icmp .eq 40, 503, 493, 0, [])]),
  (2477, [false, false, false, false, false, false, false, false, false, false], [zz (.iconst 0), (5, .ireturn, 2, 0, 0, [])]),
  (2479, [true, true, true, true, true, true, false, false, false, false], [zz (.aload_n 1), (6, .invokevirtual 291, 294, 495, 578, [1, 0, 3400, 10, 0, 0, 0, 0, 0])]),
  (2483, [true, true, true, true, true, true, false, false, false, false], [zz (.aload_n 2), (6, .invokevirtual 294, 295, 496, 579, [1, 0, 3400, 11, 0, 0, 0, 0, 0])]),
  (2487, [true, true, true, true, true, true, false, false, false, false], [(2, .goto 27, 503, 0, 0, [])]),
  (2490, [true, true, true, true, true, true, false, false, false, false], [zz (.aload_n 1), (6, .invokestatic 295, 297, 498, 580, [1, 1, 3400, 0, 0, 0, 0, 0, 0])]),
  (2494, [true, true, true, true, true, true, false, false, false, false], [zz (.istore 6), zz (.aload_n 2), (6, .invokevirtual 298, 298, 499, 581, [1, 0, 3400, 11, 0, 0, 0, 0, 0])]),
  (2500, [true, true, true, true, true, true, true, false, false, false], [zz (.aload_n 2), (6, .invokevirtual 142, 67, 500, 493, [1, 0, 3400, 11, 0, 0, 0, 0, 0])]),
  (2504, [true, true, true, true, true, true, true, false, false, false], [zz (.iload 6), (3, .if_icmp .eq 5, 502, 501, 0, [])]),
  (2509, [false, false, false, false, false, false, false, false, false, false], [zz (.iconst 0), (5, .ireturn, 2, 0, 0, [])]),
  (2511, [true, true, true, true, true, true, false, false, false, false], [(2, .goto 3, 503, 0, 0, [])]),
  (2514, [true, true, true, true, true, true, false, false, false, false], [zz (.iinc 5 6), (2, .goto (-2489), 7, 0, 0, [])]),
  (2520, [false, false, false, false, false, false, false, false, false, false], [zz (.iconst 1), (5, .ireturn, 2, 0, 0, [])])])
end
section
/-! THE TABLE -/
noncomputable def ptab_0 : List mMt := [pm_0, pm_1, pm_2, pm_3, pm_4, pm_5, pm_6, pm_7, pm_8, pm_9, pm_10, pm_11, pm_12, pm_13, pm_14, pm_15]
def ztab_0 : List (Nat × Nat × List Nat) := [(2, 2, [131, 91, 130, 0]), (2, 1, [171, 93, 170, 0]), (1, 12, [189, 94, 188]), (2, 8, [165, 92, 164, 0]), (2, 3, [245, 95, 244, 0]), (2, 5, [282, 96, 281, 0]), (2, 6, [125, 90, 124, 0]), (2, 4, [341, 97, 340, 0]), (2, 0, [384, 98, 383, 0]), (2, 7, [409, 99, 408, 0]), (2, 9, [117, 89, 116, 0]), (2, 10, [1433, 100, 1432, 0]), (1, 9, [770, 89, 769]), (1, 9, [767, 89, 766]), (1, 9, [773, 89, 772]), (0, 2, [848, 91, 846, 847])]
noncomputable def ptab_1 : List mMt := [pm_16, pm_17, pm_18, pm_19, pm_20, pm_21, pm_22, pm_23, pm_24, pm_25, pm_26, pm_27, pm_28, pm_29, pm_30, pm_31]
def ztab_1 : List (Nat × Nat × List Nat) := [(0, 0, [490, 98, 488, 489]), (1, 9, [498, 89, 497]), (0, 2, [872, 91, 870, 871]), (1, 9, [471, 89, 470]), (0, 2, [555, 91, 553, 554]), (0, 2, [551, 91, 549, 550]), (0, 8, [534, 92, 532, 533]), (0, 8, [877, 92, 875, 876]), (0, 1, [506, 93, 504, 505]), (0, 1, [521, 93, 519, 520]), (0, 8, [568, 92, 567, 5]), (0, 1, [573, 93, 571, 572]), (0, 8, [530, 92, 528, 529]), (0, 8, [563, 92, 562, 4]), (0, 1, [515, 93, 513, 514]), (0, 2, [468, 91, 466, 467])]
noncomputable def ptab_2 : List mMt := [pm_32, pm_33, pm_34, pm_35, pm_36, pm_37, pm_38, pm_39, pm_40, pm_41, pm_42, pm_43, pm_44, pm_45, pm_46, pm_47]
def ztab_2 : List (Nat × Nat × List Nat) := [(0, 2, [464, 91, 462, 463]), (0, 8, [510, 92, 508, 509]), (0, 8, [584, 92, 582, 583]), (0, 8, [589, 92, 587, 588]), (0, 8, [596, 92, 594, 595]), (0, 8, [578, 92, 577, 6]), (0, 8, [559, 92, 557, 558]), (0, 5, [642, 96, 640, 641]), (0, 6, [888, 90, 887, 14]), (0, 6, [884, 90, 883, 13]), (0, 3, [502, 95, 501, 0]), (0, 8, [526, 92, 524, 525]), (0, 3, [539, 95, 538, 1]), (0, 3, [547, 95, 546, 3]), (0, 3, [543, 95, 542, 2]), (0, 3, [494, 95, 492, 493])]
noncomputable def ptab_3 : List mMt := [pm_48, pm_49, pm_50, pm_51, pm_52, pm_53, pm_54, pm_55, pm_56, pm_57, pm_58, pm_59, pm_60, pm_61, pm_62, pm_63]
def ztab_3 : List (Nat × Nat × List Nat) := [(0, 6, [868, 90, 866, 867]), (0, 9, [764, 89, 762, 763]), (1, 11, [758, 88, 757]), (1, 10, [1506, 100, 1505]), (1, 10, [1503, 100, 1502]), (0, 10, [1510, 100, 1509, 39]), (0, 10, [1514, 100, 1513, 40]), (0, 10, [1530, 100, 1529, 44]), (0, 10, [1526, 100, 1525, 43]), (0, 10, [1522, 100, 1521, 42]), (0, 10, [1538, 100, 1537, 46]), (0, 10, [1534, 100, 1533, 45]), (0, 10, [1546, 100, 1545, 48]), (0, 10, [1550, 100, 1549, 49]), (0, 10, [1558, 100, 1557, 51]), (0, 10, [1554, 100, 1553, 50])]
noncomputable def ptab_4 : List mMt := [pm_64, pm_65, pm_66, pm_67, pm_68, pm_69, pm_70, pm_71, pm_72, pm_73, pm_74, pm_75, pm_76, pm_77, pm_78, pm_79]
def ztab_4 : List (Nat × Nat × List Nat) := [(0, 10, [1542, 100, 1541, 47]), (0, 10, [1518, 100, 1517, 41]), (0, 10, [1500, 100, 1498, 1499]), (0, 10, [1496, 100, 1494, 1495]), (0, 2, [926, 91, 924, 925]), (0, 6, [922, 90, 920, 921]), (0, 9, [902, 89, 900, 901]), (1, 11, [897, 88, 896]), (0, 10, [1570, 100, 1569, 53]), (0, 10, [1566, 100, 1565, 52]), (0, 10, [1574, 100, 1573, 54]), (0, 10, [1578, 100, 1577, 55]), (0, 10, [1562, 100, 1560, 1561]), (0, 9, [460, 89, 458, 459]), (0, 10, [1582, 100, 1580, 1581]), (0, 9, [937, 89, 936, 15])]
noncomputable def ptab_5 : List mMt := [pm_80, pm_81, pm_82, pm_83, pm_84, pm_85, pm_86, pm_87, pm_88, pm_89, pm_90, pm_91, pm_92, pm_93, pm_94, pm_95]
def ztab_5 : List (Nat × Nat × List Nat) := [(0, 9, [943, 89, 942, 16]), (0, 9, [933, 89, 931, 932]), (1, 11, [929, 88, 928]), (1, 10, [1589, 100, 1588]), (0, 10, [1586, 100, 1584, 1585]), (0, 9, [952, 89, 950, 951]), (1, 11, [948, 88, 947]), (0, 10, [1593, 100, 1591, 1592]), (0, 9, [960, 89, 958, 959]), (1, 11, [956, 88, 955]), (0, 10, [1597, 100, 1595, 1596]), (0, 9, [967, 89, 965, 966]), (1, 11, [963, 88, 962]), (0, 10, [1601, 100, 1599, 1600]), (0, 8, [1000, 92, 998, 999]), (0, 2, [1012, 91, 1010, 1011])]
noncomputable def ptab_6 : List mMt := [pm_96, pm_97, pm_98, pm_99, pm_100, pm_101, pm_102, pm_103, pm_104, pm_105, pm_106, pm_107, pm_108, pm_109, pm_110, pm_111]
def ztab_6 : List (Nat × Nat × List Nat) := [(0, 8, [1008, 92, 1006, 1007]), (0, 9, [995, 89, 993, 994]), (1, 11, [972, 88, 971]), (0, 10, [1609, 100, 1608, 56]), (0, 10, [1605, 100, 1603, 1604]), (0, 9, [1019, 89, 1017, 1018]), (1, 11, [1015, 88, 1014]), (0, 10, [1613, 100, 1611, 1612]), (0, 8, [1035, 92, 1033, 1034]), (0, 9, [1031, 89, 1030, 17]), (0, 9, [1027, 89, 1025, 1026]), (1, 11, [1023, 88, 1022]), (0, 10, [1621, 100, 1620, 57]), (0, 10, [1617, 100, 1615, 1616]), (0, 9, [1045, 89, 1043, 1044]), (1, 11, [1041, 88, 1040])]
noncomputable def ptab_7 : List mMt := [pm_112, pm_113, pm_114, pm_115, pm_116, pm_117, pm_118, pm_119, pm_120, pm_121, pm_122, pm_123, pm_124, pm_125, pm_126, pm_127]
def ztab_7 : List (Nat × Nat × List Nat) := [(0, 10, [1625, 100, 1623, 1624]), (0, 9, [1052, 89, 1050, 1051]), (1, 11, [1048, 88, 1047]), (0, 10, [1629, 100, 1627, 1628]), (0, 8, [479, 92, 477, 478]), (0, 9, [475, 89, 473, 474]), (0, 10, [1637, 100, 1636, 58]), (0, 10, [1633, 100, 1631, 1632]), (0, 9, [1059, 89, 1057, 1058]), (1, 11, [1055, 88, 1054]), (0, 10, [1645, 100, 1644, 59]), (0, 10, [1641, 100, 1639, 1640]), (0, 5, [623, 96, 621, 622]), (0, 4, [617, 97, 615, 616]), (0, 4, [612, 97, 610, 611]), (0, 9, [1069, 89, 1067, 1068])]
noncomputable def ptab_8 : List mMt := [pm_128, pm_129, pm_130, pm_131, pm_132, pm_133, pm_134, pm_135, pm_136, pm_137, pm_138, pm_139, pm_140, pm_141, pm_142, pm_143]
def ztab_8 : List (Nat × Nat × List Nat) := [(1, 11, [1065, 88, 1064]), (0, 10, [1657, 100, 1656, 61]), (0, 10, [1653, 100, 1652, 60]), (0, 10, [1649, 100, 1647, 1648]), (0, 9, [1082, 89, 1081, 18]), (0, 9, [1078, 89, 1076, 1077]), (1, 11, [1074, 88, 1073]), (1, 10, [1668, 100, 1667]), (0, 10, [1665, 100, 1664, 62]), (1, 10, [1675, 100, 1674]), (0, 10, [1672, 100, 1671, 63]), (0, 10, [1661, 100, 1659, 1660]), (0, 9, [1111, 89, 1109, 1110]), (1, 11, [1088, 88, 1087]), (1, 10, [1682, 100, 1681]), (0, 10, [1679, 100, 1677, 1678])]
noncomputable def ptab_9 : List mMt := [pm_144, pm_145, pm_146, pm_147, pm_148, pm_149, pm_150, pm_151, pm_152, pm_153, pm_154, pm_155, pm_156, pm_157, pm_158, pm_159]
def ztab_9 : List (Nat × Nat × List Nat) := [(0, 9, [486, 89, 484, 485]), (0, 10, [1686, 100, 1684, 1685]), (0, 9, [1137, 89, 1135, 1136]), (1, 11, [1133, 88, 1132]), (0, 10, [1690, 100, 1688, 1689]), (1, 9, [1149, 89, 1148]), (0, 9, [1145, 89, 1143, 1144]), (1, 11, [1141, 88, 1140]), (0, 10, [1694, 100, 1692, 1693]), (0, 9, [1156, 89, 1154, 1155]), (1, 11, [1152, 88, 1151]), (0, 10, [1698, 100, 1696, 1697]), (0, 5, [638, 96, 636, 637]), (0, 4, [630, 97, 628, 629]), (0, 9, [1165, 89, 1163, 1164]), (1, 11, [1161, 88, 1160])]
noncomputable def ptab_10 : List mMt := [pm_160, pm_161, pm_162, pm_163, pm_164, pm_165, pm_166, pm_167, pm_168, pm_169, pm_170, pm_171, pm_172, pm_173, pm_174, pm_175]
def ztab_10 : List (Nat × Nat × List Nat) := [(1, 10, [1709, 100, 1708]), (0, 10, [1713, 100, 1712, 65]), (0, 10, [1706, 100, 1705, 64]), (0, 10, [1702, 100, 1700, 1701]), (0, 4, [1181, 97, 1180, 19]), (0, 4, [1177, 97, 1175, 1176]), (0, 9, [1173, 89, 1171, 1172]), (1, 11, [1169, 88, 1168]), (0, 10, [1721, 100, 1720, 66]), (0, 10, [1717, 100, 1715, 1716]), (0, 4, [608, 97, 607, 7]), (0, 4, [1196, 97, 1195, 20]), (0, 4, [1192, 97, 1190, 1191]), (0, 9, [1188, 89, 1186, 1187]), (1, 11, [1184, 88, 1183]), (0, 10, [1729, 100, 1728, 67])]
noncomputable def ptab_11 : List mMt := [pm_176, pm_177, pm_178, pm_179, pm_180, pm_181, pm_182, pm_183, pm_184, pm_185, pm_186, pm_187, pm_188, pm_189, pm_190, pm_191]
def ztab_11 : List (Nat × Nat × List Nat) := [(0, 10, [1725, 100, 1723, 1724]), (0, 4, [1208, 97, 1206, 1207]), (0, 9, [1204, 89, 1202, 1203]), (1, 11, [1200, 88, 1199]), (0, 10, [1733, 100, 1731, 1732]), (0, 4, [604, 97, 602, 603]), (0, 9, [600, 89, 598, 599]), (0, 10, [1737, 100, 1735, 1736]), (0, 4, [652, 97, 650, 651]), (0, 9, [648, 89, 646, 647]), (0, 10, [1741, 100, 1739, 1740]), (0, 4, [673, 97, 671, 672]), (0, 4, [1225, 97, 1224, 21]), (0, 4, [1221, 97, 1219, 1220]), (0, 9, [1216, 89, 1214, 1215]), (1, 11, [1212, 88, 1211])]
noncomputable def ptab_12 : List mMt := [pm_192, pm_193, pm_194, pm_195, pm_196, pm_197, pm_198, pm_199, pm_200, pm_201, pm_202, pm_203, pm_204, pm_205, pm_206, pm_207]
def ztab_12 : List (Nat × Nat × List Nat) := [(0, 10, [1749, 100, 1748, 68]), (0, 10, [1745, 100, 1743, 1744]), (0, 9, [1237, 89, 1236, 22]), (0, 4, [1247, 97, 1246, 23]), (0, 4, [1243, 97, 1241, 1242]), (0, 9, [1233, 89, 1231, 1232]), (1, 11, [1229, 88, 1228]), (0, 10, [1757, 100, 1756, 69]), (0, 10, [1753, 100, 1751, 1752]), (0, 4, [669, 97, 668, 9]), (0, 4, [665, 97, 664, 8]), (0, 4, [660, 97, 658, 659]), (0, 9, [656, 89, 654, 655]), (0, 10, [1765, 100, 1764, 70]), (0, 10, [1761, 100, 1759, 1760]), (0, 4, [1258, 97, 1256, 1257])]
noncomputable def ptab_13 : List mMt := [pm_208, pm_209, pm_210, pm_211, pm_212, pm_213, pm_214, pm_215, pm_216, pm_217, pm_218, pm_219, pm_220, pm_221, pm_222, pm_223]
def ztab_13 : List (Nat × Nat × List Nat) := [(0, 9, [1254, 89, 1252, 1253]), (1, 11, [1250, 88, 1249]), (0, 10, [1769, 100, 1767, 1768]), (0, 9, [1265, 89, 1263, 1264]), (1, 11, [1261, 88, 1260]), (0, 10, [1773, 100, 1771, 1772]), (0, 4, [685, 97, 684, 10]), (0, 4, [681, 97, 679, 680]), (0, 9, [677, 89, 675, 676]), (0, 10, [1785, 100, 1784, 72]), (0, 10, [1781, 100, 1780, 71]), (0, 10, [1777, 100, 1775, 1776]), (0, 9, [1273, 89, 1271, 1272]), (1, 11, [1269, 88, 1268]), (0, 10, [1789, 100, 1787, 1788]), (0, 4, [693, 97, 691, 692])]
noncomputable def ptab_14 : List mMt := [pm_224, pm_225, pm_226, pm_227, pm_228, pm_229, pm_230, pm_231, pm_232, pm_233, pm_234, pm_235, pm_236, pm_237, pm_238, pm_239]
def ztab_14 : List (Nat × Nat × List Nat) := [(0, 9, [689, 89, 687, 688]), (0, 10, [1797, 100, 1796, 73]), (0, 10, [1793, 100, 1791, 1792]), (0, 4, [1286, 97, 1284, 1285]), (0, 9, [1281, 89, 1279, 1280]), (1, 11, [1277, 88, 1276]), (0, 10, [1801, 100, 1799, 1800]), (0, 1, [705, 93, 703, 704]), (0, 4, [710, 97, 709, 11]), (0, 4, [701, 97, 699, 700]), (0, 9, [697, 89, 695, 696]), (0, 10, [1813, 100, 1812, 75]), (0, 10, [1809, 100, 1808, 74]), (0, 10, [1805, 100, 1803, 1804]), (0, 0, [1308, 98, 1307, 25]), (0, 0, [1303, 98, 1302, 24])]
noncomputable def ptab_15 : List mMt := [pm_240, pm_241, pm_242, pm_243, pm_244, pm_245, pm_246, pm_247, pm_248, pm_249, pm_250, pm_251, pm_252, pm_253, pm_254, pm_255]
def ztab_15 : List (Nat × Nat × List Nat) := [(0, 0, [1318, 98, 1317, 27]), (0, 0, [1314, 98, 1313, 26]), (0, 0, [1324, 98, 1323, 28]), (0, 0, [1298, 98, 1296, 1297]), (0, 9, [1293, 89, 1291, 1292]), (1, 11, [1289, 88, 1288]), (0, 10, [1825, 100, 1824, 77]), (0, 10, [1821, 100, 1820, 76]), (0, 10, [1829, 100, 1828, 78]), (0, 10, [1833, 100, 1832, 79]), (0, 10, [1817, 100, 1815, 1816]), (0, 9, [1336, 89, 1335, 29]), (0, 0, [1341, 98, 1339, 1340]), (0, 9, [1332, 89, 1330, 1331]), (1, 11, [1328, 88, 1327]), (0, 10, [1837, 100, 1835, 1836])]
noncomputable def ptab_16 : List mMt := [pm_256, pm_257, pm_258, pm_259, pm_260, pm_261, pm_262, pm_263, pm_264, pm_265, pm_266, pm_267, pm_268, pm_269, pm_270, pm_271]
def ztab_16 : List (Nat × Nat × List Nat) := [(0, 0, [1353, 98, 1351, 1352]), (0, 9, [1348, 89, 1346, 1347]), (1, 11, [1344, 88, 1343]), (0, 10, [1841, 100, 1839, 1840]), (0, 7, [1365, 99, 1363, 1364]), (0, 9, [1360, 89, 1358, 1359]), (1, 11, [1356, 88, 1355]), (0, 10, [1845, 100, 1843, 1844]), (0, 7, [1392, 99, 1391, 33]), (0, 7, [1388, 99, 1387, 32]), (0, 7, [1396, 99, 1395, 34]), (0, 7, [1384, 99, 1383, 31]), (0, 7, [1408, 99, 1407, 37]), (0, 7, [1404, 99, 1403, 36]), (0, 7, [1412, 99, 1411, 38]), (0, 7, [1400, 99, 1399, 35])]
noncomputable def ptab_17 : List mMt := [pm_272, pm_273, pm_274, pm_275, pm_276, pm_277, pm_278, pm_279, pm_280, pm_281, pm_282, pm_283, pm_284, pm_285, pm_286, pm_287]
def ztab_17 : List (Nat × Nat × List Nat) := [(0, 7, [1380, 99, 1379, 30]), (0, 7, [1376, 99, 1374, 1375]), (0, 7, [1419, 99, 1417, 1418]), (0, 9, [1372, 89, 1370, 1371]), (1, 11, [1368, 88, 1367]), (0, 10, [1869, 100, 1868, 84]), (0, 10, [1865, 100, 1864, 83]), (0, 10, [1877, 100, 1876, 86]), (0, 10, [1873, 100, 1872, 85]), (0, 10, [1861, 100, 1860, 82]), (0, 10, [1857, 100, 1856, 81]), (0, 10, [1853, 100, 1852, 80]), (0, 10, [1881, 100, 1880, 87]), (0, 10, [1849, 100, 1847, 1848]), (0, 9, [720, 89, 718, 719]), (0, 10, [1885, 100, 1883, 1884])]
noncomputable def ptab_18 : List mMt := [pm_288, pm_289, pm_290, pm_291, pm_292, pm_293, pm_294, pm_295, pm_296, pm_297, pm_298, pm_299]
def ztab_18 : List (Nat × Nat × List Nat) := [(1, 9, [735, 89, 734]), (0, 2, [732, 91, 730, 731]), (0, 8, [743, 92, 741, 742]), (0, 3, [749, 95, 747, 748]), (0, 5, [754, 96, 752, 753]), (0, 6, [728, 90, 726, 727]), (0, 9, [724, 89, 722, 723]), (0, 10, [1889, 100, 1887, 1888]), (0, 9, [1427, 89, 1425, 1426]), (1, 11, [1423, 88, 1422]), (0, 10, [1893, 100, 1891, 1892]), (1, 11, [0, 88, 0])]
noncomputable def ptab : List (List mMt) := [ptab_0, ptab_1, ptab_2, ptab_3, ptab_4, ptab_5, ptab_6, ptab_7, ptab_8, ptab_9, ptab_10, ptab_11, ptab_12, ptab_13, ptab_14, ptab_15, ptab_16, ptab_17, ptab_18]
def ztab : List (List (Nat × Nat × List Nat)) := [ztab_0, ztab_1, ztab_2, ztab_3, ztab_4, ztab_5, ztab_6, ztab_7, ztab_8, ztab_9, ztab_10, ztab_11, ztab_12, ztab_13, ztab_14, ztab_15, ztab_16, ztab_17, ztab_18]
noncomputable def prog : mP := fun m => (ptab.getD (m / 16) []).getD (m % 16) pm_0
def zprog : mZ := fun m => (ztab.getD (m / 16) []).getD (m % 16) (1, 0, [])
def ktab_0 : List mLk := [(132, 5, 2, 3, 4, 0), (133, 0, 2, 9, 2, 0), (134, 0, 2, 15, 2, 1), (137, 0, 2, 18, 2, 2), (140, 0, 2, 21, 2, 3), (141, 0, 2, 24, 2, 4), (144, 0, 2, 28, 2, 5), (172, 5, 1, 3, 4, 0), (173, 0, 1, 9, 1, 0), (175, 0, 1, 15, 1, 1), (166, 5, 8, 3, 4, 0), (192, 0, 8, 9, 8, 1), (193, 0, 8, 15, 8, 2), (196, 0, 8, 18, 8, 3), (199, 0, 8, 21, 8, 4), (200, 0, 8, 24, 8, 5)]
def ktab_1 : List mLk := [(201, 0, 8, 27, 8, 6), (202, 0, 8, 30, 8, 7), (203, 0, 8, 33, 8, 8), (167, 6, 8, 36, 1, 0), (169, 2, 8, 38, 1, 0), (205, 0, 8, 39, 8, 9), (210, 0, 8, 43, 8, 10), (211, 0, 8, 46, 8, 11), (190, 0, 8, 50, 8, 0), (187, 1, 8, 54, 2, 0), (246, 5, 3, 3, 4, 0), (251, 0, 3, 9, 3, 2), (247, 6, 3, 15, 1, 0), (248, 2, 3, 17, 1, 0), (253, 0, 3, 18, 3, 3), (254, 0, 3, 22, 3, 4)]
def ktab_2 : List mLk := [(255, 0, 3, 25, 3, 5), (256, 0, 3, 28, 3, 6), (257, 0, 3, 31, 3, 7), (258, 0, 3, 34, 3, 8), (249, 0, 3, 38, 3, 0), (250, 0, 3, 42, 3, 1), (283, 5, 5, 3, 4, 0), (284, 4, 5, 9, 0, 0), (286, 5, 5, 13, 6, 0), (292, 9, 5, 14, 0, 0), (293, 0, 5, 18, 5, 0), (295, 0, 5, 23, 5, 1), (298, 0, 5, 26, 5, 2), (301, 0, 5, 29, 5, 3), (304, 0, 5, 32, 5, 4), (126, 5, 6, 3, 4, 0)]
def ktab_3 : List mLk := [(127, 6, 6, 9, 2, 0), (129, 2, 6, 11, 0, 0), (317, 0, 6, 12, 6, 0), (161, 6, 6, 18, 8, 0), (163, 1, 6, 20, 3, 0), (320, 0, 6, 23, 6, 1), (241, 6, 6, 27, 3, 0), (243, 1, 6, 29, 4, 0), (323, 0, 6, 32, 6, 2), (278, 6, 6, 36, 5, 0), (280, 2, 6, 38, 5, 0), (325, 0, 6, 39, 6, 3), (342, 5, 4, 3, 4, 0), (343, 6, 4, 9, 1, 0), (344, 2, 4, 11, 1, 0), (348, 0, 4, 12, 4, 3)]
def ktab_4 : List mLk := [(350, 0, 4, 18, 4, 4), (351, 0, 4, 22, 4, 5), (352, 0, 4, 25, 4, 6), (353, 0, 4, 28, 4, 7), (355, 0, 4, 32, 4, 8), (357, 0, 4, 35, 4, 9), (318, 0, 4, 38, 6, 0), (345, 0, 4, 44, 4, 0), (322, 0, 4, 45, 6, 1), (346, 0, 4, 49, 4, 1), (326, 0, 4, 50, 6, 3), (347, 0, 4, 54, 4, 2), (385, 5, 0, 3, 4, 0), (386, 6, 0, 9, 1, 0), (387, 2, 0, 11, 1, 0), (389, 0, 0, 12, 0, 1)]
def ktab_5 : List mLk := [(390, 0, 0, 18, 0, 2), (391, 0, 0, 21, 0, 3), (392, 0, 0, 25, 0, 4), (388, 0, 0, 29, 0, 0), (410, 5, 7, 3, 4, 0), (411, 0, 7, 9, 7, 0), (412, 0, 7, 15, 7, 1), (413, 0, 7, 19, 7, 2), (415, 0, 7, 23, 7, 3), (416, 0, 7, 26, 7, 4), (418, 0, 7, 29, 7, 5), (420, 0, 7, 32, 7, 6), (118, 5, 9, 1, 4, 0), (121, 6, 9, 7, 6, 0), (123, 2, 9, 9, 6, 0), (438, 0, 9, 10, 9, 0)]
def ktab_6 : List mLk := [(439, 0, 9, 16, 9, 1), (337, 6, 9, 19, 4, 0), (339, 1, 9, 21, 7, 0), (440, 0, 9, 24, 9, 2), (380, 6, 9, 28, 0, 0), (321, 0, 9, 30, 6, 1), (382, 1, 9, 34, 8, 0), (441, 0, 9, 37, 9, 3), (405, 6, 9, 41, 7, 0), (407, 2, 9, 43, 9, 0), (442, 0, 9, 44, 9, 4), (443, 0, 9, 48, 9, 5), (1434, 5, 10, 1, 4, 0), (1435, 0, 10, 7, 10, 0), (1436, 0, 10, 13, 10, 1), (1439, 0, 10, 16, 10, 4)]
def ktab_7 : List mLk := [(1441, 0, 10, 19, 10, 6), (1442, 0, 10, 22, 10, 7), (1444, 0, 10, 25, 10, 9), (1447, 0, 10, 28, 10, 12), (1451, 0, 10, 31, 10, 16), (1452, 0, 10, 35, 10, 17), (768, 1, 9, 132, 12, 0), (873, 2, 2, 43, 17, 0), (469, 2, 2, 35, 19, 0), (552, 1, 2, 39, 20, 0), (535, 2, 8, 73, 17, 0), (878, 1, 8, 77, 21, 0), (511, 2, 8, 60, 19, 0), (879, 1, 8, 83, 22, 0), (522, 2, 1, 23, 17, 0), (569, 1, 8, 124, 25, 0)]
def ktab_8 : List mLk := [(516, 2, 1, 19, 19, 0), (564, 1, 8, 114, 24, 0), (565, 1, 8, 117, 26, 0), (181, 0, 8, 87, 1, 1), (570, 1, 8, 120, 27, 0), (527, 1, 8, 70, 28, 0), (465, 1, 2, 31, 31, 0), (579, 1, 8, 127, 32, 0), (580, 1, 8, 131, 33, 0), (581, 1, 8, 134, 34, 0), (585, 1, 8, 94, 20, 0), (586, 1, 8, 137, 35, 0), (590, 5, 8, 140, 2, 0), (593, 1, 8, 143, 36, 0), (480, 5, 8, 64, 1, 0), (560, 1, 8, 107, 29, 0)]
def ktab_9 : List mLk := [(574, 1, 8, 90, 30, 0), (575, 1, 8, 110, 37, 0), (624, 2, 5, 35, 19, 0), (889, 1, 6, 74, 28, 0), (890, 1, 6, 78, 33, 0), (891, 5, 6, 81, 1, 0), (892, 1, 6, 86, 39, 0), (885, 1, 6, 62, 40, 0), (194, 0, 6, 66, 8, 2), (893, 2, 6, 70, 19, 0), (503, 1, 3, 84, 24, 0), (204, 0, 3, 87, 8, 8), (495, 2, 3, 46, 19, 0), (507, 1, 3, 90, 33, 0), (206, 0, 3, 93, 8, 9), (512, 1, 3, 96, 30, 0)]
def ktab_10 : List mLk := [(517, 1, 3, 99, 32, 0), (518, 1, 3, 105, 25, 0), (496, 2, 3, 50, 17, 0), (548, 1, 3, 112, 21, 0), (174, 0, 3, 116, 1, 0), (544, 1, 3, 108, 45, 0), (531, 1, 3, 67, 22, 0), (536, 1, 3, 74, 44, 0), (499, 1, 3, 54, 42, 0), (176, 0, 3, 58, 1, 1), (523, 1, 3, 61, 43, 0), (197, 0, 3, 71, 8, 3), (540, 1, 3, 78, 46, 0), (556, 1, 3, 81, 38, 0), (869, 1, 6, 43, 18, 0), (874, 1, 6, 47, 23, 0)]
def ktab_11 : List mLk := [(880, 1, 6, 51, 38, 0), (881, 1, 6, 54, 41, 0), (894, 1, 6, 58, 47, 0), (765, 1, 9, 52, 13, 0), (771, 1, 9, 56, 14, 0), (774, 7, 9, 60, 0, 0), (818, 8, 9, 62, 0, 0), (319, 0, 9, 67, 6, 0), (845, 1, 9, 71, 15, 0), (849, 7, 9, 77, 1, 0), (858, 8, 9, 79, 0, 0), (487, 1, 9, 82, 16, 0), (865, 1, 9, 85, 48, 0), (761, 1, 11, 7, 49, 0), (1504, 1, 10, 41, 51, 0), (1438, 0, 10, 38, 10, 3)]
def ktab_12 : List mLk := [(1527, 1, 10, 72, 55, 0), (1523, 1, 10, 86, 56, 0), (1535, 1, 10, 55, 58, 0), (1440, 0, 10, 65, 10, 5), (1547, 1, 10, 68, 61, 0), (1555, 1, 10, 75, 62, 0), (1551, 1, 10, 79, 63, 0), (1543, 1, 10, 83, 60, 0), (1519, 1, 10, 90, 57, 0), (1443, 0, 10, 93, 10, 8), (1531, 1, 10, 97, 59, 0), (1539, 1, 10, 100, 64, 0), (1501, 1, 10, 103, 52, 0), (1507, 1, 10, 106, 53, 0), (1511, 1, 10, 109, 54, 0), (1515, 1, 10, 113, 65, 0)]
def ktab_13 : List mLk := [(923, 1, 6, 89, 68, 0), (207, 0, 6, 92, 8, 9), (179, 0, 6, 96, 1, 1), (146, 0, 6, 102, 2, 5), (212, 0, 6, 105, 8, 11), (461, 1, 9, 89, 32, 0), (903, 7, 9, 92, 2, 0), (912, 8, 9, 94, 0, 0), (919, 1, 9, 97, 69, 0), (145, 0, 9, 101, 2, 5), (899, 1, 11, 17, 70, 0), (1567, 1, 10, 45, 72, 0), (1563, 1, 10, 49, 73, 0), (1571, 1, 10, 117, 74, 0), (1575, 1, 10, 120, 75, 0), (938, 1, 9, 395, 31, 0)]
def ktab_14 : List mLk := [(939, 8, 9, 398, 0, 0), (944, 8, 9, 412, 0, 0), (934, 1, 9, 105, 79, 0), (940, 1, 9, 108, 80, 0), (945, 1, 9, 111, 20, 0), (930, 1, 11, 23, 81, 0), (1587, 1, 10, 123, 83, 0), (135, 0, 9, 115, 2, 1), (953, 1, 9, 119, 19, 0), (949, 1, 11, 27, 85, 0), (139, 0, 9, 123, 2, 2), (957, 1, 11, 30, 88, 0), (968, 8, 9, 126, 0, 0), (969, 1, 9, 128, 17, 0), (964, 1, 11, 33, 91, 0), (1001, 2, 8, 97, 13, 0)]
def ktab_15 : List mLk := [(1009, 1, 8, 100, 95, 0), (745, 1, 8, 104, 38, 0), (996, 8, 9, 135, 0, 0), (997, 1, 9, 137, 94, 0), (1002, 7, 9, 142, 4, 0), (1003, 8, 9, 144, 0, 0), (1005, 1, 9, 147, 96, 0), (209, 0, 9, 151, 8, 9), (180, 0, 9, 155, 1, 1), (992, 1, 11, 37, 97, 0), (1606, 1, 10, 126, 99, 0), (214, 0, 9, 160, 8, 11), (1020, 8, 9, 163, 0, 0), (1016, 1, 11, 42, 101, 0), (1032, 1, 9, 400, 104, 0), (1036, 8, 9, 403, 0, 0)]
def ktab_16 : List mLk := [(1028, 1, 9, 165, 105, 0), (1037, 8, 9, 168, 0, 0), (1038, 1, 9, 170, 28, 0), (1024, 1, 11, 46, 106, 0), (1618, 1, 10, 130, 108, 0), (195, 0, 9, 173, 8, 2), (1042, 1, 11, 49, 110, 0), (198, 0, 9, 176, 8, 3), (1049, 1, 11, 52, 113, 0), (476, 1, 9, 179, 116, 0), (1634, 1, 10, 62, 118, 0), (1060, 8, 9, 183, 0, 0), (1061, 1, 9, 185, 33, 0), (1062, 1, 9, 189, 34, 0), (1056, 1, 11, 55, 120, 0), (1642, 1, 10, 59, 122, 0)]
def ktab_17 : List mLk := [(618, 1, 4, 55, 32, 0), (138, 0, 4, 61, 2, 2), (619, 2, 4, 64, 19, 0), (620, 1, 4, 68, 124, 0), (613, 1, 4, 73, 24, 0), (142, 0, 4, 76, 2, 4), (614, 1, 4, 79, 125, 0), (625, 1, 4, 82, 25, 0), (178, 0, 4, 86, 1, 1), (143, 0, 9, 192, 2, 4), (1070, 1, 9, 195, 126, 0), (1071, 8, 9, 198, 0, 0), (1066, 1, 11, 58, 127, 0), (1654, 1, 10, 52, 129, 0), (1650, 1, 10, 133, 130, 0), (1083, 8, 9, 405, 0, 0)]
def ktab_18 : List mLk := [(1079, 1, 9, 200, 132, 0), (1084, 1, 9, 203, 35, 0), (1085, 1, 9, 206, 36, 0), (1075, 1, 11, 61, 133, 0), (1662, 1, 10, 136, 136, 0), (1666, 1, 10, 140, 135, 0), (1669, 1, 10, 143, 138, 0), (1673, 1, 10, 146, 137, 0), (1112, 7, 9, 209, 3, 0), (1121, 8, 9, 211, 0, 0), (1125, 3, 9, 214, 1, 0), (1127, 3, 9, 217, 2, 0), (1129, 8, 9, 220, 0, 0), (327, 0, 9, 222, 6, 3), (1130, 1, 9, 226, 39, 0), (294, 0, 9, 231, 5, 0)]
def ktab_19 : List mLk := [(1108, 1, 11, 64, 140, 0), (1680, 1, 10, 149, 142, 0), (324, 0, 9, 234, 6, 2), (491, 1, 9, 238, 47, 0), (1138, 8, 9, 244, 0, 0), (252, 0, 9, 246, 3, 2), (1134, 1, 11, 69, 146, 0), (1146, 8, 9, 249, 0, 0), (297, 0, 9, 251, 5, 1), (1147, 1, 9, 254, 149, 0), (1142, 1, 11, 72, 150, 0), (1157, 8, 9, 258, 0, 0), (1158, 1, 9, 260, 124, 0), (305, 0, 9, 263, 5, 4), (1153, 1, 11, 76, 153, 0), (639, 1, 5, 39, 39, 0)]
def ktab_20 : List mLk := [(643, 5, 5, 43, 1, 0), (296, 0, 4, 103, 5, 1), (631, 1, 4, 89, 20, 0), (632, 5, 4, 93, 3, 0), (635, 1, 4, 99, 156, 0), (1166, 1, 9, 266, 157, 0), (1162, 1, 11, 80, 158, 0), (1707, 1, 10, 153, 160, 0), (1710, 1, 10, 156, 161, 0), (1703, 1, 10, 159, 162, 0), (712, 1, 4, 109, 35, 0), (714, 1, 4, 114, 36, 0), (713, 5, 4, 117, 1, 0), (1178, 1, 4, 106, 164, 0), (1174, 1, 9, 269, 165, 0), (1170, 1, 11, 83, 166, 0)]
def ktab_21 : List mLk := [(1718, 1, 10, 162, 168, 0), (609, 1, 4, 120, 126, 0), (626, 1, 4, 124, 30, 0), (627, 1, 4, 127, 157, 0), (644, 2, 4, 130, 17, 0), (605, 1, 4, 134, 170, 0), (1193, 1, 4, 137, 171, 0), (1189, 1, 9, 272, 172, 0), (1197, 8, 9, 275, 0, 0), (1185, 1, 11, 86, 173, 0), (1726, 1, 10, 165, 175, 0), (1205, 1, 9, 277, 177, 0), (1209, 8, 9, 280, 0, 0), (1201, 1, 11, 89, 178, 0), (601, 1, 9, 282, 181, 0), (136, 0, 4, 140, 2, 1)]
def ktab_22 : List mLk := [(649, 1, 9, 285, 184, 0), (670, 1, 4, 147, 187, 0), (1222, 1, 4, 143, 188, 0), (1217, 8, 9, 289, 0, 0), (1218, 1, 9, 291, 189, 0), (354, 0, 9, 294, 4, 7), (1226, 8, 9, 297, 0, 0), (356, 0, 9, 299, 4, 8), (358, 0, 9, 302, 4, 9), (1213, 1, 11, 92, 190, 0), (1746, 1, 10, 168, 192, 0), (1238, 1, 9, 407, 125, 0), (1239, 8, 9, 410, 0, 0), (1244, 1, 4, 150, 195, 0), (1234, 1, 9, 305, 194, 0), (1240, 1, 9, 308, 196, 0)]
def ktab_23 : List mLk := [(1230, 1, 11, 95, 197, 0), (1754, 1, 10, 171, 199, 0), (666, 1, 4, 162, 201, 0), (661, 1, 4, 153, 2, 0), (662, 1, 4, 159, 202, 0), (657, 1, 9, 311, 203, 0), (1762, 1, 10, 174, 205, 0), (1255, 1, 9, 314, 207, 0), (1251, 1, 11, 98, 208, 0), (1266, 8, 9, 317, 0, 0), (300, 0, 9, 319, 5, 2), (303, 0, 9, 322, 5, 3), (1262, 1, 11, 101, 211, 0), (299, 0, 4, 169, 5, 2), (302, 0, 4, 172, 5, 3), (682, 1, 4, 166, 214, 0)]
def ktab_24 : List mLk := [(678, 1, 9, 325, 215, 0), (1782, 1, 10, 177, 217, 0), (1778, 1, 10, 180, 218, 0), (349, 0, 9, 328, 4, 3), (1274, 1, 9, 331, 30, 0), (1270, 1, 11, 105, 220, 0), (690, 1, 9, 334, 223, 0), (1794, 1, 10, 183, 225, 0), (1282, 8, 9, 337, 0, 0), (1283, 1, 9, 339, 227, 0), (1278, 1, 11, 108, 228, 0), (706, 1, 1, 27, 25, 0), (711, 1, 4, 187, 34, 0), (715, 5, 4, 190, 2, 0), (215, 0, 4, 175, 8, 11), (702, 1, 4, 178, 231, 0)]
def ktab_25 : List mLk := [(707, 1, 4, 181, 232, 0), (716, 1, 4, 184, 28, 0), (698, 1, 9, 342, 233, 0), (1810, 1, 10, 186, 235, 0), (1806, 1, 10, 189, 236, 0), (191, 0, 0, 52, 8, 0), (1309, 1, 0, 58, 32, 0), (1310, 1, 0, 64, 25, 0), (208, 0, 0, 68, 8, 9), (177, 0, 0, 33, 1, 1), (1304, 1, 0, 36, 30, 0), (1305, 1, 0, 71, 238, 0), (1319, 1, 0, 84, 28, 0), (213, 0, 0, 74, 8, 11), (1315, 1, 0, 77, 240, 0), (1320, 1, 0, 80, 27, 0)]
def ktab_26 : List mLk := [(1325, 1, 0, 88, 231, 0), (1299, 1, 0, 40, 24, 0), (1300, 1, 0, 43, 239, 0), (1311, 1, 0, 46, 241, 0), (1321, 1, 0, 49, 242, 0), (1294, 8, 9, 345, 0, 0), (1295, 1, 9, 347, 243, 0), (1290, 1, 11, 112, 244, 0), (1445, 0, 10, 192, 10, 10), (1822, 1, 10, 195, 246, 0), (1818, 1, 10, 198, 247, 0), (1826, 1, 10, 201, 248, 0), (1830, 1, 10, 204, 249, 0), (1446, 0, 10, 208, 10, 11), (393, 0, 9, 414, 0, 4), (1337, 8, 9, 417, 0, 0)]
def ktab_27 : List mLk := [(1333, 1, 9, 350, 251, 0), (1338, 1, 9, 353, 252, 0), (1329, 1, 11, 115, 253, 0), (1349, 8, 9, 357, 0, 0), (1350, 1, 9, 359, 256, 0), (1345, 1, 11, 119, 257, 0), (414, 0, 9, 362, 7, 2), (1361, 8, 9, 365, 0, 0), (1362, 1, 9, 367, 260, 0), (1357, 1, 11, 122, 261, 0), (1448, 0, 10, 211, 10, 13), (1389, 1, 7, 67, 264, 0), (1385, 1, 7, 51, 265, 0), (1393, 1, 7, 71, 266, 0), (1405, 1, 7, 74, 268, 0), (1413, 2, 7, 63, 17, 0)]
def ktab_28 : List mLk := [(1401, 1, 7, 55, 269, 0), (1409, 1, 7, 59, 270, 0), (1381, 1, 7, 43, 267, 0), (1397, 1, 7, 47, 271, 0), (1377, 1, 7, 40, 272, 0), (1420, 2, 7, 36, 19, 0), (1373, 1, 9, 371, 273, 0), (419, 0, 9, 374, 7, 5), (421, 0, 9, 377, 7, 6), (1414, 8, 9, 380, 0, 0), (417, 0, 9, 382, 7, 4), (1415, 8, 9, 385, 0, 0), (1416, 1, 9, 387, 274, 0), (1369, 1, 11, 126, 275, 0), (1449, 0, 10, 214, 10, 14), (1866, 1, 10, 217, 277, 0)]
def ktab_29 : List mLk := [(1450, 0, 10, 220, 10, 15), (1874, 1, 10, 223, 279, 0), (1862, 1, 10, 227, 278, 0), (1870, 1, 10, 230, 280, 0), (1453, 0, 10, 233, 10, 18), (1858, 1, 10, 236, 281, 0), (1854, 1, 10, 239, 282, 0), (1850, 1, 10, 242, 283, 0), (1878, 1, 10, 245, 284, 0), (736, 5, 9, 419, 2, 0), (737, 5, 9, 424, 5, 0), (733, 2, 2, 47, 288, 0), (744, 2, 8, 146, 288, 0), (750, 2, 3, 119, 288, 0), (755, 2, 5, 49, 288, 0), (729, 1, 6, 108, 289, 0)]
def ktab_30 : List mLk := [(740, 1, 6, 111, 290, 0), (746, 1, 6, 114, 291, 0), (751, 1, 6, 117, 292, 0), (725, 1, 9, 390, 293, 0), (1437, 0, 10, 248, 10, 2), (1428, 8, 9, 393, 0, 0), (1424, 1, 11, 129, 296, 0), (113, 6, 11, 8, 9, 0), (115, 1, 11, 132, 10, 0), (1429, 6, 11, 133, 10, 0), (1431, 1, 11, 135, 11, 0), (756, 1, 11, 136, 50, 0), (1497, 1, 11, 141, 66, 0), (1493, 1, 11, 142, 67, 0), (895, 1, 11, 145, 71, 0), (1559, 1, 11, 148, 76, 0)]
def ktab_31 : List mLk := [(457, 1, 11, 149, 77, 0), (1579, 1, 11, 153, 78, 0), (927, 1, 11, 154, 82, 0), (1583, 1, 11, 157, 84, 0), (946, 1, 11, 158, 86, 0), (1590, 1, 11, 160, 87, 0), (954, 1, 11, 161, 89, 0), (1594, 1, 11, 163, 90, 0), (961, 1, 11, 164, 92, 0), (1598, 1, 11, 167, 93, 0), (970, 1, 11, 168, 98, 0), (1602, 1, 11, 170, 100, 0), (1013, 1, 11, 171, 102, 0), (1610, 1, 11, 174, 103, 0), (1021, 1, 11, 175, 107, 0), (1614, 1, 11, 177, 109, 0)]
def ktab_32 : List mLk := [(1039, 1, 11, 178, 111, 0), (1622, 1, 11, 180, 112, 0), (1046, 1, 11, 181, 114, 0), (1626, 1, 11, 183, 115, 0), (472, 1, 11, 184, 117, 0), (1630, 1, 11, 187, 119, 0), (1053, 1, 11, 188, 121, 0), (1638, 1, 11, 190, 123, 0), (1063, 1, 11, 191, 128, 0), (1646, 1, 11, 193, 131, 0), (1072, 1, 11, 194, 134, 0), (1658, 1, 11, 196, 139, 0), (1086, 1, 11, 197, 141, 0), (1676, 1, 11, 199, 143, 0), (483, 1, 11, 200, 144, 0), (1683, 1, 11, 203, 145, 0)]
def ktab_33 : List mLk := [(1131, 1, 11, 204, 147, 0), (1687, 1, 11, 206, 148, 0), (1139, 1, 11, 207, 151, 0), (1691, 1, 11, 210, 152, 0), (1150, 1, 11, 211, 154, 0), (1695, 1, 11, 214, 155, 0), (1159, 1, 11, 215, 159, 0), (1699, 1, 11, 217, 163, 0), (1167, 1, 11, 218, 167, 0), (1714, 1, 11, 220, 169, 0), (1182, 1, 11, 221, 174, 0), (1722, 1, 11, 223, 176, 0), (1198, 1, 11, 224, 179, 0), (1730, 1, 11, 226, 180, 0), (597, 1, 11, 227, 182, 0), (1734, 1, 11, 230, 183, 0)]
def ktab_34 : List mLk := [(645, 1, 11, 231, 185, 0), (1738, 1, 11, 234, 186, 0), (1210, 1, 11, 235, 191, 0), (1742, 1, 11, 237, 193, 0), (1227, 1, 11, 238, 198, 0), (1750, 1, 11, 240, 200, 0), (653, 1, 11, 241, 204, 0), (1758, 1, 11, 244, 206, 0), (1248, 1, 11, 245, 209, 0), (1766, 1, 11, 247, 210, 0), (1259, 1, 11, 248, 212, 0), (1770, 1, 11, 251, 213, 0), (674, 1, 11, 252, 216, 0), (1774, 1, 11, 255, 219, 0), (1267, 1, 11, 256, 221, 0), (1786, 1, 11, 258, 222, 0)]
def ktab_35 : List mLk := [(686, 1, 11, 259, 224, 0), (1790, 1, 11, 262, 226, 0), (1275, 1, 11, 263, 229, 0), (1798, 1, 11, 266, 230, 0), (694, 1, 11, 267, 234, 0), (1802, 1, 11, 270, 237, 0), (1287, 1, 11, 271, 245, 0), (1814, 1, 11, 273, 250, 0), (1326, 1, 11, 274, 254, 0), (1834, 1, 11, 276, 255, 0), (1342, 1, 11, 277, 258, 0), (1838, 1, 11, 279, 259, 0), (1354, 1, 11, 280, 262, 0), (1842, 1, 11, 283, 263, 0), (1366, 1, 11, 284, 276, 0), (1846, 1, 11, 286, 285, 0)]
def ktab_36 : List mLk := [(717, 1, 11, 287, 286, 0), (1882, 1, 11, 290, 287, 0), (721, 1, 11, 291, 294, 0), (1886, 1, 11, 294, 295, 0), (1421, 1, 11, 295, 297, 0), (1890, 1, 11, 298, 298, 0)]
def ktab : List (List mLk) := [ktab_0, ktab_1, ktab_2, ktab_3, ktab_4, ktab_5, ktab_6, ktab_7, ktab_8, ktab_9, ktab_10, ktab_11, ktab_12, ktab_13, ktab_14, ktab_15, ktab_16, ktab_17, ktab_18, ktab_19, ktab_20, ktab_21, ktab_22, ktab_23, ktab_24, ktab_25, ktab_26, ktab_27, ktab_28, ktab_29, ktab_30, ktab_31, ktab_32, ktab_33, ktab_34, ktab_35, ktab_36]
def kprog : mK := fun i => (ktab.getD (i / 16) []).getD (i % 16) (0, 10, 0, 0, 0, 0)
end
section
/-! THE LINKS -/
def lkB (P : mP) (q : mLk) : Bool := match q.2.1 with
  | 0 => match mcl[q.2.2.2.2.1]? with
    | some c => decide (lw_tbl[q.1]? = some (.fieldLink (cN q.2.2.1) q.2.2.2.1 (c.2.1 q.2.2.2.2.2).1 (c.2.1 q.2.2.2.2.2).2.1 (c.2.1 q.2.2.2.2.2).2.2.1))
    | none => false
  | 1 => decide (lw_tbl[q.1]? = some (.methodLink (cN q.2.2.1) q.2.2.2.1 (P q.2.2.2.2.1).1.1))
  | 2 => match lw_tbl[q.1]? with
    | some (.methodLinkNest o i y _) => decide (o = cN q.2.2.1) && (decide (i = q.2.2.2.1) && decide (y = (P q.2.2.2.2.1).1.1))
    | _ => false
  | 3 => decide (lw_tbl[q.1]? = some (.fieldLink (cN q.2.2.1) q.2.2.2.1 "SpatialPoints" (stN q.2.2.2.2.1) "[I"))
  | 4 => decide (lw_tbl[q.1]? = some (.fieldLinkNest (cN q.2.2.1) q.2.2.2.1 "SpatialPoints" (stN q.2.2.2.2.1) "[I" "SpatialPoints"))
  | 5 => decide (lw_tbl[q.1]? = some (.methodLink (cN q.2.2.1) q.2.2.2.1 (libN q.2.2.2.2.1)))
  | 6 => match mcl[q.2.2.2.2.1]? with
    | some c => decide (lw_tbl[q.1]? = some (.classLink (cN q.2.2.1) q.2.2.2.1 c.1))
    | none => false
  | 7 => decide (lw_tbl[q.1]? = some (.classLink (cN q.2.2.1) q.2.2.2.1 (exN q.2.2.2.2.1)))
  | 8 => match lw_tbl[q.1]? with
    | some (.stringRef o i _) => decide (o = cN q.2.2.1) && decide (i = q.2.2.2.1)
    | _ => false
  | 9 => decide (lw_tbl[q.1]? = some (.classLink (cN q.2.2.1) q.2.2.2.1 "[I"))
  | _ => true
theorem lkB_ok {P : mP} {q : mLk} (h : lkB P q = true) : lkP P q := by
  obtain ⟨p, k, o, i, a, b⟩ := q
  rcases k with _ | _ | _ | _ | _ | _ | _ | _ | _ | _ | k
  · show ∃ c : vw_C, mcl[a]? = some c ∧ lw_tbl[p]? = some (.fieldLink (cN o) i (c.2.1 b).1 (c.2.1 b).2.1 (c.2.1 b).2.2.1)
    replace h : (match mcl[a]? with
      | some c => decide (lw_tbl[p]? = some (.fieldLink (cN o) i (c.2.1 b).1 (c.2.1 b).2.1 (c.2.1 b).2.2.1))
      | none => false) = true := h
    split at h
    · rename_i c hc
      exact ⟨c, hc, of_decide_eq_true h⟩
    · cases h
  · exact of_decide_eq_true (p := lw_tbl[p]? = some (.methodLink (cN o) i (P a).1.1)) h
  · show ∃ h : String, lw_tbl[p]? = some (.methodLinkNest (cN o) i (P a).1.1 h)
    replace h : (match lw_tbl[p]? with
      | some (.methodLinkNest o' i' y _) => decide (o' = cN o) && (decide (i' = i) && decide (y = (P a).1.1))
      | _ => false) = true := h
    split at h
    · rename_i o' i' y' h' hw
      simp only [Bool.and_eq_true, decide_eq_true_eq] at h
      obtain ⟨rfl, rfl, rfl⟩ := h
      exact ⟨h', hw⟩
    · cases h
  · exact of_decide_eq_true (p := lw_tbl[p]? = some (.fieldLink (cN o) i "SpatialPoints" (stN a) "[I")) h
  · exact of_decide_eq_true (p := lw_tbl[p]? = some (.fieldLinkNest (cN o) i "SpatialPoints" (stN a) "[I" "SpatialPoints")) h
  · exact of_decide_eq_true (p := lw_tbl[p]? = some (.methodLink (cN o) i (libN a))) h
  · show ∃ c : vw_C, mcl[a]? = some c ∧ lw_tbl[p]? = some (.classLink (cN o) i c.1)
    replace h : (match mcl[a]? with
      | some c => decide (lw_tbl[p]? = some (.classLink (cN o) i c.1))
      | none => false) = true := h
    split at h
    · rename_i c hc
      exact ⟨c, hc, of_decide_eq_true h⟩
    · cases h
  · exact of_decide_eq_true (p := lw_tbl[p]? = some (.classLink (cN o) i (exN a))) h
  · show ∃ t : String, lw_tbl[p]? = some (.stringRef (cN o) i t)
    replace h : (match lw_tbl[p]? with
      | some (.stringRef o' i' _) => decide (o' = cN o) && decide (i' = i)
      | _ => false) = true := h
    split at h
    · rename_i o' i' t' hw
      simp only [Bool.and_eq_true, decide_eq_true_eq] at h
      obtain ⟨rfl, rfl⟩ := h
      exact ⟨t', hw⟩
    · cases h
  · exact of_decide_eq_true (p := lw_tbl[p]? = some (.classLink (cN o) i "[I")) h
  · trivial
end
section
set_option maxRecDepth 100000 in
theorem lks_0 : ([ktab_0, ktab_1, ktab_2, ktab_3, ktab_4, ktab_5].all fun l => l.all fun q => lkB prog q) = true := by decide +kernel
end
section
set_option maxRecDepth 100000 in
theorem lks_1 : ([ktab_6, ktab_7, ktab_8, ktab_9, ktab_10, ktab_11].all fun l => l.all fun q => lkB prog q) = true := by decide +kernel
end
section
set_option maxRecDepth 100000 in
theorem lks_2 : ([ktab_12, ktab_13, ktab_14, ktab_15, ktab_16, ktab_17].all fun l => l.all fun q => lkB prog q) = true := by decide +kernel
end
section
set_option maxRecDepth 100000 in
theorem lks_3 : ([ktab_18, ktab_19, ktab_20, ktab_21, ktab_22, ktab_23].all fun l => l.all fun q => lkB prog q) = true := by decide +kernel
end
section
set_option maxRecDepth 100000 in
theorem lks_4 : ([ktab_24, ktab_25, ktab_26, ktab_27, ktab_28, ktab_29].all fun l => l.all fun q => lkB prog q) = true := by decide +kernel
end
section
set_option maxRecDepth 100000 in
theorem lks_5 : ([ktab_30, ktab_31, ktab_32, ktab_33, ktab_34, ktab_35].all fun l => l.all fun q => lkB prog q) = true := by decide +kernel
end
section
set_option maxRecDepth 100000 in
theorem lks_6 : ([ktab_36].all fun l => l.all fun q => lkB prog q) = true := by decide +kernel
end
section
theorem links_ok : ∀ i, lkP prog (kprog i) := by
  have key : ∀ L : List (List mLk), (L.all fun l => l.all fun q => lkB prog q) = true → ∀ l ∈ L, ∀ q ∈ l, lkP prog q := fun L h l hl q hq => lkB_ok (List.all_eq_true.mp (List.all_eq_true.mp h l hl) q hq)
  have all : ∀ l ∈ ktab, ∀ q ∈ l, lkP prog q := by
    intro l hl
    have e : ktab = [ktab_0, ktab_1, ktab_2, ktab_3, ktab_4, ktab_5] ++ ([ktab_6, ktab_7, ktab_8, ktab_9, ktab_10, ktab_11] ++ ([ktab_12, ktab_13, ktab_14, ktab_15, ktab_16, ktab_17] ++ ([ktab_18, ktab_19, ktab_20, ktab_21, ktab_22, ktab_23] ++ ([ktab_24, ktab_25, ktab_26, ktab_27, ktab_28, ktab_29] ++ ([ktab_30, ktab_31, ktab_32, ktab_33, ktab_34, ktab_35] ++ ([ktab_36])))))) := rfl
    rw [e] at hl
    rcases List.mem_append.mp hl with hl | hl
    · exact key _ lks_0 l hl
    rcases List.mem_append.mp hl with hl | hl
    · exact key _ lks_1 l hl
    rcases List.mem_append.mp hl with hl | hl
    · exact key _ lks_2 l hl
    rcases List.mem_append.mp hl with hl | hl
    · exact key _ lks_3 l hl
    rcases List.mem_append.mp hl with hl | hl
    · exact key _ lks_4 l hl
    rcases List.mem_append.mp hl with hl | hl
    · exact key _ lks_5 l hl
    exact key _ lks_6 l hl
  intro i
  show lkP prog ((ktab.getD (i / 16) []).getD (i % 16) (0, 10, 0, 0, 0, 0))
  rw [List.getD_eq_getElem?_getD, List.getD_eq_getElem?_getD]
  cases h : ktab[i / 16]? with
  | none => exact trivial
  | some l =>
    show lkP prog (l[i % 16]?.getD (0, 10, 0, 0, 0, 0))
    cases h2 : l[i % 16]? with
    | none => exact trivial
    | some q => exact all l (List.mem_of_getElem? h) q (List.mem_of_getElem? h2)
end
section
/-! THE CHECKS, 0 -/
set_option maxRecDepth 100000 in
theorem chk_0 : ((List.range 25).all fun i => chkM prog kprog zprog 299 false (0 + i)) = true := by decide +kernel
end
section
/-! THE CHECKS, 1 -/
set_option maxRecDepth 100000 in
theorem chk_1 : ((List.range 25).all fun i => chkM prog kprog zprog 299 false (25 + i)) = true := by decide +kernel
end
section
/-! THE CHECKS, 2 -/
set_option maxRecDepth 100000 in
theorem chk_2 : ((List.range 25).all fun i => chkM prog kprog zprog 299 false (50 + i)) = true := by decide +kernel
end
section
/-! THE CHECKS, 3 -/
set_option maxRecDepth 100000 in
theorem chk_3 : ((List.range 25).all fun i => chkM prog kprog zprog 299 false (75 + i)) = true := by decide +kernel
end
section
/-! THE CHECKS, 4 -/
set_option maxRecDepth 100000 in
theorem chk_4 : ((List.range 25).all fun i => chkM prog kprog zprog 299 false (100 + i)) = true := by decide +kernel
end
section
/-! THE CHECKS, 5 -/
set_option maxRecDepth 100000 in
theorem chk_5 : ((List.range 25).all fun i => chkM prog kprog zprog 299 false (125 + i)) = true := by decide +kernel
end
section
/-! THE CHECKS, 6 -/
set_option maxRecDepth 100000 in
theorem chk_6 : ((List.range 25).all fun i => chkM prog kprog zprog 299 false (150 + i)) = true := by decide +kernel
end
section
/-! THE CHECKS, 7 -/
set_option maxRecDepth 100000 in
theorem chk_7 : ((List.range 25).all fun i => chkM prog kprog zprog 299 false (175 + i)) = true := by decide +kernel
end
section
/-! THE CHECKS, 8 -/
set_option maxRecDepth 100000 in
theorem chk_8 : ((List.range 25).all fun i => chkM prog kprog zprog 299 false (200 + i)) = true := by decide +kernel
end
section
/-! THE CHECKS, 9 -/
set_option maxRecDepth 100000 in
theorem chk_9 : ((List.range 25).all fun i => chkM prog kprog zprog 299 false (225 + i)) = true := by decide +kernel
end
section
/-! THE CHECKS, 10 -/
set_option maxRecDepth 100000 in
theorem chk_10 : ((List.range 25).all fun i => chkM prog kprog zprog 299 false (250 + i)) = true := by decide +kernel
end
section
/-! THE CHECKS, 11 -/
set_option maxRecDepth 100000 in
theorem chk_11 : ((List.range 24).all fun i => chkM prog kprog zprog 299 false (275 + i)) = true := by decide +kernel
end
section
set_option maxRecDepth 100000 in
theorem hd_0 : ((List.range 25).all fun i => okM prog zprog (0 + i)) = true := by decide +kernel
end
section
set_option maxRecDepth 100000 in
theorem hd_1 : ((List.range 25).all fun i => okM prog zprog (25 + i)) = true := by decide +kernel
end
section
set_option maxRecDepth 100000 in
theorem hd_2 : ((List.range 25).all fun i => okM prog zprog (50 + i)) = true := by decide +kernel
end
section
set_option maxRecDepth 100000 in
theorem hd_3 : ((List.range 25).all fun i => okM prog zprog (75 + i)) = true := by decide +kernel
end
section
set_option maxRecDepth 100000 in
theorem hd_4 : ((List.range 25).all fun i => okM prog zprog (100 + i)) = true := by decide +kernel
end
section
set_option maxRecDepth 100000 in
theorem hd_5 : ((List.range 25).all fun i => okM prog zprog (125 + i)) = true := by decide +kernel
end
section
set_option maxRecDepth 100000 in
theorem hd_6 : ((List.range 25).all fun i => okM prog zprog (150 + i)) = true := by decide +kernel
end
section
set_option maxRecDepth 100000 in
theorem hd_7 : ((List.range 25).all fun i => okM prog zprog (175 + i)) = true := by decide +kernel
end
section
set_option maxRecDepth 100000 in
theorem hd_8 : ((List.range 25).all fun i => okM prog zprog (200 + i)) = true := by decide +kernel
end
section
set_option maxRecDepth 100000 in
theorem hd_9 : ((List.range 25).all fun i => okM prog zprog (225 + i)) = true := by decide +kernel
end
section
set_option maxRecDepth 100000 in
theorem hd_10 : ((List.range 25).all fun i => okM prog zprog (250 + i)) = true := by decide +kernel
end
section
set_option maxRecDepth 100000 in
theorem hd_11 : ((List.range 24).all fun i => okM prog zprog (275 + i)) = true := by decide +kernel
end
section
set_option maxRecDepth 100000 in
theorem lawc_0 : ((((prog 299).2.drop (0 * 30)).take 30).all fun q => chkL prog kprog zprog 299 true 299 q.1 q.2.2) = true := by decide +kernel
end
section
set_option maxRecDepth 100000 in
theorem lawc_1 : ((((prog 299).2.drop (1 * 30)).take 30).all fun q => chkL prog kprog zprog 299 true 299 q.1 q.2.2) = true := by decide +kernel
end
section
set_option maxRecDepth 100000 in
theorem lawc_2 : ((((prog 299).2.drop (2 * 30)).take 30).all fun q => chkL prog kprog zprog 299 true 299 q.1 q.2.2) = true := by decide +kernel
end
section
set_option maxRecDepth 100000 in
theorem lawc_3 : ((((prog 299).2.drop (3 * 30)).take 30).all fun q => chkL prog kprog zprog 299 true 299 q.1 q.2.2) = true := by decide +kernel
end
section
set_option maxRecDepth 100000 in
theorem lawc_4 : ((((prog 299).2.drop (4 * 30)).take 30).all fun q => chkL prog kprog zprog 299 true 299 q.1 q.2.2) = true := by decide +kernel
end
section
set_option maxRecDepth 100000 in
theorem lawc_5 : ((((prog 299).2.drop (5 * 30)).take 30).all fun q => chkL prog kprog zprog 299 true 299 q.1 q.2.2) = true := by decide +kernel
end
section
set_option maxRecDepth 100000 in
theorem lawc_6 : ((((prog 299).2.drop (6 * 30)).take 30).all fun q => chkL prog kprog zprog 299 true 299 q.1 q.2.2) = true := by decide +kernel
end
section
set_option maxRecDepth 100000 in
theorem lawc_7 : ((((prog 299).2.drop (7 * 30)).take 30).all fun q => chkL prog kprog zprog 299 true 299 q.1 q.2.2) = true := by decide +kernel
end
section
set_option maxRecDepth 100000 in
theorem lawc_8 : ((((prog 299).2.drop (8 * 30)).take 30).all fun q => chkL prog kprog zprog 299 true 299 q.1 q.2.2) = true := by decide +kernel
end
section
set_option maxRecDepth 100000 in
theorem lawc_9 : ((((prog 299).2.drop (9 * 30)).take 30).all fun q => chkL prog kprog zprog 299 true 299 q.1 q.2.2) = true := by decide +kernel
end
section
set_option maxRecDepth 100000 in
theorem lawc_10 : ((((prog 299).2.drop (10 * 30)).take 30).all fun q => chkL prog kprog zprog 299 true 299 q.1 q.2.2) = true := by decide +kernel
end
section
set_option maxRecDepth 100000 in
theorem lawc_11 : ((((prog 299).2.drop (11 * 30)).take 30).all fun q => chkL prog kprog zprog 299 true 299 q.1 q.2.2) = true := by decide +kernel
end
section
set_option maxRecDepth 100000 in
theorem lawc_12 : ((((prog 299).2.drop (12 * 30)).take 30).all fun q => chkL prog kprog zprog 299 true 299 q.1 q.2.2) = true := by decide +kernel
end
section
set_option maxRecDepth 100000 in
theorem lawc_13 : ((((prog 299).2.drop (13 * 30)).take 30).all fun q => chkL prog kprog zprog 299 true 299 q.1 q.2.2) = true := by decide +kernel
end
section
set_option maxRecDepth 100000 in
theorem lawc_14 : ((((prog 299).2.drop (14 * 30)).take 30).all fun q => chkL prog kprog zprog 299 true 299 q.1 q.2.2) = true := by decide +kernel
end
section
set_option maxRecDepth 100000 in
theorem lawc_15 : ((((prog 299).2.drop (15 * 30)).take 30).all fun q => chkL prog kprog zprog 299 true 299 q.1 q.2.2) = true := by decide +kernel
end
section
set_option maxRecDepth 100000 in
theorem lawc_16 : ((((prog 299).2.drop (16 * 30)).take 30).all fun q => chkL prog kprog zprog 299 true 299 q.1 q.2.2) = true := by decide +kernel
end
section
/-! ALL CHECKS -/
theorem all_cut {α : Type} (f : α → Bool) (n : Nat) : ∀ (c : Nat) (l : List α), l.length ≤ c * n → (∀ i, i < c → ((l.drop (i * n)).take n).all f = true) → l.all f = true
  | 0, l, hl, _ => by
    have : l = [] := List.eq_nil_of_length_eq_zero (by omega)
    rw [this]; rfl
  | c + 1, l, hl, h => by
    rw [← List.take_append_drop n l, List.all_append, Bool.and_eq_true]
    refine ⟨by have := h 0 (by omega); rwa [Nat.zero_mul, List.drop_zero] at this, all_cut f n c (l.drop n) (by rw [List.length_drop, Nat.succ_mul] at *; omega) (fun i hi => ?_)⟩
    have := h (i + 1) (by omega)
    rwa [Nat.succ_mul, Nat.add_comm, ← List.drop_drop] at this
set_option maxRecDepth 100000 in
theorem chk_law : chkM prog kprog zprog 299 true 299 = true := by
  unfold chkM
  rw [Bool.and_eq_true]
  refine ⟨by decide +kernel, all_cut _ 30 17 _ (by decide +kernel) (fun i hi => ?_)⟩
  by_cases h0 : i = 0
  · subst h0; exact lawc_0
  by_cases h1 : i = 1
  · subst h1; exact lawc_1
  by_cases h2 : i = 2
  · subst h2; exact lawc_2
  by_cases h3 : i = 3
  · subst h3; exact lawc_3
  by_cases h4 : i = 4
  · subst h4; exact lawc_4
  by_cases h5 : i = 5
  · subst h5; exact lawc_5
  by_cases h6 : i = 6
  · subst h6; exact lawc_6
  by_cases h7 : i = 7
  · subst h7; exact lawc_7
  by_cases h8 : i = 8
  · subst h8; exact lawc_8
  by_cases h9 : i = 9
  · subst h9; exact lawc_9
  by_cases h10 : i = 10
  · subst h10; exact lawc_10
  by_cases h11 : i = 11
  · subst h11; exact lawc_11
  by_cases h12 : i = 12
  · subst h12; exact lawc_12
  by_cases h13 : i = 13
  · subst h13; exact lawc_13
  by_cases h14 : i = 14
  · subst h14; exact lawc_14
  by_cases h15 : i = 15
  · subst h15; exact lawc_15
  have e : i = 16 := by omega
  subst e; exact lawc_16
theorem prog_ok : okP prog kprog zprog 299 := by
  refine ⟨links_ok, fun a ha => ?_⟩
  have key : ∀ (k n : Nat), ((List.range n).all fun i => okM prog zprog (k + i)) = true → ((List.range n).all fun i => chkM prog kprog zprog 299 false (k + i)) = true → k ≤ a → a < k + n → okM prog zprog a = true ∧ chkM prog kprog zprog 299 false a = true := by
    intro k n h h' h1 h2
    have h3 := List.all_eq_true.mp h (a - k) (List.mem_range.mpr (by omega))
    have h4 := List.all_eq_true.mp h' (a - k) (List.mem_range.mpr (by omega))
    rw [show k + (a - k) = a by omega] at h3 h4
    exact ⟨h3, h4⟩
  by_cases h0 : a < 25
  · exact key 0 25 hd_0 chk_0 (by omega) (by omega)
  by_cases h1 : a < 50
  · exact key 25 25 hd_1 chk_1 (by omega) (by omega)
  by_cases h2 : a < 75
  · exact key 50 25 hd_2 chk_2 (by omega) (by omega)
  by_cases h3 : a < 100
  · exact key 75 25 hd_3 chk_3 (by omega) (by omega)
  by_cases h4 : a < 125
  · exact key 100 25 hd_4 chk_4 (by omega) (by omega)
  by_cases h5 : a < 150
  · exact key 125 25 hd_5 chk_5 (by omega) (by omega)
  by_cases h6 : a < 175
  · exact key 150 25 hd_6 chk_6 (by omega) (by omega)
  by_cases h7 : a < 200
  · exact key 175 25 hd_7 chk_7 (by omega) (by omega)
  by_cases h8 : a < 225
  · exact key 200 25 hd_8 chk_8 (by omega) (by omega)
  by_cases h9 : a < 250
  · exact key 225 25 hd_9 chk_9 (by omega) (by omega)
  by_cases h10 : a < 275
  · exact key 250 25 hd_10 chk_10 (by omega) (by omega)
  by_cases h11 : a < 299
  · exact key 275 24 hd_11 chk_11 (by omega) (by omega)
  omega
end
