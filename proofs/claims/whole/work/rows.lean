section
-- ===== PART A: goes FIRST, ahead of the names: the tables' words, and 'selects' of the private methods out of them =====
/-- a private method of a class that the tables say can be made, by its rows of tables_1 -/
def lw_okq (q : MethodName × Nat) : Prop := (q.1.cls ≠ "java/lang/invoke/MethodHandle" ∧ q.1.cls ≠ "java/lang/invoke/VarHandle") ∧ Cond.instantiable q.1.cls q.2 ∈ tables_1 ∧ Cond.privateMethod q.1 ∈ tables_1 ∧ Cond.instanceMethod q.1 ∈ tables_1
theorem lw_p0 : lw_okq (⟨"SpatialPoints$Rebuilder", "gatherMembers", "(I)V"⟩, 9) := ⟨⟨by decide +kernel, by decide +kernel⟩, List.mem_of_getElem? (i := 154) (by decide +kernel), List.mem_of_getElem? (i := 412) (by decide +kernel), List.mem_of_getElem? (i := 413) (by decide +kernel)⟩
theorem lw_p1 : lw_okq (⟨"SpatialPoints$Rebuilder", "addTask", "(IIII)V"⟩, 9) := ⟨⟨by decide +kernel, by decide +kernel⟩, List.mem_of_getElem? (i := 154) (by decide +kernel), List.mem_of_getElem? (i := 449) (by decide +kernel), List.mem_of_getElem? (i := 450) (by decide +kernel)⟩
theorem lw_p2 : lw_okq (⟨"SpatialPoints$Rebuilder", "doTask", "(I)V"⟩, 9) := ⟨⟨by decide +kernel, by decide +kernel⟩, List.mem_of_getElem? (i := 154) (by decide +kernel), List.mem_of_getElem? (i := 453) (by decide +kernel), List.mem_of_getElem? (i := 454) (by decide +kernel)⟩
theorem lw_p3 : lw_okq (⟨"SpatialPoints$Rebuilder", "sortMembers", "(III)V"⟩, 9) := ⟨⟨by decide +kernel, by decide +kernel⟩, List.mem_of_getElem? (i := 154) (by decide +kernel), List.mem_of_getElem? (i := 457) (by decide +kernel), List.mem_of_getElem? (i := 458) (by decide +kernel)⟩
theorem lw_p4 : lw_okq (⟨"SpatialPoints$Tree", "listPreorder", "()V"⟩, 12) := ⟨⟨by decide +kernel, by decide +kernel⟩, List.mem_of_getElem? (i := 74) (by decide +kernel), List.mem_of_getElem? (i := 473) (by decide +kernel), List.mem_of_getElem? (i := 474) (by decide +kernel)⟩
theorem lw_p5 : lw_okq (⟨"SpatialPoints$Tree", "reach", "(II)V"⟩, 12) := ⟨⟨by decide +kernel, by decide +kernel⟩, List.mem_of_getElem? (i := 74) (by decide +kernel), List.mem_of_getElem? (i := 478) (by decide +kernel), List.mem_of_getElem? (i := 479) (by decide +kernel)⟩
theorem lw_p6 : lw_okq (⟨"SpatialPoints$Tree", "summarise", "(I)V"⟩, 12) := ⟨⟨by decide +kernel, by decide +kernel⟩, List.mem_of_getElem? (i := 74) (by decide +kernel), List.mem_of_getElem? (i := 488) (by decide +kernel), List.mem_of_getElem? (i := 489) (by decide +kernel)⟩
theorem lw_p7 : lw_okq (⟨"SpatialPoints$Search", "measureVisible", "()V"⟩, 10) := ⟨⟨by decide +kernel, by decide +kernel⟩, List.mem_of_getElem? (i := 250) (by decide +kernel), List.mem_of_getElem? (i := 518) (by decide +kernel), List.mem_of_getElem? (i := 519) (by decide +kernel)⟩
theorem lw_p8 : lw_okq (⟨"SpatialPoints$Search", "spreadLabel", "(II)V"⟩, 10) := ⟨⟨by decide +kernel, by decide +kernel⟩, List.mem_of_getElem? (i := 250) (by decide +kernel), List.mem_of_getElem? (i := 575) (by decide +kernel), List.mem_of_getElem? (i := 576) (by decide +kernel)⟩
theorem lw_p9 : lw_okq (⟨"SpatialPoints$Search", "labelNeighbours", "(III)V"⟩, 10) := ⟨⟨by decide +kernel, by decide +kernel⟩, List.mem_of_getElem? (i := 250) (by decide +kernel), List.mem_of_getElem? (i := 579) (by decide +kernel), List.mem_of_getElem? (i := 580) (by decide +kernel)⟩
theorem lw_p10 : lw_okq (⟨"SpatialPoints$Search", "isInBox", "(I)Z"⟩, 10) := ⟨⟨by decide +kernel, by decide +kernel⟩, List.mem_of_getElem? (i := 250) (by decide +kernel), List.mem_of_getElem? (i := 595) (by decide +kernel), List.mem_of_getElem? (i := 596) (by decide +kernel)⟩
theorem lw_p11 : lw_okq (⟨"SpatialPoints$Search", "meetsBox", "(I)Z"⟩, 10) := ⟨⟨by decide +kernel, by decide +kernel⟩, List.mem_of_getElem? (i := 250) (by decide +kernel), List.mem_of_getElem? (i := 620) (by decide +kernel), List.mem_of_getElem? (i := 621) (by decide +kernel)⟩
theorem lw_p12 : lw_okq (⟨"java/lang/Throwable", "fillInStackTrace", "(I)Ljava/lang/Throwable;"⟩, 6) := ⟨⟨by decide +kernel, by decide +kernel⟩, List.mem_of_getElem? (i := 728) (by decide +kernel), List.mem_of_getElem? (i := 726) (by decide +kernel), List.mem_of_getElem? (i := 727) (by decide +kernel)⟩
theorem lw_p13 : lw_okq (⟨"SpatialPoints$State", "highestUnbalanced", "(I)I"⟩, 4) := ⟨⟨by decide +kernel, by decide +kernel⟩, List.mem_of_getElem? (i := 34) (by decide +kernel), List.mem_of_getElem? (i := 794) (by decide +kernel), List.mem_of_getElem? (i := 795) (by decide +kernel)⟩
theorem lw_p14 : lw_okq (⟨"SpatialPoints$State", "isUnbalanced", "(I)Z"⟩, 4) := ⟨⟨by decide +kernel, by decide +kernel⟩, List.mem_of_getElem? (i := 34) (by decide +kernel), List.mem_of_getElem? (i := 798) (by decide +kernel), List.mem_of_getElem? (i := 799) (by decide +kernel)⟩
theorem lw_p15 : lw_okq (⟨"SpatialPoints", "requirePoint", "(I)V"⟩, 6) := ⟨⟨by decide +kernel, by decide +kernel⟩, List.mem_of_getElem? (i := 26) (by decide +kernel), List.mem_of_getElem? (i := 847) (by decide +kernel), List.mem_of_getElem? (i := 848) (by decide +kernel)⟩
def lw_privs_1 : List (MethodName × Nat) := [(⟨"SpatialPoints$Rebuilder", "gatherMembers", "(I)V"⟩, 9), (⟨"SpatialPoints$Rebuilder", "addTask", "(IIII)V"⟩, 9), (⟨"SpatialPoints$Rebuilder", "doTask", "(I)V"⟩, 9), (⟨"SpatialPoints$Rebuilder", "sortMembers", "(III)V"⟩, 9), (⟨"SpatialPoints$Tree", "listPreorder", "()V"⟩, 12), (⟨"SpatialPoints$Tree", "reach", "(II)V"⟩, 12), (⟨"SpatialPoints$Tree", "summarise", "(I)V"⟩, 12), (⟨"SpatialPoints$Search", "measureVisible", "()V"⟩, 10), (⟨"SpatialPoints$Search", "spreadLabel", "(II)V"⟩, 10), (⟨"SpatialPoints$Search", "labelNeighbours", "(III)V"⟩, 10), (⟨"SpatialPoints$Search", "isInBox", "(I)Z"⟩, 10), (⟨"SpatialPoints$Search", "meetsBox", "(I)Z"⟩, 10), (⟨"java/lang/Throwable", "fillInStackTrace", "(I)Ljava/lang/Throwable;"⟩, 6), (⟨"SpatialPoints$State", "highestUnbalanced", "(I)I"⟩, 4), (⟨"SpatialPoints$State", "isUnbalanced", "(I)Z"⟩, 4), (⟨"SpatialPoints", "requirePoint", "(I)V"⟩, 6)]
theorem lw_r1 : ∀ q ∈ lw_privs_1, lw_okq q := List.forall_mem_cons.mpr ⟨lw_p0, List.forall_mem_cons.mpr ⟨lw_p1, List.forall_mem_cons.mpr ⟨lw_p2, List.forall_mem_cons.mpr ⟨lw_p3, List.forall_mem_cons.mpr ⟨lw_p4, List.forall_mem_cons.mpr ⟨lw_p5, List.forall_mem_cons.mpr ⟨lw_p6, List.forall_mem_cons.mpr ⟨lw_p7, List.forall_mem_cons.mpr ⟨lw_p8, List.forall_mem_cons.mpr ⟨lw_p9, List.forall_mem_cons.mpr ⟨lw_p10, List.forall_mem_cons.mpr ⟨lw_p11, List.forall_mem_cons.mpr ⟨lw_p12, List.forall_mem_cons.mpr ⟨lw_p13, List.forall_mem_cons.mpr ⟨lw_p14, List.forall_mem_cons.mpr ⟨lw_p15, fun _ h => absurd h List.not_mem_nil⟩⟩⟩⟩⟩⟩⟩⟩⟩⟩⟩⟩⟩⟩⟩⟩
theorem lw_p16 : lw_okq (⟨"SpatialPoints", "requireAxis", "(I)V"⟩, 6) := ⟨⟨by decide +kernel, by decide +kernel⟩, List.mem_of_getElem? (i := 26) (by decide +kernel), List.mem_of_getElem? (i := 853) (by decide +kernel), List.mem_of_getElem? (i := 854) (by decide +kernel)⟩
theorem lw_p17 : lw_okq (⟨"SpatialPoints", "requireNode", "(I)V"⟩, 6) := ⟨⟨by decide +kernel, by decide +kernel⟩, List.mem_of_getElem? (i := 26) (by decide +kernel), List.mem_of_getElem? (i := 941) (by decide +kernel), List.mem_of_getElem? (i := 942) (by decide +kernel)⟩
theorem lw_p18 : lw_okq (⟨"SpatialPoints", "requireBox", "(I)V"⟩, 6) := ⟨⟨by decide +kernel, by decide +kernel⟩, List.mem_of_getElem? (i := 26) (by decide +kernel), List.mem_of_getElem? (i := 992) (by decide +kernel), List.mem_of_getElem? (i := 993) (by decide +kernel)⟩
theorem lw_p19 : lw_okq (⟨"SpatialPoints$Search", "gapOn", "(II)I"⟩, 10) := ⟨⟨by decide +kernel, by decide +kernel⟩, List.mem_of_getElem? (i := 250) (by decide +kernel), List.mem_of_getElem? (i := 1091) (by decide +kernel), List.mem_of_getElem? (i := 1092) (by decide +kernel)⟩
theorem lw_p20 : lw_okq (⟨"SpatialPoints$Search", "rankOf", "(I)I"⟩, 10) := ⟨⟨by decide +kernel, by decide +kernel⟩, List.mem_of_getElem? (i := 250) (by decide +kernel), List.mem_of_getElem? (i := 1106) (by decide +kernel), List.mem_of_getElem? (i := 1107) (by decide +kernel)⟩
theorem lw_p21 : lw_okq (⟨"SpatialPoints$Search", "offerPair", "(II)V"⟩, 10) := ⟨⟨by decide +kernel, by decide +kernel⟩, List.mem_of_getElem? (i := 250) (by decide +kernel), List.mem_of_getElem? (i := 1135) (by decide +kernel), List.mem_of_getElem? (i := 1136) (by decide +kernel)⟩
theorem lw_p22 : lw_okq (⟨"SpatialPoints", "requireVisible", "(I)V"⟩, 6) := ⟨⟨by decide +kernel, by decide +kernel⟩, List.mem_of_getElem? (i := 26) (by decide +kernel), List.mem_of_getElem? (i := 1147) (by decide +kernel), List.mem_of_getElem? (i := 1148) (by decide +kernel)⟩
theorem lw_p23 : lw_okq (⟨"SpatialPoints$Search", "nearestOther", "(I)I"⟩, 10) := ⟨⟨by decide +kernel, by decide +kernel⟩, List.mem_of_getElem? (i := 250) (by decide +kernel), List.mem_of_getElem? (i := 1157) (by decide +kernel), List.mem_of_getElem? (i := 1158) (by decide +kernel)⟩
theorem lw_p24 : lw_okq (⟨"SpatialPoints$Cursor", "listPreorder", "()V"⟩, 5) := ⟨⟨by decide +kernel, by decide +kernel⟩, List.mem_of_getElem? (i := 293) (by decide +kernel), List.mem_of_getElem? (i := 1213) (by decide +kernel), List.mem_of_getElem? (i := 1214) (by decide +kernel)⟩
theorem lw_p25 : lw_okq (⟨"SpatialPoints$Cursor", "addIfAlive", "(I)V"⟩, 5) := ⟨⟨by decide +kernel, by decide +kernel⟩, List.mem_of_getElem? (i := 293) (by decide +kernel), List.mem_of_getElem? (i := 1218) (by decide +kernel), List.mem_of_getElem? (i := 1219) (by decide +kernel)⟩
theorem lw_p26 : lw_okq (⟨"SpatialPoints$Cursor", "listInorder", "()V"⟩, 5) := ⟨⟨by decide +kernel, by decide +kernel⟩, List.mem_of_getElem? (i := 293) (by decide +kernel), List.mem_of_getElem? (i := 1224) (by decide +kernel), List.mem_of_getElem? (i := 1225) (by decide +kernel)⟩
theorem lw_p27 : lw_okq (⟨"SpatialPoints$Cursor", "waitLeftwards", "(I)V"⟩, 5) := ⟨⟨by decide +kernel, by decide +kernel⟩, List.mem_of_getElem? (i := 293) (by decide +kernel), List.mem_of_getElem? (i := 1228) (by decide +kernel), List.mem_of_getElem? (i := 1229) (by decide +kernel)⟩
theorem lw_p28 : lw_okq (⟨"SpatialPoints$Cursor", "listLevels", "()V"⟩, 5) := ⟨⟨by decide +kernel, by decide +kernel⟩, List.mem_of_getElem? (i := 293) (by decide +kernel), List.mem_of_getElem? (i := 1234) (by decide +kernel), List.mem_of_getElem? (i := 1235) (by decide +kernel)⟩
theorem lw_p29 : lw_okq (⟨"SpatialPoints", "requireCursor", "()V"⟩, 6) := ⟨⟨by decide +kernel, by decide +kernel⟩, List.mem_of_getElem? (i := 26) (by decide +kernel), List.mem_of_getElem? (i := 1246) (by decide +kernel), List.mem_of_getElem? (i := 1247) (by decide +kernel)⟩
theorem lw_p30 : lw_okq (⟨"SpatialPoints$Text", "parseDescription", "()V"⟩, 7) := ⟨⟨by decide +kernel, by decide +kernel⟩, List.mem_of_getElem? (i := 318) (by decide +kernel), List.mem_of_getElem? (i := 1290) (by decide +kernel), List.mem_of_getElem? (i := 1291) (by decide +kernel)⟩
theorem lw_p31 : lw_okq (⟨"SpatialPoints$Text", "demand", "(C)V"⟩, 7) := ⟨⟨by decide +kernel, by decide +kernel⟩, List.mem_of_getElem? (i := 318) (by decide +kernel), List.mem_of_getElem? (i := 1294) (by decide +kernel), List.mem_of_getElem? (i := 1295) (by decide +kernel)⟩
def lw_privs_2 : List (MethodName × Nat) := [(⟨"SpatialPoints", "requireAxis", "(I)V"⟩, 6), (⟨"SpatialPoints", "requireNode", "(I)V"⟩, 6), (⟨"SpatialPoints", "requireBox", "(I)V"⟩, 6), (⟨"SpatialPoints$Search", "gapOn", "(II)I"⟩, 10), (⟨"SpatialPoints$Search", "rankOf", "(I)I"⟩, 10), (⟨"SpatialPoints$Search", "offerPair", "(II)V"⟩, 10), (⟨"SpatialPoints", "requireVisible", "(I)V"⟩, 6), (⟨"SpatialPoints$Search", "nearestOther", "(I)I"⟩, 10), (⟨"SpatialPoints$Cursor", "listPreorder", "()V"⟩, 5), (⟨"SpatialPoints$Cursor", "addIfAlive", "(I)V"⟩, 5), (⟨"SpatialPoints$Cursor", "listInorder", "()V"⟩, 5), (⟨"SpatialPoints$Cursor", "waitLeftwards", "(I)V"⟩, 5), (⟨"SpatialPoints$Cursor", "listLevels", "()V"⟩, 5), (⟨"SpatialPoints", "requireCursor", "()V"⟩, 6), (⟨"SpatialPoints$Text", "parseDescription", "()V"⟩, 7), (⟨"SpatialPoints$Text", "demand", "(C)V"⟩, 7)]
theorem lw_r2 : ∀ q ∈ lw_privs_2, lw_okq q := List.forall_mem_cons.mpr ⟨lw_p16, List.forall_mem_cons.mpr ⟨lw_p17, List.forall_mem_cons.mpr ⟨lw_p18, List.forall_mem_cons.mpr ⟨lw_p19, List.forall_mem_cons.mpr ⟨lw_p20, List.forall_mem_cons.mpr ⟨lw_p21, List.forall_mem_cons.mpr ⟨lw_p22, List.forall_mem_cons.mpr ⟨lw_p23, List.forall_mem_cons.mpr ⟨lw_p24, List.forall_mem_cons.mpr ⟨lw_p25, List.forall_mem_cons.mpr ⟨lw_p26, List.forall_mem_cons.mpr ⟨lw_p27, List.forall_mem_cons.mpr ⟨lw_p28, List.forall_mem_cons.mpr ⟨lw_p29, List.forall_mem_cons.mpr ⟨lw_p30, List.forall_mem_cons.mpr ⟨lw_p31, fun _ h => absurd h List.not_mem_nil⟩⟩⟩⟩⟩⟩⟩⟩⟩⟩⟩⟩⟩⟩⟩⟩
theorem lw_p32 : lw_okq (⟨"SpatialPoints$Text", "accepts", "(C)Z"⟩, 7) := ⟨⟨by decide +kernel, by decide +kernel⟩, List.mem_of_getElem? (i := 318) (by decide +kernel), List.mem_of_getElem? (i := 1298) (by decide +kernel), List.mem_of_getElem? (i := 1299) (by decide +kernel)⟩
theorem lw_p33 : lw_okq (⟨"SpatialPoints$Text", "hasSign", "()Z"⟩, 7) := ⟨⟨by decide +kernel, by decide +kernel⟩, List.mem_of_getElem? (i := 318) (by decide +kernel), List.mem_of_getElem? (i := 1302) (by decide +kernel), List.mem_of_getElem? (i := 1303) (by decide +kernel)⟩
theorem lw_p34 : lw_okq (⟨"SpatialPoints$Text", "markFault", "()V"⟩, 7) := ⟨⟨by decide +kernel, by decide +kernel⟩, List.mem_of_getElem? (i := 318) (by decide +kernel), List.mem_of_getElem? (i := 1306) (by decide +kernel), List.mem_of_getElem? (i := 1307) (by decide +kernel)⟩
theorem lw_p35 : lw_okq (⟨"SpatialPoints$Text", "parseCoordinate", "(I)V"⟩, 7) := ⟨⟨by decide +kernel, by decide +kernel⟩, List.mem_of_getElem? (i := 318) (by decide +kernel), List.mem_of_getElem? (i := 1310) (by decide +kernel), List.mem_of_getElem? (i := 1311) (by decide +kernel)⟩
theorem lw_p36 : lw_okq (⟨"SpatialPoints$Text", "parseNumber", "(I)I"⟩, 7) := ⟨⟨by decide +kernel, by decide +kernel⟩, List.mem_of_getElem? (i := 318) (by decide +kernel), List.mem_of_getElem? (i := 1314) (by decide +kernel), List.mem_of_getElem? (i := 1315) (by decide +kernel)⟩
theorem lw_p37 : lw_okq (⟨"SpatialPoints$Text", "hasDigit", "()Z"⟩, 7) := ⟨⟨by decide +kernel, by decide +kernel⟩, List.mem_of_getElem? (i := 318) (by decide +kernel), List.mem_of_getElem? (i := 1318) (by decide +kernel), List.mem_of_getElem? (i := 1319) (by decide +kernel)⟩
theorem lw_p38 : lw_okq (⟨"SpatialPoints$Text", "putPart", "(II)V"⟩, 7) := ⟨⟨by decide +kernel, by decide +kernel⟩, List.mem_of_getElem? (i := 318) (by decide +kernel), List.mem_of_getElem? (i := 1322) (by decide +kernel), List.mem_of_getElem? (i := 1323) (by decide +kernel)⟩
theorem lw_p39 : lw_okq (⟨"SpatialPointsModel", "fails", "(I)I"⟩, 19) := ⟨⟨by decide +kernel, by decide +kernel⟩, List.mem_of_getElem? (i := 1342) (by decide +kernel), List.mem_of_getElem? (i := 1420) (by decide +kernel), List.mem_of_getElem? (i := 1421) (by decide +kernel)⟩
theorem lw_p40 : lw_okq (⟨"SpatialPointsModel", "lives", "()I"⟩, 19) := ⟨⟨by decide +kernel, by decide +kernel⟩, List.mem_of_getElem? (i := 1342) (by decide +kernel), List.mem_of_getElem? (i := 1424) (by decide +kernel), List.mem_of_getElem? (i := 1425) (by decide +kernel)⟩
theorem lw_p41 : lw_okq (⟨"SpatialPointsModel", "comes", "(IIIII)I"⟩, 19) := ⟨⟨by decide +kernel, by decide +kernel⟩, List.mem_of_getElem? (i := 1342) (by decide +kernel), List.mem_of_getElem? (i := 1428) (by decide +kernel), List.mem_of_getElem? (i := 1429) (by decide +kernel)⟩
theorem lw_p42 : lw_okq (⟨"SpatialPointsModel", "hangs", "(I)V"⟩, 19) := ⟨⟨by decide +kernel, by decide +kernel⟩, List.mem_of_getElem? (i := 1342) (by decide +kernel), List.mem_of_getElem? (i := 1432) (by decide +kernel), List.mem_of_getElem? (i := 1433) (by decide +kernel)⟩
theorem lw_p43 : lw_okq (⟨"SpatialPointsModel", "next", "(III)I"⟩, 19) := ⟨⟨by decide +kernel, by decide +kernel⟩, List.mem_of_getElem? (i := 1342) (by decide +kernel), List.mem_of_getElem? (i := 1436) (by decide +kernel), List.mem_of_getElem? (i := 1437) (by decide +kernel)⟩
theorem lw_p44 : lw_okq (⟨"SpatialPointsModel", "isBefore", "(III)Z"⟩, 19) := ⟨⟨by decide +kernel, by decide +kernel⟩, List.mem_of_getElem? (i := 1342) (by decide +kernel), List.mem_of_getElem? (i := 1440) (by decide +kernel), List.mem_of_getElem? (i := 1441) (by decide +kernel)⟩
theorem lw_p45 : lw_okq (⟨"SpatialPointsModel", "isUneven", "(I)Z"⟩, 19) := ⟨⟨by decide +kernel, by decide +kernel⟩, List.mem_of_getElem? (i := 1342) (by decide +kernel), List.mem_of_getElem? (i := 1444) (by decide +kernel), List.mem_of_getElem? (i := 1445) (by decide +kernel)⟩
theorem lw_p46 : lw_okq (⟨"SpatialPointsModel", "sizeOf", "(I)I"⟩, 19) := ⟨⟨by decide +kernel, by decide +kernel⟩, List.mem_of_getElem? (i := 1342) (by decide +kernel), List.mem_of_getElem? (i := 1448) (by decide +kernel), List.mem_of_getElem? (i := 1449) (by decide +kernel)⟩
theorem lw_p47 : lw_okq (⟨"SpatialPointsModel", "anew", "(I)V"⟩, 19) := ⟨⟨by decide +kernel, by decide +kernel⟩, List.mem_of_getElem? (i := 1342) (by decide +kernel), List.mem_of_getElem? (i := 1452) (by decide +kernel), List.mem_of_getElem? (i := 1453) (by decide +kernel)⟩
def lw_privs_3 : List (MethodName × Nat) := [(⟨"SpatialPoints$Text", "accepts", "(C)Z"⟩, 7), (⟨"SpatialPoints$Text", "hasSign", "()Z"⟩, 7), (⟨"SpatialPoints$Text", "markFault", "()V"⟩, 7), (⟨"SpatialPoints$Text", "parseCoordinate", "(I)V"⟩, 7), (⟨"SpatialPoints$Text", "parseNumber", "(I)I"⟩, 7), (⟨"SpatialPoints$Text", "hasDigit", "()Z"⟩, 7), (⟨"SpatialPoints$Text", "putPart", "(II)V"⟩, 7), (⟨"SpatialPointsModel", "fails", "(I)I"⟩, 19), (⟨"SpatialPointsModel", "lives", "()I"⟩, 19), (⟨"SpatialPointsModel", "comes", "(IIIII)I"⟩, 19), (⟨"SpatialPointsModel", "hangs", "(I)V"⟩, 19), (⟨"SpatialPointsModel", "next", "(III)I"⟩, 19), (⟨"SpatialPointsModel", "isBefore", "(III)Z"⟩, 19), (⟨"SpatialPointsModel", "isUneven", "(I)Z"⟩, 19), (⟨"SpatialPointsModel", "sizeOf", "(I)I"⟩, 19), (⟨"SpatialPointsModel", "anew", "(I)V"⟩, 19)]
theorem lw_r3 : ∀ q ∈ lw_privs_3, lw_okq q := List.forall_mem_cons.mpr ⟨lw_p32, List.forall_mem_cons.mpr ⟨lw_p33, List.forall_mem_cons.mpr ⟨lw_p34, List.forall_mem_cons.mpr ⟨lw_p35, List.forall_mem_cons.mpr ⟨lw_p36, List.forall_mem_cons.mpr ⟨lw_p37, List.forall_mem_cons.mpr ⟨lw_p38, List.forall_mem_cons.mpr ⟨lw_p39, List.forall_mem_cons.mpr ⟨lw_p40, List.forall_mem_cons.mpr ⟨lw_p41, List.forall_mem_cons.mpr ⟨lw_p42, List.forall_mem_cons.mpr ⟨lw_p43, List.forall_mem_cons.mpr ⟨lw_p44, List.forall_mem_cons.mpr ⟨lw_p45, List.forall_mem_cons.mpr ⟨lw_p46, List.forall_mem_cons.mpr ⟨lw_p47, fun _ h => absurd h List.not_mem_nil⟩⟩⟩⟩⟩⟩⟩⟩⟩⟩⟩⟩⟩⟩⟩⟩
theorem lw_p48 : lw_okq (⟨"SpatialPointsModel", "depthOf", "(I)I"⟩, 19) := ⟨⟨by decide +kernel, by decide +kernel⟩, List.mem_of_getElem? (i := 1342) (by decide +kernel), List.mem_of_getElem? (i := 1456) (by decide +kernel), List.mem_of_getElem? (i := 1457) (by decide +kernel)⟩
theorem lw_p49 : lw_okq (⟨"SpatialPointsModel", "gathers", "(I)V"⟩, 19) := ⟨⟨by decide +kernel, by decide +kernel⟩, List.mem_of_getElem? (i := 1342) (by decide +kernel), List.mem_of_getElem? (i := 1460) (by decide +kernel), List.mem_of_getElem? (i := 1461) (by decide +kernel)⟩
theorem lw_p50 : lw_okq (⟨"SpatialPointsModel", "builds", "(IIII)I"⟩, 19) := ⟨⟨by decide +kernel, by decide +kernel⟩, List.mem_of_getElem? (i := 1342) (by decide +kernel), List.mem_of_getElem? (i := 1464) (by decide +kernel), List.mem_of_getElem? (i := 1465) (by decide +kernel)⟩
theorem lw_p51 : lw_okq (⟨"SpatialPointsModel", "sorts", "(III)V"⟩, 19) := ⟨⟨by decide +kernel, by decide +kernel⟩, List.mem_of_getElem? (i := 1342) (by decide +kernel), List.mem_of_getElem? (i := 1468) (by decide +kernel), List.mem_of_getElem? (i := 1469) (by decide +kernel)⟩
theorem lw_p52 : lw_okq (⟨"SpatialPointsModel", "isAlive", "(I)Z"⟩, 19) := ⟨⟨by decide +kernel, by decide +kernel⟩, List.mem_of_getElem? (i := 1342) (by decide +kernel), List.mem_of_getElem? (i := 1476) (by decide +kernel), List.mem_of_getElem? (i := 1477) (by decide +kernel)⟩
theorem lw_p53 : lw_okq (⟨"SpatialPointsModel", "isPoint", "(I)Z"⟩, 19) := ⟨⟨by decide +kernel, by decide +kernel⟩, List.mem_of_getElem? (i := 1342) (by decide +kernel), List.mem_of_getElem? (i := 1480) (by decide +kernel), List.mem_of_getElem? (i := 1481) (by decide +kernel)⟩
theorem lw_p54 : lw_okq (⟨"SpatialPointsModel", "deadNodes", "()I"⟩, 19) := ⟨⟨by decide +kernel, by decide +kernel⟩, List.mem_of_getElem? (i := 1342) (by decide +kernel), List.mem_of_getElem? (i := 1484) (by decide +kernel), List.mem_of_getElem? (i := 1485) (by decide +kernel)⟩
theorem lw_p55 : lw_okq (⟨"SpatialPointsModel", "nodes", "()I"⟩, 19) := ⟨⟨by decide +kernel, by decide +kernel⟩, List.mem_of_getElem? (i := 1342) (by decide +kernel), List.mem_of_getElem? (i := 1488) (by decide +kernel), List.mem_of_getElem? (i := 1489) (by decide +kernel)⟩
theorem lw_p56 : lw_okq (⟨"SpatialPointsModel", "mayShift", "(IIII)Z"⟩, 19) := ⟨⟨by decide +kernel, by decide +kernel⟩, List.mem_of_getElem? (i := 1342) (by decide +kernel), List.mem_of_getElem? (i := 1519) (by decide +kernel), List.mem_of_getElem? (i := 1520) (by decide +kernel)⟩
theorem lw_p57 : lw_okq (⟨"SpatialPointsModel", "isThere", "(I)Z"⟩, 19) := ⟨⟨by decide +kernel, by decide +kernel⟩, List.mem_of_getElem? (i := 1342) (by decide +kernel), List.mem_of_getElem? (i := 1531) (by decide +kernel), List.mem_of_getElem? (i := 1532) (by decide +kernel)⟩
theorem lw_p58 : lw_okq (⟨"SpatialPointsModel", "heightOf", "(I)I"⟩, 19) := ⟨⟨by decide +kernel, by decide +kernel⟩, List.mem_of_getElem? (i := 1342) (by decide +kernel), List.mem_of_getElem? (i := 1547) (by decide +kernel), List.mem_of_getElem? (i := 1548) (by decide +kernel)⟩
theorem lw_p59 : lw_okq (⟨"SpatialPointsModel", "livesOf", "(I)I"⟩, 19) := ⟨⟨by decide +kernel, by decide +kernel⟩, List.mem_of_getElem? (i := 1342) (by decide +kernel), List.mem_of_getElem? (i := 1555) (by decide +kernel), List.mem_of_getElem? (i := 1556) (by decide +kernel)⟩
theorem lw_p60 : lw_okq (⟨"SpatialPointsModel", "seen", "()I"⟩, 19) := ⟨⟨by decide +kernel, by decide +kernel⟩, List.mem_of_getElem? (i := 1342) (by decide +kernel), List.mem_of_getElem? (i := 1563) (by decide +kernel), List.mem_of_getElem? (i := 1564) (by decide +kernel)⟩
theorem lw_p61 : lw_okq (⟨"SpatialPointsModel", "isSeen", "(I)Z"⟩, 19) := ⟨⟨by decide +kernel, by decide +kernel⟩, List.mem_of_getElem? (i := 1342) (by decide +kernel), List.mem_of_getElem? (i := 1567) (by decide +kernel), List.mem_of_getElem? (i := 1568) (by decide +kernel)⟩
theorem lw_p62 : lw_okq (⟨"SpatialPointsModel", "lowOf", "(II)I"⟩, 19) := ⟨⟨by decide +kernel, by decide +kernel⟩, List.mem_of_getElem? (i := 1342) (by decide +kernel), List.mem_of_getElem? (i := 1575) (by decide +kernel), List.mem_of_getElem? (i := 1576) (by decide +kernel)⟩
theorem lw_p63 : lw_okq (⟨"SpatialPointsModel", "highOf", "(II)I"⟩, 19) := ⟨⟨by decide +kernel, by decide +kernel⟩, List.mem_of_getElem? (i := 1342) (by decide +kernel), List.mem_of_getElem? (i := 1582) (by decide +kernel), List.mem_of_getElem? (i := 1583) (by decide +kernel)⟩
def lw_privs_4 : List (MethodName × Nat) := [(⟨"SpatialPointsModel", "depthOf", "(I)I"⟩, 19), (⟨"SpatialPointsModel", "gathers", "(I)V"⟩, 19), (⟨"SpatialPointsModel", "builds", "(IIII)I"⟩, 19), (⟨"SpatialPointsModel", "sorts", "(III)V"⟩, 19), (⟨"SpatialPointsModel", "isAlive", "(I)Z"⟩, 19), (⟨"SpatialPointsModel", "isPoint", "(I)Z"⟩, 19), (⟨"SpatialPointsModel", "deadNodes", "()I"⟩, 19), (⟨"SpatialPointsModel", "nodes", "()I"⟩, 19), (⟨"SpatialPointsModel", "mayShift", "(IIII)Z"⟩, 19), (⟨"SpatialPointsModel", "isThere", "(I)Z"⟩, 19), (⟨"SpatialPointsModel", "heightOf", "(I)I"⟩, 19), (⟨"SpatialPointsModel", "livesOf", "(I)I"⟩, 19), (⟨"SpatialPointsModel", "seen", "()I"⟩, 19), (⟨"SpatialPointsModel", "isSeen", "(I)Z"⟩, 19), (⟨"SpatialPointsModel", "lowOf", "(II)I"⟩, 19), (⟨"SpatialPointsModel", "highOf", "(II)I"⟩, 19)]
theorem lw_r4 : ∀ q ∈ lw_privs_4, lw_okq q := List.forall_mem_cons.mpr ⟨lw_p48, List.forall_mem_cons.mpr ⟨lw_p49, List.forall_mem_cons.mpr ⟨lw_p50, List.forall_mem_cons.mpr ⟨lw_p51, List.forall_mem_cons.mpr ⟨lw_p52, List.forall_mem_cons.mpr ⟨lw_p53, List.forall_mem_cons.mpr ⟨lw_p54, List.forall_mem_cons.mpr ⟨lw_p55, List.forall_mem_cons.mpr ⟨lw_p56, List.forall_mem_cons.mpr ⟨lw_p57, List.forall_mem_cons.mpr ⟨lw_p58, List.forall_mem_cons.mpr ⟨lw_p59, List.forall_mem_cons.mpr ⟨lw_p60, List.forall_mem_cons.mpr ⟨lw_p61, List.forall_mem_cons.mpr ⟨lw_p62, List.forall_mem_cons.mpr ⟨lw_p63, fun _ h => absurd h List.not_mem_nil⟩⟩⟩⟩⟩⟩⟩⟩⟩⟩⟩⟩⟩⟩⟩⟩
theorem lw_p64 : lw_okq (⟨"SpatialPointsModel", "far", "(I)I"⟩, 19) := ⟨⟨by decide +kernel, by decide +kernel⟩, List.mem_of_getElem? (i := 1342) (by decide +kernel), List.mem_of_getElem? (i := 1616) (by decide +kernel), List.mem_of_getElem? (i := 1617) (by decide +kernel)⟩
theorem lw_p65 : lw_okq (⟨"SpatialPointsModel", "by", "(III)I"⟩, 19) := ⟨⟨by decide +kernel, by decide +kernel⟩, List.mem_of_getElem? (i := 1342) (by decide +kernel), List.mem_of_getElem? (i := 1623) (by decide +kernel), List.mem_of_getElem? (i := 1624) (by decide +kernel)⟩
theorem lw_p66 : lw_okq (⟨"SpatialPointsModel", "beside", "(II)I"⟩, 19) := ⟨⟨by decide +kernel, by decide +kernel⟩, List.mem_of_getElem? (i := 1342) (by decide +kernel), List.mem_of_getElem? (i := 1631) (by decide +kernel), List.mem_of_getElem? (i := 1632) (by decide +kernel)⟩
theorem lw_p67 : lw_okq (⟨"SpatialPointsModel", "ahead", "(I)I"⟩, 19) := ⟨⟨by decide +kernel, by decide +kernel⟩, List.mem_of_getElem? (i := 1342) (by decide +kernel), List.mem_of_getElem? (i := 1639) (by decide +kernel), List.mem_of_getElem? (i := 1640) (by decide +kernel)⟩
theorem lw_p68 : lw_okq (⟨"SpatialPointsModel", "between", "(II)I"⟩, 19) := ⟨⟨by decide +kernel, by decide +kernel⟩, List.mem_of_getElem? (i := 1342) (by decide +kernel), List.mem_of_getElem? (i := 1659) (by decide +kernel), List.mem_of_getElem? (i := 1660) (by decide +kernel)⟩
theorem lw_p69 : lw_okq (⟨"SpatialPointsModel", "closestTo", "(I)I"⟩, 19) := ⟨⟨by decide +kernel, by decide +kernel⟩, List.mem_of_getElem? (i := 1342) (by decide +kernel), List.mem_of_getElem? (i := 1667) (by decide +kernel), List.mem_of_getElem? (i := 1668) (by decide +kernel)⟩
theorem lw_p70 : lw_okq (⟨"SpatialPointsModel", "clustersBy", "(I)I"⟩, 19) := ⟨⟨by decide +kernel, by decide +kernel⟩, List.mem_of_getElem? (i := 1342) (by decide +kernel), List.mem_of_getElem? (i := 1675) (by decide +kernel), List.mem_of_getElem? (i := 1676) (by decide +kernel)⟩
theorem lw_p71 : lw_okq (⟨"SpatialPointsModel", "boxed", "(I)I"⟩, 19) := ⟨⟨by decide +kernel, by decide +kernel⟩, List.mem_of_getElem? (i := 1342) (by decide +kernel), List.mem_of_getElem? (i := 1691) (by decide +kernel), List.mem_of_getElem? (i := 1692) (by decide +kernel)⟩
theorem lw_p72 : lw_okq (⟨"SpatialPointsModel", "isInBox", "(I)Z"⟩, 19) := ⟨⟨by decide +kernel, by decide +kernel⟩, List.mem_of_getElem? (i := 1342) (by decide +kernel), List.mem_of_getElem? (i := 1695) (by decide +kernel), List.mem_of_getElem? (i := 1696) (by decide +kernel)⟩
theorem lw_p73 : lw_okq (⟨"SpatialPointsModel", "weightInBox", "()I"⟩, 19) := ⟨⟨by decide +kernel, by decide +kernel⟩, List.mem_of_getElem? (i := 1342) (by decide +kernel), List.mem_of_getElem? (i := 1707) (by decide +kernel), List.mem_of_getElem? (i := 1708) (by decide +kernel)⟩
theorem lw_p74 : lw_okq (⟨"SpatialPointsModel", "visitsFrom", "(I)I"⟩, 19) := ⟨⟨by decide +kernel, by decide +kernel⟩, List.mem_of_getElem? (i := 1342) (by decide +kernel), List.mem_of_getElem? (i := 1719) (by decide +kernel), List.mem_of_getElem? (i := 1720) (by decide +kernel)⟩
theorem lw_p75 : lw_okq (⟨"SpatialPointsModel", "meetsBox", "(I)Z"⟩, 19) := ⟨⟨by decide +kernel, by decide +kernel⟩, List.mem_of_getElem? (i := 1342) (by decide +kernel), List.mem_of_getElem? (i := 1723) (by decide +kernel), List.mem_of_getElem? (i := 1724) (by decide +kernel)⟩
theorem lw_p76 : lw_okq (⟨"SpatialPointsModel", "goesBefore", "(I)V"⟩, 19) := ⟨⟨by decide +kernel, by decide +kernel⟩, List.mem_of_getElem? (i := 1342) (by decide +kernel), List.mem_of_getElem? (i := 1731) (by decide +kernel), List.mem_of_getElem? (i := 1732) (by decide +kernel)⟩
theorem lw_p77 : lw_okq (⟨"SpatialPointsModel", "takes", "(I)V"⟩, 19) := ⟨⟨by decide +kernel, by decide +kernel⟩, List.mem_of_getElem? (i := 1342) (by decide +kernel), List.mem_of_getElem? (i := 1735) (by decide +kernel), List.mem_of_getElem? (i := 1736) (by decide +kernel)⟩
theorem lw_p78 : lw_okq (⟨"SpatialPointsModel", "goesBetween", "(I)V"⟩, 19) := ⟨⟨by decide +kernel, by decide +kernel⟩, List.mem_of_getElem? (i := 1342) (by decide +kernel), List.mem_of_getElem? (i := 1739) (by decide +kernel), List.mem_of_getElem? (i := 1740) (by decide +kernel)⟩
theorem lw_p79 : lw_okq (⟨"SpatialPointsModel", "goesLevel", "(II)V"⟩, 19) := ⟨⟨by decide +kernel, by decide +kernel⟩, List.mem_of_getElem? (i := 1342) (by decide +kernel), List.mem_of_getElem? (i := 1743) (by decide +kernel), List.mem_of_getElem? (i := 1744) (by decide +kernel)⟩
def lw_privs_5 : List (MethodName × Nat) := [(⟨"SpatialPointsModel", "far", "(I)I"⟩, 19), (⟨"SpatialPointsModel", "by", "(III)I"⟩, 19), (⟨"SpatialPointsModel", "beside", "(II)I"⟩, 19), (⟨"SpatialPointsModel", "ahead", "(I)I"⟩, 19), (⟨"SpatialPointsModel", "between", "(II)I"⟩, 19), (⟨"SpatialPointsModel", "closestTo", "(I)I"⟩, 19), (⟨"SpatialPointsModel", "clustersBy", "(I)I"⟩, 19), (⟨"SpatialPointsModel", "boxed", "(I)I"⟩, 19), (⟨"SpatialPointsModel", "isInBox", "(I)Z"⟩, 19), (⟨"SpatialPointsModel", "weightInBox", "()I"⟩, 19), (⟨"SpatialPointsModel", "visitsFrom", "(I)I"⟩, 19), (⟨"SpatialPointsModel", "meetsBox", "(I)Z"⟩, 19), (⟨"SpatialPointsModel", "goesBefore", "(I)V"⟩, 19), (⟨"SpatialPointsModel", "takes", "(I)V"⟩, 19), (⟨"SpatialPointsModel", "goesBetween", "(I)V"⟩, 19), (⟨"SpatialPointsModel", "goesLevel", "(II)V"⟩, 19)]
theorem lw_r5 : ∀ q ∈ lw_privs_5, lw_okq q := List.forall_mem_cons.mpr ⟨lw_p64, List.forall_mem_cons.mpr ⟨lw_p65, List.forall_mem_cons.mpr ⟨lw_p66, List.forall_mem_cons.mpr ⟨lw_p67, List.forall_mem_cons.mpr ⟨lw_p68, List.forall_mem_cons.mpr ⟨lw_p69, List.forall_mem_cons.mpr ⟨lw_p70, List.forall_mem_cons.mpr ⟨lw_p71, List.forall_mem_cons.mpr ⟨lw_p72, List.forall_mem_cons.mpr ⟨lw_p73, List.forall_mem_cons.mpr ⟨lw_p74, List.forall_mem_cons.mpr ⟨lw_p75, List.forall_mem_cons.mpr ⟨lw_p76, List.forall_mem_cons.mpr ⟨lw_p77, List.forall_mem_cons.mpr ⟨lw_p78, List.forall_mem_cons.mpr ⟨lw_p79, fun _ h => absurd h List.not_mem_nil⟩⟩⟩⟩⟩⟩⟩⟩⟩⟩⟩⟩⟩⟩⟩⟩
theorem lw_p80 : lw_okq (⟨"SpatialPointsModel", "faultOf", "()I"⟩, 19) := ⟨⟨by decide +kernel, by decide +kernel⟩, List.mem_of_getElem? (i := 1342) (by decide +kernel), List.mem_of_getElem? (i := 1763) (by decide +kernel), List.mem_of_getElem? (i := 1764) (by decide +kernel)⟩
theorem lw_p81 : lw_okq (⟨"SpatialPointsModel", "describes", "()Z"⟩, 19) := ⟨⟨by decide +kernel, by decide +kernel⟩, List.mem_of_getElem? (i := 1342) (by decide +kernel), List.mem_of_getElem? (i := 1767) (by decide +kernel), List.mem_of_getElem? (i := 1768) (by decide +kernel)⟩
theorem lw_p82 : lw_okq (⟨"SpatialPointsModel", "coordinates", "()Z"⟩, 19) := ⟨⟨by decide +kernel, by decide +kernel⟩, List.mem_of_getElem? (i := 1342) (by decide +kernel), List.mem_of_getElem? (i := 1771) (by decide +kernel), List.mem_of_getElem? (i := 1772) (by decide +kernel)⟩
theorem lw_p83 : lw_okq (⟨"SpatialPointsModel", "skips", "(I)Z"⟩, 19) := ⟨⟨by decide +kernel, by decide +kernel⟩, List.mem_of_getElem? (i := 1342) (by decide +kernel), List.mem_of_getElem? (i := 1775) (by decide +kernel), List.mem_of_getElem? (i := 1776) (by decide +kernel)⟩
theorem lw_p84 : lw_okq (⟨"SpatialPointsModel", "here", "()I"⟩, 19) := ⟨⟨by decide +kernel, by decide +kernel⟩, List.mem_of_getElem? (i := 1342) (by decide +kernel), List.mem_of_getElem? (i := 1779) (by decide +kernel), List.mem_of_getElem? (i := 1780) (by decide +kernel)⟩
theorem lw_p85 : lw_okq (⟨"SpatialPointsModel", "digits", "(I)Z"⟩, 19) := ⟨⟨by decide +kernel, by decide +kernel⟩, List.mem_of_getElem? (i := 1342) (by decide +kernel), List.mem_of_getElem? (i := 1783) (by decide +kernel), List.mem_of_getElem? (i := 1784) (by decide +kernel)⟩
theorem lw_p86 : lw_okq (⟨"SpatialPointsModel", "isDigit", "()Z"⟩, 19) := ⟨⟨by decide +kernel, by decide +kernel⟩, List.mem_of_getElem? (i := 1342) (by decide +kernel), List.mem_of_getElem? (i := 1787) (by decide +kernel), List.mem_of_getElem? (i := 1788) (by decide +kernel)⟩
theorem lw_p87 : lw_okq (⟨"SpatialPointsModel", "areInvalid", "()Z"⟩, 19) := ⟨⟨by decide +kernel, by decide +kernel⟩, List.mem_of_getElem? (i := 1342) (by decide +kernel), List.mem_of_getElem? (i := 1791) (by decide +kernel), List.mem_of_getElem? (i := 1792) (by decide +kernel)⟩
def lw_privs_6 : List (MethodName × Nat) := [(⟨"SpatialPointsModel", "faultOf", "()I"⟩, 19), (⟨"SpatialPointsModel", "describes", "()Z"⟩, 19), (⟨"SpatialPointsModel", "coordinates", "()Z"⟩, 19), (⟨"SpatialPointsModel", "skips", "(I)Z"⟩, 19), (⟨"SpatialPointsModel", "here", "()I"⟩, 19), (⟨"SpatialPointsModel", "digits", "(I)Z"⟩, 19), (⟨"SpatialPointsModel", "isDigit", "()Z"⟩, 19), (⟨"SpatialPointsModel", "areInvalid", "()Z"⟩, 19)]
theorem lw_r6 : ∀ q ∈ lw_privs_6, lw_okq q := List.forall_mem_cons.mpr ⟨lw_p80, List.forall_mem_cons.mpr ⟨lw_p81, List.forall_mem_cons.mpr ⟨lw_p82, List.forall_mem_cons.mpr ⟨lw_p83, List.forall_mem_cons.mpr ⟨lw_p84, List.forall_mem_cons.mpr ⟨lw_p85, List.forall_mem_cons.mpr ⟨lw_p86, List.forall_mem_cons.mpr ⟨lw_p87, fun _ h => absurd h List.not_mem_nil⟩⟩⟩⟩⟩⟩⟩⟩
def lw_privs : List (MethodName × Nat) := lw_privs_1 ++ (lw_privs_2 ++ (lw_privs_3 ++ (lw_privs_4 ++ (lw_privs_5 ++ (lw_privs_6)))))
def lw_tbl : List Cond := k2_sels lw_privs ++ tables_1
theorem lw_privs_ok : ∀ q ∈ lw_privs, lw_okq q := by
  show ∀ q ∈ lw_privs_1 ++ (lw_privs_2 ++ (lw_privs_3 ++ (lw_privs_4 ++ (lw_privs_5 ++ (lw_privs_6))))), lw_okq q
  exact List.forall_mem_append.mpr ⟨lw_r1, List.forall_mem_append.mpr ⟨lw_r2, List.forall_mem_append.mpr ⟨lw_r3, List.forall_mem_append.mpr ⟨lw_r4, List.forall_mem_append.mpr ⟨lw_r5, lw_r6⟩⟩⟩⟩⟩
/-- the streams that the claim lets the run draw from -/
abbrev lw_cs : List Choice := [Jvm.Choice.named "NaN.bits"]
theorem lw_bits : nanBits ∈ lw_cs := by first | decide | exact List.mem_cons_self | simp [lw_cs, nanBits]
end
section
/-! ===== END ===== -/

/-! ===== BEGIN exceptions that leave a method, and their catching by the caller (launches without stack traces) ===== -/
section VXA
/-! The laws vx_back, vx_callV, vx_callS, vx_callSW, vx_throw0, vx_throwS follow proofs of the library, with one case more: JvmDerived/Free/Laws.lean (Back.of_free), Shelf42/LK1.lean (callV, callS), Shelf/KitTraced.lean (throwNew0V, throwNewS). -/
/-- where a method has thrown q: the class by its name, the cell, what was written, the world -/
def vx_T (XC : String → State → State → Prop) (st : State) (q : Addr) (t : State) (mc ms : Nat) (free : Addr → Prop) : Prop :=
  ∃ (E : String) (ce : Cell) (L : List Loc), XC E st t ∧ t.heap[q]? = some ce ∧ ce.vm = .none ∧ st.vm.findClass E = some ce.cls ∧ st.WarmedH t.vm ∧ st.sameButNew ({ t with vm := st.vm } : State) L mc ms ∧ ∀ z ∈ L, free z.base
def vx_Q (Qc : Array Value → State → Outcome → State → Prop) (XC : String → State → State → Prop) (mc ms : Nat) (free : Addr → Prop) : Array Value → State → Outcome → State → Prop := fun a st o t =>
  (Qc a st o t ∧ ∃ L, FrameEnd st o t L mc ms ∧ ∀ q ∈ L, free q.base) ∨ ∃ q, o = .threw q ∧ vx_T XC st q t mc ms free
/-- a callee that returns or throws -/
def vx_Met (l : Launch) (y : MethodName) (ws : List Cond) (rm : Room) (Pc : Array Value → State → Prop) (Qc : Array Value → State → Outcome → State → Prop) (XC : String → State → State → Prop) (mc ms : Nat) (free : Addr → Prop) : Prop :=
  MetFree l y (headSpec ws rm) Pc (fun _ _ _ _ _ => True) (vx_Q Qc XC mc ms free)
def vx_Post (XC : String → State → State → Prop) (mc ms : Nat) (free : Addr → Prop) : Pt → Array Value → Addr → Pt → Prop := fun A a q B =>
  ∃ (g : JFrame) (mk : MethodId) (t : State) (L : List Loc) (E : String) (ce : Cell), B.U.heap = t.heap ∧ B.U.vm = t.vm ∧ XC E (A.U.calling g mk a) t ∧ t.heap[q]? = some ce ∧ ce.vm = .none ∧ A.U.vm.findClass E = some ce.cls ∧ B.locs = A.locs ++ L ∧ (∀ z ∈ L, free z.base) ∧ B.cells = A.cells + mc ∧ B.slots = A.slots + ms
def vx_Back (l : Launch) (R : Room) (p : Program) (e : Env) (below : List Frame) (s : State) (sargs : Array Value) (y : MethodName) (len W9 : Nat)
    (Pre : Pt → Array Value → Prop) (Post : Pt → Array Value → Option Value → Pt → Prop) (PostX : Pt → Array Value → Addr → Pt → Prop) : Prop :=
  ∀ (m : MethodId) (meth : Method) (c : Code) (A : Pt) (g : JFrame) (ig : Instr) (mk : MethodId) (a : Array Value),
    Stand p l e R s m sargs below meth c A.U A.locs A.cells A.slots → g.method = m → g.locals.size = c.maxLocals → decode c.code g.pc = .ok (ig, len) →
    2 * g.monitorRoom + (g.stack.map fun v => v.category).sum ≤ W9 → A.U.methodNamed? y = some mk → Pre A a →
    (∃ (v : Option Value) (B : Pt), Stand p l e R s m sargs below meth c B.U B.locs B.cells B.slots ∧ Post A a v B ∧
      Steps p.tables e below (doInvoke e (A.U.setTop g) [] mk a).1 (B.U.setTop { g with pc := g.pc + len, stack := v.toList ++ g.stack })) ∨
    (∃ (q : Addr) (B : Pt), Stand p l e R s m sargs below meth c B.U B.locs B.cells B.slots ∧ PostX A a q B ∧
      Steps p.tables e below (doInvoke e (A.U.setTop g) [] mk a).1 ((B.U.setTop g).pushFrame (.throwing q)))
section Payer
variable {l : Launch} {R : Room} {p : Program} {e : Env} {below : List Frame} {s : State} {sargs : Array Value} {y : MethodName} {len W9 : Nat}
theorem vx_back {ws : List Cond} {rm : Room} {Pc : Array Value → State → Prop} {Qc : Array Value → State → Outcome → State → Prop} {XC : String → State → State → Prop} {mc ms : Nat} {free : Addr → Prop} {bytes : ByteArray} {maxL : Nat} {ret : Option FieldType}
    (hM : vx_Met l y ws rm Pc Qc XC mc ms free) (hblind : FrameBlind Pc) (hrc : rm.cells = mc) (hrs : rm.slots = ms)
    (hframes : rm.frames + 1 ≤ R.frames) (hlocals : W9 + (maxL + 11) + rm.locals ≤ R.locals)
    (hws : ∀ w ∈ ws, ∀ a' U, s.WarmedH U.vm → w.before a' U = true) (hcode : Cond.code y bytes maxL ret ∈ ws) (hinit : ∀ a' U, s.WarmedH U.vm → (Cond.initialized y.cls).before a' U = true) :
    vx_Back l R p e below s sargs y len W9 (PreOf R mc ms Pc) (PostOf Qc mc ms free) (vx_Post XC mc ms free) := by
  intro m meth c A g ig mk a X hg hsize hdg hW hn hp
  have h1 : (headSpec ws rm).pre.before a A.U = true := atoms_intro fun w hw => hws w hw _ _ X.warmed
  have h2 : (Cond.code y bytes maxL ret).before a A.U = true := hws _ hcode _ _ X.warmed
  have h3 : (Cond.initialized y.cls).before a A.U = true := hinit _ _ X.warmed
  have h4 : A.cells + (headSpec ws rm).room.cells ≤ R.cells := by rw [show (headSpec ws rm).room.cells = mc from hrc]; exact hp.1
  have h5 : A.slots + (headSpec ws rm).room.slots ≤ R.slots := by rw [show (headSpec ws rm).room.slots = ms from hrs]; exact hp.2.1
  have hPc : Pc a (A.U.calling g mk a) := hblind _ _ _ _ hp.2.2
  obtain ⟨U, Ls, c0, s0⟩ := A
  dsimp only [Pt.U, Pt.locs, Pt.cells, Pt.slots] at h1 h2 h3 h4 h5 X hn hPc ⊢
  obtain ⟨methY, cY, hmY, hcY, -, hlY, -, -, -, -⟩ := Cond.code_spec hn h2
  obtain ⟨kY, hkY, -⟩ := className_of_methodNamed hn
  have hinitY : kY.init = .initialized := Cond.initialized_spec (findClass_of_methodNamed hn) hkY h3
  have h : At U g.method c below := by rw [hg]; exact X.here
  have hlocals9 : W9 + (maxL + 11) + (headSpec ws rm).room.locals ≤ R.locals := hlocals
  have happ : (headSpec ws rm).appliesLoose y e.platform (U.calling g mk a) = true :=
    Spec.appliesLoose_calling (g := g) h hdg hn hkY hinitY
      (X.room_calling (g := g) (R' := (headSpec ws rm).room) hsize hmY hcY hframes (by rw [hlY]; omega) h4 h5) h1
  obtain ⟨mid, hmid⟩ := h.above
  have hfr : (U.setTop g).frames = (.java g :: mid) ++ below := by rw [State.frames_setTop' g h.top, hmid]; rfl
  obtain ⟨o, s₂, hsteps, -, hend, hq⟩ := Steps.callFree hM p X.admits X.cas X.clock (acts := []) hfr happ hPc trivial
  have hq' : vx_Q Qc XC mc ms free a (U.calling g mk a) o s₂ := hq
  rw [State.frames_setTop' g h.top] at hend
  obtain ⟨g₀, hg0⟩ := Option.isSome_iff_exists.mp h.top
  obtain ⟨r, hr⟩ := State.topJava?_eq_some.mp hg0
  have hr' : (({ U with heap := s₂.heap, slotsUsed := s₂.slotsUsed } : State).setVm s₂.vm).frames = .java g₀ :: r := hr
  rcases hq' with ⟨hqc, L, hfe, hL⟩ | ⟨q, rfl, E, ce, L, hx, hce, hcv, hcl, hW₂, hsm, hL⟩
  · obtain ⟨⟨v, rfl⟩, hW₂, e2, q2, q3, q4, q5, q6⟩ := id hfe
    have e3 : s₂ = ({ (U.calling g mk a).setFrames s₂.frames with heap := s₂.heap, slotsUsed := s₂.slotsUsed } : State).setVm s₂.vm := by
      have : s₂ = ({ s₂ with vm := (U.calling g mk a).vm } : State).setVm s₂.vm := rfl
      rw [e2] at this
      exact this
    obtain ⟨c₂, i₂, len₂, hc₂, hd₂, hf₂⟩ := hend
    have hW' : U.WarmedH s₂.vm := hW₂
    have hcc : c₂ = c := by
      have h1 : s₂.code? g.method = U.code? g.method := by
        rw [State.code?_eq, State.code?_eq, hW'.alike.method?]
      exact Option.some.inj (hc₂.symm.trans (h1.trans h.code))
    subst hcc
    have hlen : len₂ = len := by rw [hdg] at hd₂; cases hd₂; rfl
    subst hlen
    have hs₂ : s₂ = (({ U with heap := s₂.heap, slotsUsed := s₂.slotsUsed } : State).setVm s₂.vm).setTop { g with pc := g.pc + len₂, stack := v.toList ++ g.stack } := by
      refine e3.trans ?_
      rw [hf₂, State.calling_eq h.top, State.setFrames_setFrames, State.setTop_of_frames _ hr', hr]
      rfl
    have hsame : U.sameButNew ({ U with heap := s₂.heap, slotsUsed := s₂.slotsUsed } : State) L mc ms := by
      refine ⟨?_, q2, q3, q4, q5, q6⟩
      obtain ⟨t, ht, -⟩ := State.frames_cons hr
      show ({ U with heap := s₂.heap, slotsUsed := s₂.slotsUsed } : State) = { U.setFrames U.frames with heap := s₂.heap, slotsUsed := s₂.slotsUsed }
      rw [State.setFrames_self ht]
    subst hg
    refine Or.inl ⟨v, ⟨(({ U with heap := s₂.heap, slotsUsed := s₂.slotsUsed } : State).setVm s₂.vm), Ls ++ L, c0 + mc, s0 + ms⟩,
      ⟨X.admits, X.cas, X.clock, X.frames, X.room, X.hears, X.method, X.code, (X.here.setHeapUsed s₂.heap s₂.slotsUsed).setVm hW'.alike, X.tail, State.WarmedH.trans X.warmed hW', X.limits, X.bytes, X.same.trans (hsame.setVm s.vm)⟩,
      ⟨g, mk, s₂, L, rfl, rfl, hqc, rfl, hL, rfl, rfl⟩, ?_⟩
    show Steps p.tables e below _ ((({ U with heap := s₂.heap, slotsUsed := s₂.slotsUsed } : State).setVm s₂.vm).setTop { g with pc := g.pc + len₂, stack := v.toList ++ g.stack })
    rw [← hs₂]
    exact hsteps
  · obtain ⟨e2, q2, q3, q4, q5, q6⟩ := id hsm
    have e3 : s₂ = ({ (U.calling g mk a).setFrames s₂.frames with heap := s₂.heap, slotsUsed := s₂.slotsUsed } : State).setVm s₂.vm := by
      have : s₂ = ({ s₂ with vm := (U.calling g mk a).vm } : State).setVm s₂.vm := rfl
      rw [e2] at this
      exact this
    have hf₂ : s₂.frames = .throwing q :: .java g :: U.frames.tail := hend
    have hW' : U.WarmedH s₂.vm := hW₂
    have hs₂ : s₂ = ((({ U with heap := s₂.heap, slotsUsed := s₂.slotsUsed } : State).setVm s₂.vm).setTop g).pushFrame (.throwing q) := by
      refine e3.trans ?_
      rw [hf₂, State.calling_eq h.top, State.setFrames_setFrames, State.pushFrame, State.frames_setTop _ hr', State.setTop_of_frames _ hr', State.setFrames_setFrames, hr]
      rfl
    have hsame : U.sameButNew ({ U with heap := s₂.heap, slotsUsed := s₂.slotsUsed } : State) L mc ms := by
      refine ⟨?_, q2, q3, q4, q5, q6⟩
      obtain ⟨t, ht, -⟩ := State.frames_cons hr
      show ({ U with heap := s₂.heap, slotsUsed := s₂.slotsUsed } : State) = { U.setFrames U.frames with heap := s₂.heap, slotsUsed := s₂.slotsUsed }
      rw [State.setFrames_self ht]
    subst hg
    refine Or.inr ⟨q, ⟨(({ U with heap := s₂.heap, slotsUsed := s₂.slotsUsed } : State).setVm s₂.vm), Ls ++ L, c0 + mc, s0 + ms⟩,
      ⟨X.admits, X.cas, X.clock, X.frames, X.room, X.hears, X.method, X.code, (X.here.setHeapUsed s₂.heap s₂.slotsUsed).setVm hW'.alike, X.tail, State.WarmedH.trans X.warmed hW', X.limits, X.bytes, X.same.trans (hsame.setVm s.vm)⟩,
      ⟨g, mk, s₂, L, E, ce, rfl, rfl, hx, hce, hcv, hcl, rfl, hL, rfl, rfl⟩, ?_⟩
    show Steps p.tables e below _ (((({ U with heap := s₂.heap, slotsUsed := s₂.slotsUsed } : State).setVm s₂.vm).setTop g).pushFrame (.throwing q))
    rw [← hs₂]
    exact hsteps
end Payer
section Calls
variable {p : Program} {l : Launch} {e : Env} {R : Room} {s : State} {m : MethodId} {args : Array Value} {below : List Frame} {meth : Method} {c : Code} {T : State} {locs : List Loc} {cells slots : Nat}
theorem vx_callV (X : Stand p l e R s m args below meth c T locs cells slots) (hexec : p.tables.exec = Jvm.exec) {own C : String} {index : Nat} {y : MethodName} {bytes : ByteArray} {maxL : Nat} {ret : Option FieldType}
    (hown : s.vm.findClass own = some m.cls) (hlink : (Cond.methodLink own index y).before args s = true) (hinst : (Cond.instanceMethod y).before args s = true) (hsel : (Cond.selects C y y).before args s = true)
    (hcode : (Cond.code y bytes maxL ret).before args s = true) (hy : y.cls ≠ "java/lang/invoke/MethodHandle" ∧ y.cls ≠ "java/lang/invoke/VarHandle")
    {W9 : Nat} {Pre : Pt → Array Value → Prop} {Post : Pt → Array Value → Option Value → Pt → Prop} {PostX : Pt → Array Value → Addr → Pt → Prop} (hK : vx_Back l R p e below s args y 3 W9 Pre Post PostX)
    {b : Addr} {cellB : Cell} (hcell : T.heap[b]? = some cellB) (hobj : cellB.vm.isStatics = false) (hcls : s.vm.findClass C = some cellB.cls)
    {g : JFrame} (hg : g.method = m) (hsize : g.locals.size = c.maxLocals) {argsL rest : List Value} (hlen : ∀ sig, parseMethodDescriptor y.desc = some sig → argsL.length = sig.parameters.length)
    (hstack : g.stack = argsL.reverse ++ .ref b :: rest) (hW : 2 * g.monitorRoom + (rest.map fun v => v.category).sum ≤ W9) (hdg : decode c.code g.pc = .ok (.invokevirtual index, 3))
    (hpre : ∀ vm₁, s.WarmedH vm₁ → Pre ⟨T.setVm vm₁, locs, cells, slots⟩ (Value.ref b :: argsL).toArray) :
    (∃ (v : Option Value) (vm₁ : Vm) (B : Pt), s.WarmedH vm₁ ∧ Stand p l e R s m args below meth c B.U B.locs B.cells B.slots ∧ Post ⟨T.setVm vm₁, locs, cells, slots⟩ (Value.ref b :: argsL).toArray v B ∧
      ∀ target, Steps p.tables e below (B.U.setTop { g with pc := g.pc + 3, stack := v.toList ++ rest }) target → Steps p.tables e below (T.setTop g) target) ∨
    (∃ (q : Addr) (vm₁ : Vm) (B : Pt), s.WarmedH vm₁ ∧ Stand p l e R s m args below meth c B.U B.locs B.cells B.slots ∧ PostX ⟨T.setVm vm₁, locs, cells, slots⟩ (Value.ref b :: argsL).toArray q B ∧
      Steps p.tables e below (T.setTop g) ((B.U.setTop { g with stack := rest }).pushFrame (.throwing q))) := by
  obtain ⟨mk, methM, hnamed, hmethM, hstM, habM⟩ := Cond.instanceMethod_spec hinst
  obtain ⟨methM', cM, hmethM', -, -, -, -, -, -, hsigM⟩ := Cond.code_spec hnamed hcode
  cases hmethM.symm.trans hmethM'
  obtain ⟨c2, r2, m2, q1, q2, q3, q4, kP, hkP, hkPi⟩ := Cond.selects_spec hsel
  cases hcls.symm.trans q1
  cases (State.methodFound?_of_named hnamed hy).symm.trans q2
  cases hnamed.symm.trans q3
  have hselP : selectMethod e.platform s.vm cellB.cls mk = .method mk := by rw [Launch.admits_selectMethod X.admits]; exact q4
  obtain ⟨vm₁, X₁, hstep₁⟩ := X.invokevirtual hexec hown hlink hnamed hmethM hstM hkP hkPi hy (a := b) (cell := cellB) hcell
    (fun z h => by rw [h] at hobj; cases hobj) hselP hmethM habM hkP hkPi (g := g) hg (argsL := argsL) (rest := rest) (hlen _ hsigM) hstack hdg
  rcases hK m meth c ⟨T.setVm vm₁, locs, cells, slots⟩ { g with stack := rest } (.invokevirtual index) mk (Value.ref b :: argsL).toArray X₁ hg hsize hdg hW (X₁.named hnamed) (hpre vm₁ X₁.warmed) with ⟨v, B, X', hpost, hsteps⟩ | ⟨q, B, X', hpost, hsteps⟩
  · exact Or.inl ⟨v, vm₁, B, X₁.warmed, X', hpost, fun target h => hstep₁ _ fun acts => by rw [doInvoke_state]; exact hsteps.trans h⟩
  · exact Or.inr ⟨q, vm₁, B, X₁.warmed, X', hpost, hstep₁ _ fun acts => by rw [doInvoke_state]; exact hsteps⟩
theorem vx_callS (X : Stand p l e R s m args below meth c T locs cells slots) (hexec : p.tables.exec = Jvm.exec) {own : String} {index : Nat} {y : MethodName} {bytes : ByteArray} {maxL : Nat} {ret : Option FieldType}
    (hown : s.vm.findClass own = some m.cls) (hlink : (Cond.methodLink own index y).before args s = true) (hstat : (Cond.static y).before args s = true) (hinit : (Cond.initialized y.cls).before args s = true)
    (hcode : (Cond.code y bytes maxL ret).before args s = true) (hy : y.cls ≠ "java/lang/invoke/MethodHandle" ∧ y.cls ≠ "java/lang/invoke/VarHandle")
    {W9 : Nat} {Pre : Pt → Array Value → Prop} {Post : Pt → Array Value → Option Value → Pt → Prop} {PostX : Pt → Array Value → Addr → Pt → Prop} (hK : vx_Back l R p e below s args y 3 W9 Pre Post PostX)
    {g : JFrame} (hg : g.method = m) (hsize : g.locals.size = c.maxLocals) {argsL rest : List Value} (hlen : ∀ sig, parseMethodDescriptor y.desc = some sig → argsL.length = sig.parameters.length)
    (hstack : g.stack = argsL.reverse ++ rest) (hW : 2 * g.monitorRoom + (rest.map fun v => v.category).sum ≤ W9) (hdg : decode c.code g.pc = .ok (.invokestatic index, 3))
    (hpre : ∀ vm₁, s.WarmedH vm₁ → Pre ⟨T.setVm vm₁, locs, cells, slots⟩ argsL.toArray) :
    (∃ (v : Option Value) (vm₁ : Vm) (B : Pt), s.WarmedH vm₁ ∧ Stand p l e R s m args below meth c B.U B.locs B.cells B.slots ∧ Post ⟨T.setVm vm₁, locs, cells, slots⟩ argsL.toArray v B ∧
      ∀ target, Steps p.tables e below (B.U.setTop { g with pc := g.pc + 3, stack := v.toList ++ rest }) target → Steps p.tables e below (T.setTop g) target) ∨
    (∃ (q : Addr) (vm₁ : Vm) (B : Pt), s.WarmedH vm₁ ∧ Stand p l e R s m args below meth c B.U B.locs B.cells B.slots ∧ PostX ⟨T.setVm vm₁, locs, cells, slots⟩ argsL.toArray q B ∧
      Steps p.tables e below (T.setTop g) ((B.U.setTop { g with stack := rest }).pushFrame (.throwing q))) := by
  obtain ⟨mk, hnamed⟩ := Cond.code_named hcode
  obtain ⟨methM, cM, hmethM, -, -, -, -, -, -, hsigM⟩ := Cond.code_spec hnamed hcode
  have hstatic : methM.isStatic = true := Cond.static_spec hnamed hmethM hstat
  obtain ⟨kP, hkP, -⟩ := className_of_methodNamed hnamed
  have hinitP : kP.init = .initialized := Cond.initialized_spec (findClass_of_methodNamed hnamed) hkP hinit
  obtain ⟨vm₁, X₁, hstep₁⟩ := X.invokestatic hexec hown hlink hnamed hmethM hstatic hkP hinitP hy (g := g) hg (argsL := argsL) (rest := rest) (hlen _ hsigM) hstack hdg
  rcases hK m meth c ⟨T.setVm vm₁, locs, cells, slots⟩ { g with stack := rest } (.invokestatic index) mk argsL.toArray X₁ hg hsize hdg hW (X₁.named hnamed) (hpre vm₁ X₁.warmed) with ⟨v, B, X', hpost, hsteps⟩ | ⟨q, B, X', hpost, hsteps⟩
  · exact Or.inl ⟨v, vm₁, B, X₁.warmed, X', hpost, fun target h => hstep₁ _ fun acts => by rw [doInvoke_state]; exact hsteps.trans h⟩
  · exact Or.inr ⟨q, vm₁, B, X₁.warmed, X', hpost, hstep₁ _ fun acts => by rw [doInvoke_state]; exact hsteps⟩
end Calls
theorem vx_cls {s : State} {T : State} {vm₁ : Vm} {E : String} {k : ClassId} (hW : s.WarmedH vm₁) (h : (T.setVm vm₁).vm.findClass E = some k) : s.vm.findClass E = some k := by
  have h1 : vm₁.findClass E = some k := h
  rw [hW.alike.findClass] at h1
  exact h1
/-- the method's frame g, with q thrown over it -/
def vx_W (p : Program) (l : Launch) (e : Env) (R : Room) (s : State) (m : MethodId) (args : Array Value) (below : List Frame) (meth : Method) (c : Code) (H : Heap) (locs : List Loc) (cells slots : Nat) (Q : State → Prop) (g : JFrame) (q : Addr) : Prop :=
  ∀ T : State, T.heap = H → Stand p l e R s m args below meth c T locs cells slots → ∃ t, Steps p.tables e below ((T.setTop g).pushFrame (.throwing q)) t ∧ Q t
def vx_Run (p : Program) (l : Launch) (e : Env) (R : Room) (s : State) (m : MethodId) (args : Array Value) (below : List Frame) (meth : Method) (c : Code) (H : Heap) (locs : List Loc) (cells slots mc ms : Nat) (g : JFrame) (rest : List Value) (Qa : State → Outcome → State → Prop) (XC : String → State → State → Prop) (free : Addr → Prop) : Prop :=
  ∀ T : State, T.heap = H → Stand p l e R s m args below meth c T locs cells slots →
    (∃ (v : Option Value) (st₀ t T' : State) (L : List Loc), st₀.heap = H ∧ Stand p l e R s m args below meth c T' (locs ++ L) (cells + mc) (slots + ms) ∧ (∀ q ∈ L, free q.base) ∧ T'.heap = t.heap ∧ T'.vm = t.vm ∧ Qa st₀ (.returned v) t ∧
      Goes p e below T g T' { g with pc := g.pc + 3, stack := v.toList ++ rest }) ∨
    (∃ (q : Addr) (st₀ t T' : State) (L : List Loc) (E : String) (ce : Cell), st₀.heap = H ∧ Stand p l e R s m args below meth c T' (locs ++ L) (cells + mc) (slots + ms) ∧ (∀ z ∈ L, free z.base) ∧ T'.heap = t.heap ∧ T'.vm = t.vm ∧ XC E st₀ t ∧ t.heap[q]? = some ce ∧ ce.vm = .none ∧ s.vm.findClass E = some ce.cls ∧
      Steps p.tables e below (T.setTop g) ((T'.setTop { g with stack := rest }).pushFrame (.throwing q)))
def vx_X {S : Type} (px : S → Prop) (B : String → S → State → Prop) (A : Nat → Prop) : String → State → State → Prop := fun E st t => ∃ u : S, px u ∧ B E u t ∧ va_F A st t
section Runs
variable {p : Program} {l : Launch} {e : Env} {R : Room} {s : State} {m : MethodId} {args : Array Value} {below : List Frame} {meth : Method} {c : Code} {H : Heap} {locs : List Loc} {cells slots : Nat}
variable {y : MethodName} {bytes cc : ByteArray} {maxL nL mc ms n index : Nat} {ret : Option FieldType} {ws : List Cond} {rm : Room} {Pc : Array Value → State → Prop} {Qc : Array Value → State → Outcome → State → Prop} {XC : String → State → State → Prop} {free : Addr → Prop} {Ts : List Cond} {own C : String} {b : Addr} {As rest : List Value} {g : JFrame}
theorem vx_callBack (cb : CallB R s args own index y bytes maxL ret ws rm mc ms n) (hM : vx_Met l y ws rm Pc Qc XC mc ms free) (hbl : FrameBlind Pc) : vx_Back l R p e below s args y 3 8 (PreOf R mc ms Pc) (PostOf Qc mc ms free) (vx_Post XC mc ms free) := by
  obtain ⟨hrc, hrs, hfr, hlo, hws, hcw, -, hini, -⟩ := cb
  exact vx_back (bytes := bytes) (maxL := maxL) (ret := ret) hM hbl hrc hrs hfr hlo hws hcw (fun a' U hW => word_at hW (Or.inl (by first | rfl | simp [Cond.onTables, Cond.keeps, Cond.steady])) hini)
theorem vx_runV (S : CallFix p m c cc nL s args Ts own) (hM : vx_Met l y ws rm Pc Qc XC mc ms free) (cw : CallW R s args own C index y bytes maxL ret ws rm mc ms n) (hp : PreV s H C b Pc As)
    (hg : g.method = m) (hn : As.length = n) (hsize : g.locals.size = nL) (hstack : g.stack = As.reverse ++ .ref b :: rest) (hW : 2 * g.monitorRoom + (rest.map fun v => v.category).sum ≤ 8) (hdg : decode cc g.pc = .ok (.invokevirtual index, 3)) (hf : cells + mc ≤ R.cells ∧ slots + ms ≤ R.slots) :
    vx_Run p l e R s m args below meth c H locs cells slots mc ms g rest (Qc (Value.ref b :: As).toArray) XC free := by
  have hK : vx_Back l R p e below s args y 3 8 (PreOf R mc ms Pc) (PostOf Qc mc ms free) (vx_Post XC mc ms free) := vx_callBack cw.1 hM hp.1
  obtain ⟨⟨-, -, -, -, -, -, hcode, -, hy, hlen, hl⟩, hin, hse⟩ := cw
  obtain ⟨hx, hb, hml, ho, -⟩ := S
  obtain ⟨-, ⟨cellB, hcB, hoB, hclB⟩, hPc⟩ := hp
  intro T hT X
  rcases vx_callV X hx (C := C) (bytes := bytes) (maxL := maxL) (ret := ret) ho hl hin hse hcode hy hK (by rw [hT]; exact hcB) hoB hclB hg (hsize.trans hml.symm) (argsL := As) (rest := rest) (fun sig h => hn.trans (hlen sig h)) hstack hW (by rw [hb]; exact hdg)
    (fun vm₁ hW₁ => ⟨hf.1, hf.2, hPc (T.setVm vm₁) hT hW₁⟩) with ⟨v, vm₁, ⟨U', l2, c2, s2⟩, hW₁, X', ⟨g', mk, t, L, e1, e2, hq, h1, hL, h2, h3⟩, st⟩ | ⟨q, vm₁, ⟨U', l2, c2, s2⟩, hW₁, X', ⟨g', mk, t, L, E, ce, e1, e2, hq, hce, hcv, hcl, h1, hL, h2, h3⟩, st⟩
  · dsimp only [Pt.U, Pt.locs, Pt.cells, Pt.slots] at X' e1 e2 h1 h2 h3 st
    subst h1; subst h2; subst h3
    exact Or.inl ⟨v, (T.setVm vm₁).calling g' mk (Value.ref b :: As).toArray, t, U', L, hT, X', hL, e1, e2, hq, st⟩
  · dsimp only [Pt.U, Pt.locs, Pt.cells, Pt.slots] at X' e1 e2 h1 h2 h3 st hcl
    subst h1; subst h2; subst h3
    exact Or.inr ⟨q, (T.setVm vm₁).calling g' mk (Value.ref b :: As).toArray, t, U', L, E, ce, hT, X', hL, e1, e2, hq, hce, hcv, vx_cls hW₁ hcl, st⟩
theorem vx_runS (S : CallFix p m c cc nL s args Ts own) (hM : vx_Met l y ws rm Pc Qc XC mc ms free) (cw : CallB R s args own index y bytes maxL ret ws rm mc ms n ∧ (Cond.static y).before args s = true) (hp : PreS s H Pc As)
    (hg : g.method = m) (hn : As.length = n) (hsize : g.locals.size = nL) (hstack : g.stack = As.reverse ++ rest) (hW : 2 * g.monitorRoom + (rest.map fun v => v.category).sum ≤ 8) (hdg : decode cc g.pc = .ok (.invokestatic index, 3)) (hf : cells + mc ≤ R.cells ∧ slots + ms ≤ R.slots) :
    vx_Run p l e R s m args below meth c H locs cells slots mc ms g rest (Qc As.toArray) XC free := by
  have hK : vx_Back l R p e below s args y 3 8 (PreOf R mc ms Pc) (PostOf Qc mc ms free) (vx_Post XC mc ms free) := vx_callBack cw.1 hM hp.1
  obtain ⟨⟨-, -, -, -, -, -, hcode, hini, hy, hlen, hl⟩, hstt⟩ := cw
  obtain ⟨hx, hb, hml, ho, -⟩ := S
  intro T hT X
  rcases vx_callS X hx (bytes := bytes) (maxL := maxL) (ret := ret) ho hl hstt hini hcode hy hK hg (hsize.trans hml.symm) (argsL := As) (rest := rest) (fun sig h => hn.trans (hlen sig h)) hstack hW (by rw [hb]; exact hdg)
    (fun vm₁ hW₁ => ⟨hf.1, hf.2, hp.2 (T.setVm vm₁) hT hW₁⟩) with ⟨v, vm₁, ⟨U', l2, c2, s2⟩, hW₁, X', ⟨g', mk, t, L, e1, e2, hq, h1, hL, h2, h3⟩, st⟩ | ⟨q, vm₁, ⟨U', l2, c2, s2⟩, hW₁, X', ⟨g', mk, t, L, E, ce, e1, e2, hq, hce, hcv, hcl, h1, hL, h2, h3⟩, st⟩
  · dsimp only [Pt.U, Pt.locs, Pt.cells, Pt.slots] at X' e1 e2 h1 h2 h3 st
    subst h1; subst h2; subst h3
    exact Or.inl ⟨v, (T.setVm vm₁).calling g' mk As.toArray, t, U', L, hT, X', hL, e1, e2, hq, st⟩
  · dsimp only [Pt.U, Pt.locs, Pt.cells, Pt.slots] at X' e1 e2 h1 h2 h3 st hcl
    subst h1; subst h2; subst h3
    exact Or.inr ⟨q, (T.setVm vm₁).calling g' mk As.toArray, t, U', L, E, ce, hT, X', hL, e1, e2, hq, hce, hcv, vx_cls hW₁ hcl, st⟩
end Runs
section Rows
variable {p : Program} {l : Launch} {e : Env} {R : Room} {s : State} {m : MethodId} {args : Array Value} {below : List Frame} {meth : Method} {c : Code} {H : Heap} {locs : List Loc} {cells slots : Nat} {Q : State → Prop}
variable {mc ms : Nat} {free : Addr → Prop} {A0 A1 : Nat → Prop} {H0 : Heap} {a : Array Value} {pc : Nat} {ls : Array Slot} {st0 rest : List Value}
theorem vx_keep {st₀ t T' : State} {L : List Loc} (h0 : st₀.heap = H) (e1 : T'.heap = t.heap) (hS : va_S A0 H0 H locs) (hA : ∀ q, q < H.size → A1 q → A0 q) (hf : ∀ q, free q → A0 q) (hL : ∀ q ∈ L, free q.base) (hF : va_F A1 st₀ t) :
    H.size ≤ T'.heap.size ∧ (∀ q : Nat, q < H.size → ¬ A1 q → T'.heap[q]? = H[q]?) ∧ va_S A0 H0 T'.heap (locs ++ L) := by
  obtain ⟨hz, hk⟩ := hF
  rw [h0] at hz hk
  exact ⟨by rw [e1]; exact hz, fun q h1 h2 => by rw [e1]; exact hk q h1 h2,
    ⟨Nat.le_trans hS.1 (by rw [e1]; exact hz), fun q h1 h2 => by rw [e1, hk q (Nat.lt_of_lt_of_le h1 hS.1) (fun z => h2 (hA q (Nat.lt_of_lt_of_le h1 hS.1) z))]; exact hS.2.1 q h1 h2, fun q hq => by
      rcases List.mem_append.mp hq with h | h
      · exact hS.2.2 q h
      · exact hf _ (hL q h)⟩⟩
theorem vx_calli {S SX : Type} {post : Int32 → S → Prop} {px : SX → Prop} {B : S → State → Prop} {BX : String → SX → State → Prop} {AX : Nat → Prop} (hr : vx_Run p l e R s m args below meth c H locs cells slots mc ms (F0 m pc ls st0) rest (va_Qi post B A1 a) (vx_X px BX AX) free) (hS : va_S A0 H0 H locs) (hA : ∀ q, q < H.size → A1 q → A0 q) (hf : ∀ q, free q → A0 q) (hAX : ∀ q, q < H.size → AX q → A0 q)
    (kx : ∀ (E : String) (ce : Cell) (q9 : Addr) (u : SX) (t : State) (H1 : Heap) (locs1 : List Loc), t.heap = H1 → s.vm.Alike t.vm → px u → BX E u t → H.size ≤ H1.size → (∀ q : Nat, q < H.size → ¬ AX q → H1[q]? = H[q]?) → va_S A0 H0 H1 locs1 → H1[q9]? = some ce → ce.vm = .none → s.vm.findClass E = some ce.cls → vx_W p l e R s m args below meth c H1 locs1 (cells + mc) (slots + ms) Q (F0 m pc ls rest) q9)
    (kk : ∀ (r : Int32) (u : S) (t : State) (H1 : Heap) (locs1 : List Loc), t.heap = H1 → s.vm.Alike t.vm → post r u → B u t → H.size ≤ H1.size → (∀ q : Nat, q < H.size → ¬ A1 q → H1[q]? = H[q]?) → va_S A0 H0 H1 locs1 → W p l e R s m args below meth c H1 locs1 (cells + mc) (slots + ms) Q (F0 m (pc + 3) ls (.int r :: rest))) : W p l e R s m args below meth c H locs cells slots Q (F0 m pc ls st0) := by
  intro T hT X
  rcases hr T hT X with ⟨v, st₀, t, T', L, h0, X', hL, e1, e2, ⟨⟨r, u, hv, hp, hb⟩, hF⟩, st⟩ | ⟨q, st₀, t, T', L, E, ce, h0, X', hL, e1, e2, ⟨u, hp, hb, hF⟩, hce, hcv, hcl, st⟩
  · cases hv
    obtain ⟨k1, k2, k3⟩ := vx_keep h0 e1 hS hA hf hL hF
    obtain ⟨t2, a1, b1⟩ := kk r u t T'.heap (locs ++ L) e1.symm (by rw [← e2]; exact X'.warmed.alike) hp hb k1 k2 k3 T' rfl X'
    exact ⟨t2, st t2 a1, b1⟩
  · obtain ⟨k1, k2, k3⟩ := vx_keep h0 e1 hS hAX hf hL hF
    obtain ⟨t2, a1, b1⟩ := kx E ce q u t T'.heap (locs ++ L) e1.symm (by rw [← e2]; exact X'.warmed.alike) hp hb k1 k2 k3 (by rw [e1]; exact hce) hcv hcl T' rfl X'
    exact ⟨t2, st.trans a1, b1⟩
theorem vx_calll {S SX : Type} {post : Int64 → S → Prop} {px : SX → Prop} {B : S → State → Prop} {BX : String → SX → State → Prop} {AX : Nat → Prop} (hr : vx_Run p l e R s m args below meth c H locs cells slots mc ms (F0 m pc ls st0) rest (va_Ql post B A1 a) (vx_X px BX AX) free) (hS : va_S A0 H0 H locs) (hA : ∀ q, q < H.size → A1 q → A0 q) (hf : ∀ q, free q → A0 q) (hAX : ∀ q, q < H.size → AX q → A0 q)
    (kx : ∀ (E : String) (ce : Cell) (q9 : Addr) (u : SX) (t : State) (H1 : Heap) (locs1 : List Loc), t.heap = H1 → s.vm.Alike t.vm → px u → BX E u t → H.size ≤ H1.size → (∀ q : Nat, q < H.size → ¬ AX q → H1[q]? = H[q]?) → va_S A0 H0 H1 locs1 → H1[q9]? = some ce → ce.vm = .none → s.vm.findClass E = some ce.cls → vx_W p l e R s m args below meth c H1 locs1 (cells + mc) (slots + ms) Q (F0 m pc ls rest) q9)
    (kk : ∀ (r : Int64) (u : S) (t : State) (H1 : Heap) (locs1 : List Loc), t.heap = H1 → s.vm.Alike t.vm → post r u → B u t → H.size ≤ H1.size → (∀ q : Nat, q < H.size → ¬ A1 q → H1[q]? = H[q]?) → va_S A0 H0 H1 locs1 → W p l e R s m args below meth c H1 locs1 (cells + mc) (slots + ms) Q (F0 m (pc + 3) ls (.long r :: rest))) : W p l e R s m args below meth c H locs cells slots Q (F0 m pc ls st0) := by
  intro T hT X
  rcases hr T hT X with ⟨v, st₀, t, T', L, h0, X', hL, e1, e2, ⟨⟨r, u, hv, hp, hb⟩, hF⟩, st⟩ | ⟨q, st₀, t, T', L, E, ce, h0, X', hL, e1, e2, ⟨u, hp, hb, hF⟩, hce, hcv, hcl, st⟩
  · cases hv
    obtain ⟨k1, k2, k3⟩ := vx_keep h0 e1 hS hA hf hL hF
    obtain ⟨t2, a1, b1⟩ := kk r u t T'.heap (locs ++ L) e1.symm (by rw [← e2]; exact X'.warmed.alike) hp hb k1 k2 k3 T' rfl X'
    exact ⟨t2, st t2 a1, b1⟩
  · obtain ⟨k1, k2, k3⟩ := vx_keep h0 e1 hS hAX hf hL hF
    obtain ⟨t2, a1, b1⟩ := kx E ce q u t T'.heap (locs ++ L) e1.symm (by rw [← e2]; exact X'.warmed.alike) hp hb k1 k2 k3 (by rw [e1]; exact hce) hcv hcl T' rfl X'
    exact ⟨t2, st.trans a1, b1⟩
theorem vx_callf {S SX : Type} {post : UInt32 → S → Prop} {px : SX → Prop} {B : S → State → Prop} {BX : String → SX → State → Prop} {AX : Nat → Prop} (hr : vx_Run p l e R s m args below meth c H locs cells slots mc ms (F0 m pc ls st0) rest (va_Qf post B A1 a) (vx_X px BX AX) free) (hS : va_S A0 H0 H locs) (hA : ∀ q, q < H.size → A1 q → A0 q) (hf : ∀ q, free q → A0 q) (hAX : ∀ q, q < H.size → AX q → A0 q)
    (kx : ∀ (E : String) (ce : Cell) (q9 : Addr) (u : SX) (t : State) (H1 : Heap) (locs1 : List Loc), t.heap = H1 → s.vm.Alike t.vm → px u → BX E u t → H.size ≤ H1.size → (∀ q : Nat, q < H.size → ¬ AX q → H1[q]? = H[q]?) → va_S A0 H0 H1 locs1 → H1[q9]? = some ce → ce.vm = .none → s.vm.findClass E = some ce.cls → vx_W p l e R s m args below meth c H1 locs1 (cells + mc) (slots + ms) Q (F0 m pc ls rest) q9)
    (kk : ∀ (r : UInt32) (u : S) (t : State) (H1 : Heap) (locs1 : List Loc), t.heap = H1 → s.vm.Alike t.vm → post r u → B u t → H.size ≤ H1.size → (∀ q : Nat, q < H.size → ¬ A1 q → H1[q]? = H[q]?) → va_S A0 H0 H1 locs1 → W p l e R s m args below meth c H1 locs1 (cells + mc) (slots + ms) Q (F0 m (pc + 3) ls (.float r :: rest))) : W p l e R s m args below meth c H locs cells slots Q (F0 m pc ls st0) := by
  intro T hT X
  rcases hr T hT X with ⟨v, st₀, t, T', L, h0, X', hL, e1, e2, ⟨⟨r, u, hv, hp, hb⟩, hF⟩, st⟩ | ⟨q, st₀, t, T', L, E, ce, h0, X', hL, e1, e2, ⟨u, hp, hb, hF⟩, hce, hcv, hcl, st⟩
  · cases hv
    obtain ⟨k1, k2, k3⟩ := vx_keep h0 e1 hS hA hf hL hF
    obtain ⟨t2, a1, b1⟩ := kk r u t T'.heap (locs ++ L) e1.symm (by rw [← e2]; exact X'.warmed.alike) hp hb k1 k2 k3 T' rfl X'
    exact ⟨t2, st t2 a1, b1⟩
  · obtain ⟨k1, k2, k3⟩ := vx_keep h0 e1 hS hAX hf hL hF
    obtain ⟨t2, a1, b1⟩ := kx E ce q u t T'.heap (locs ++ L) e1.symm (by rw [← e2]; exact X'.warmed.alike) hp hb k1 k2 k3 (by rw [e1]; exact hce) hcv hcl T' rfl X'
    exact ⟨t2, st.trans a1, b1⟩
theorem vx_calld {S SX : Type} {post : UInt64 → S → Prop} {px : SX → Prop} {B : S → State → Prop} {BX : String → SX → State → Prop} {AX : Nat → Prop} (hr : vx_Run p l e R s m args below meth c H locs cells slots mc ms (F0 m pc ls st0) rest (va_Qd post B A1 a) (vx_X px BX AX) free) (hS : va_S A0 H0 H locs) (hA : ∀ q, q < H.size → A1 q → A0 q) (hf : ∀ q, free q → A0 q) (hAX : ∀ q, q < H.size → AX q → A0 q)
    (kx : ∀ (E : String) (ce : Cell) (q9 : Addr) (u : SX) (t : State) (H1 : Heap) (locs1 : List Loc), t.heap = H1 → s.vm.Alike t.vm → px u → BX E u t → H.size ≤ H1.size → (∀ q : Nat, q < H.size → ¬ AX q → H1[q]? = H[q]?) → va_S A0 H0 H1 locs1 → H1[q9]? = some ce → ce.vm = .none → s.vm.findClass E = some ce.cls → vx_W p l e R s m args below meth c H1 locs1 (cells + mc) (slots + ms) Q (F0 m pc ls rest) q9)
    (kk : ∀ (r : UInt64) (u : S) (t : State) (H1 : Heap) (locs1 : List Loc), t.heap = H1 → s.vm.Alike t.vm → post r u → B u t → H.size ≤ H1.size → (∀ q : Nat, q < H.size → ¬ A1 q → H1[q]? = H[q]?) → va_S A0 H0 H1 locs1 → W p l e R s m args below meth c H1 locs1 (cells + mc) (slots + ms) Q (F0 m (pc + 3) ls (.double r :: rest))) : W p l e R s m args below meth c H locs cells slots Q (F0 m pc ls st0) := by
  intro T hT X
  rcases hr T hT X with ⟨v, st₀, t, T', L, h0, X', hL, e1, e2, ⟨⟨r, u, hv, hp, hb⟩, hF⟩, st⟩ | ⟨q, st₀, t, T', L, E, ce, h0, X', hL, e1, e2, ⟨u, hp, hb, hF⟩, hce, hcv, hcl, st⟩
  · cases hv
    obtain ⟨k1, k2, k3⟩ := vx_keep h0 e1 hS hA hf hL hF
    obtain ⟨t2, a1, b1⟩ := kk r u t T'.heap (locs ++ L) e1.symm (by rw [← e2]; exact X'.warmed.alike) hp hb k1 k2 k3 T' rfl X'
    exact ⟨t2, st t2 a1, b1⟩
  · obtain ⟨k1, k2, k3⟩ := vx_keep h0 e1 hS hAX hf hL hF
    obtain ⟨t2, a1, b1⟩ := kx E ce q u t T'.heap (locs ++ L) e1.symm (by rw [← e2]; exact X'.warmed.alike) hp hb k1 k2 k3 (by rw [e1]; exact hce) hcv hcl T' rfl X'
    exact ⟨t2, st.trans a1, b1⟩
theorem vx_callv {S SX : Type} {post : S → Prop} {px : SX → Prop} {B : S → State → Prop} {BX : String → SX → State → Prop} {AX : Nat → Prop} (hr : vx_Run p l e R s m args below meth c H locs cells slots mc ms (F0 m pc ls st0) rest (va_Qv post B A1 a) (vx_X px BX AX) free) (hS : va_S A0 H0 H locs) (hA : ∀ q, q < H.size → A1 q → A0 q) (hf : ∀ q, free q → A0 q) (hAX : ∀ q, q < H.size → AX q → A0 q)
    (kx : ∀ (E : String) (ce : Cell) (q9 : Addr) (u : SX) (t : State) (H1 : Heap) (locs1 : List Loc), t.heap = H1 → s.vm.Alike t.vm → px u → BX E u t → H.size ≤ H1.size → (∀ q : Nat, q < H.size → ¬ AX q → H1[q]? = H[q]?) → va_S A0 H0 H1 locs1 → H1[q9]? = some ce → ce.vm = .none → s.vm.findClass E = some ce.cls → vx_W p l e R s m args below meth c H1 locs1 (cells + mc) (slots + ms) Q (F0 m pc ls rest) q9)
    (kk : ∀ (u : S) (t : State) (H1 : Heap) (locs1 : List Loc), t.heap = H1 → s.vm.Alike t.vm → post u → B u t → H.size ≤ H1.size → (∀ q : Nat, q < H.size → ¬ A1 q → H1[q]? = H[q]?) → va_S A0 H0 H1 locs1 → W p l e R s m args below meth c H1 locs1 (cells + mc) (slots + ms) Q (F0 m (pc + 3) ls (rest))) : W p l e R s m args below meth c H locs cells slots Q (F0 m pc ls st0) := by
  intro T hT X
  rcases hr T hT X with ⟨v, st₀, t, T', L, h0, X', hL, e1, e2, ⟨⟨u, hv, hp, hb⟩, hF⟩, st⟩ | ⟨q, st₀, t, T', L, E, ce, h0, X', hL, e1, e2, ⟨u, hp, hb, hF⟩, hce, hcv, hcl, st⟩
  · cases hv
    obtain ⟨k1, k2, k3⟩ := vx_keep h0 e1 hS hA hf hL hF
    obtain ⟨t2, a1, b1⟩ := kk u t T'.heap (locs ++ L) e1.symm (by rw [← e2]; exact X'.warmed.alike) hp hb k1 k2 k3 T' rfl X'
    exact ⟨t2, st t2 a1, b1⟩
  · obtain ⟨k1, k2, k3⟩ := vx_keep h0 e1 hS hAX hf hL hF
    obtain ⟨t2, a1, b1⟩ := kx E ce q u t T'.heap (locs ++ L) e1.symm (by rw [← e2]; exact X'.warmed.alike) hp hb k1 k2 k3 (by rw [e1]; exact hce) hcv hcl T' rfl X'
    exact ⟨t2, st.trans a1, b1⟩
/-- caught by the row x of this method's table; the rows ahead don't take it -/
theorem vx_catch {own name : String} {E : String} {ce : Cell} {q : Addr} (hown : s.vm.findClass own = some m.cls) (pre : List ExceptionTableEntry) (x : ExceptionTableEntry) (suf : List ExceptionTableEntry) (hsplit : c.exceptionTable.toList = pre ++ x :: suf)
    (hpass : ∀ z ∈ pre, covers z pc = false ∨ (z.catchType ≠ 0 ∧ ∃ nm : String, (Cond.classLink own z.catchType nm).before args s = true ∧ va_Nc E nm s)) (hx : covers x pc = true) (h0 : x.catchType ≠ 0)
    (hlink : (Cond.classLink own x.catchType name).before args s = true) (hcast : (Cond.castable E name).before args s = true) (hcell : H[q]? = some ce) (hv : ce.vm = .none) (hcl : s.vm.findClass E = some ce.cls)
    (kk : W p l e R s m args below meth c H locs cells slots Q (F0 m x.handlerPc ls [.ref q])) : vx_W p l e R s m args below meth c H locs cells slots Q (F0 m pc ls rest) q := by
  intro T hT X
  have hpl : e.platform.magicAccessors = ({} : Platform).magicAccessors := by rw [X.admits.platform]
  obtain ⟨c3, c4, hc3, hc4, hasg⟩ := Cond.castable_spec hcast
  cases Option.some.inj (hc3.symm.trans hcl)
  obtain ⟨c5, hc5, hcl5⟩ := Cond.classLink_spec hown hlink e.platform hpl
  cases Option.some.inj (hc4.symm.trans hc5)
  obtain ⟨vm', X', st⟩ := X.thenCaughtThrough q (g := F0 m pc ls rest) rfl (Steps.refl _) (by rw [hT]; exact hcell) (by rw [hv]; rfl) (by obtain ⟨k9, h9, -⟩ := Vm.findClass_spec hcl; exact ⟨k9, h9⟩) pre x suf hsplit
    (fun z hz => by
      rcases hpass z hz with h | ⟨hz0, nm, hl1, hn1⟩
      · exact Or.inl h
      · obtain ⟨c6, hc6, hcl6⟩ := Cond.classLink_spec hown hl1 e.platform hpl
        obtain ⟨a8, b8, h1, h2, h3⟩ := hn1
        cases Option.some.inj (h1.symm.trans hcl)
        cases Option.some.inj (h2.symm.trans hc6)
        exact Or.inr ⟨hz0, _, hcl6, h3⟩) hx (Or.inr ⟨h0, c4, hcl5, hasg⟩)
  obtain ⟨t, a1, b1⟩ := kk (T.setVm vm') hT X'
  exact ⟨t, st.trans a1, b1⟩
end Rows
section Ends
variable {p : Program} {l : Launch} {e : Env} {R : Room} {s : State} {m : MethodId} {args : Array Value} {below : List Frame} {meth : Method} {c : Code} {H : Heap} {locs : List Loc} {cells slots : Nat} {Q : State → Prop}
variable {mc ms : Nat} {free : Addr → Prop} {A0 A1 : Nat → Prop} {H0 : Heap} {a : Array Value} {ls : Array Slot} {st0 rest : List Value}
variable {Qc : Array Value → State → Outcome → State → Prop} {XC : String → State → State → Prop}
/-- what a body that may throw owes at its end -/
def vx_MQ (below : List Frame) (Qc : Array Value → State → Outcome → State → Prop) (XC : String → State → State → Prop) (a : Array Value) (s : State) (mc ms : Nat) (free : Addr → Prop) : State → Prop := fun t =>
  ∃ o, t.status = .running ∧ Ended t below o ∧ vx_Q Qc XC mc ms free a s o t
theorem vx_ret {g : JFrame} {mc ms : Nat} (k : W p l e R s m args below meth c H locs cells slots (MQ below Qc args s mc ms free) g) : W p l e R s m args below meth c H locs cells slots (vx_MQ below Qc XC args s mc ms free) g := by
  intro T hT X
  obtain ⟨t, a1, o, b1, b2, b3, b4⟩ := k T hT X
  exact ⟨t, a1, o, b1, b2, Or.inl ⟨b3, b4⟩⟩
/-- not caught here: it goes on to the caller -/
theorem vx_widen {g : JFrame} {q : Addr} {k n : Nat} (h1 : cells ≤ k) (h2 : slots ≤ n) (kk : vx_W p l e R s m args below meth c H locs k n Q g q) : vx_W p l e R s m args below meth c H locs cells slots Q g q := fun T hT X => kk T hT (stand_widen X h1 h2)
theorem vx_out {pc : Nat} {E : String} {ce : Cell} {q : Addr} {mc ms : Nat} (hout : ∀ x ∈ c.exceptionTable.toList, covers x pc = false) (hlocks : meth.locks = false) (hcell : H[q]? = some ce) (hv : ce.vm = .none) (hcl : s.vm.findClass E = some ce.cls)
    (hx : ∀ t : State, t.heap = H → s.vm.Alike t.vm → XC E s t) (hf : ∀ z ∈ locs, free z.base) (hc : cells ≤ mc) (hs : slots ≤ ms) :
    vx_W p l e R s m args below meth c H locs cells slots (vx_MQ below Qc XC args s mc ms free) (F0 m pc ls rest) q := by
  intro T hT X
  obtain ⟨st1, hrun, hend, hW, hsm⟩ := X.leaveThrown q (g := F0 m pc ls rest) rfl rfl rfl hout hlocks
  have hcell9 : (T.setFrames (.throwing q :: below)).heap[q]? = some ce := by
    show T.heap[q]? = some ce
    rw [hT]; exact hcell
  exact ⟨_, st1, .threw q, hrun, hend, Or.inr ⟨q, rfl, E, ce, locs, hx _ hT hW.alike, hcell9, hv, hcl, hW, hsm.mono hc hs, hf⟩⟩
theorem vx_frame {U : State} {k n : Nat} (h : s.sameButNew ({ U with vm := s.vm } : State) locs k n) : s.heap.size ≤ U.heap.size ∧ ∀ q : Nat, q < s.heap.size → (∀ z ∈ locs, z.base ≠ q) → U.heap[q]? = s.heap[q]? := by
  obtain ⟨-, h2, -, -, -, h6⟩ := h
  refine ⟨h2, fun q hq hz => ?_⟩
  obtain ⟨c9, e1, e2, e3, e4⟩ := h6 q _ (Array.getElem?_eq_getElem hq)
  have hs : c9.slots = (s.heap[q]).slots := Array.ext_getElem? fun i => e4 i fun hm => hz _ hm rfl
  have h9 : c9 = s.heap[q] := by
    rw [hs] at e2
    exact e2
  have e5 : U.heap[q]? = some c9 := e1
  rw [e5, h9, Array.getElem?_eq_getElem hq]
/-- the words of a throw but the four that speak of the heap -/
def vx_no (w : Cond) : Bool := decide (w ≠ .isRef (.static Bundle.tN "UNASSIGNED_STACK" Bundle.steD)) && decide (w ≠ .isRef (.static Bundle.tN "SUPPRESSED_SENTINEL" Bundle.listD)) && decide (w ≠ .laysStatic Bundle.tN "UNASSIGNED_STACK" Bundle.steD) && decide (w ≠ .laysStatic Bundle.tN "SUPPRESSED_SENTINEL" Bundle.listD)
def vx_at0 (own : String) (ic : Nat) (X : String) (names : List String) : List Cond := (Bundle.ownAtoms0 own ic X names).filter vx_no
def vx_atS (own : String) (ic : Nat) (X : String) (names : List String) : List Cond := (Bundle.ownAtoms own ic X names).filter vx_no
/-- a word that the tables alone decide, or a good one -/
def vx_ot (w : Cond) : Bool := w.onTables || goodWord w
theorem vx_ot_at {args a' : Array Value} {s U : State} {w : Cond} (hW : s.WarmedH U.vm) (hvm : s.vm = U.vm) (hg : vx_ot w = true) (h : w.before args s = true) : w.before a' U = true := by
  simp only [vx_ot, Bool.or_eq_true] at hg
  rcases hg with hg | hg
  · exact va_tabs hg hvm h
  · exact word_at hW (good_of_word hg) h
/-- a list's words: the good ones out of the method's own list, the others by premises of their own -/
theorem vx_hat {args : Array Value} {s : State} {L B : List Cond} (h1 : ∀ w ∈ L.filter goodWord, w.before args s = true) (h2 : ∀ w ∈ L.filter (fun w => !goodWord w), w ∈ B) (h3 : ∀ w ∈ B, w.before args s = true) : ∀ w ∈ L, w.before args s = true := by
  intro w hw
  by_cases g : goodWord w = true
  · exact h1 w (List.mem_filter.mpr ⟨hw, g⟩)
  · refine h3 w (h2 w (List.mem_filter.mpr ⟨hw, ?_⟩))
    show (!goodWord w) = true
    cases hgw : goodWord w
    · rfl
    · exact absurd hgw g
theorem vx_c {args : Array Value} {s : State} {w : Cond} {B : List Cond} (h : w.before args s = true) (t : ∀ w ∈ B, w.before args s = true) : ∀ w' ∈ w :: B, w'.before args s = true := fun w' h' => (List.mem_cons.mp h').elim (fun e => by rw [e]; exact h) (t w')
theorem vx_n {args : Array Value} {s : State} : ∀ w ∈ ([] : List Cond), w.before args s = true := fun _ h => nomatch h
theorem vx_own {args : Array Value} {s : State} {L : List Cond} (h1 : ∀ w ∈ L.filter vx_no, w.before args s = true)
    (hU : (Cond.isRef (.static Bundle.tN "UNASSIGNED_STACK" Bundle.steD)).before args s = true) (hN : (Cond.isRef (.static Bundle.tN "SUPPRESSED_SENTINEL" Bundle.listD)).before args s = true)
    (lU : (Cond.laysStatic Bundle.tN "UNASSIGNED_STACK" Bundle.steD).before args s = true) (lN : (Cond.laysStatic Bundle.tN "SUPPRESSED_SENTINEL" Bundle.listD).before args s = true) : ∀ w ∈ L, w.before args s = true := by
  intro w hw
  by_cases e1 : w = .isRef (.static Bundle.tN "UNASSIGNED_STACK" Bundle.steD)
  · rw [e1]; exact hU
  · by_cases e2 : w = .isRef (.static Bundle.tN "SUPPRESSED_SENTINEL" Bundle.listD)
    · rw [e2]; exact hN
    · by_cases e3 : w = .laysStatic Bundle.tN "UNASSIGNED_STACK" Bundle.steD
      · rw [e3]; exact lU
      · by_cases e4 : w = .laysStatic Bundle.tN "SUPPRESSED_SENTINEL" Bundle.listD
        · rw [e4]; exact lN
        · exact h1 w (List.mem_filter.mpr ⟨hw, by unfold vx_no; rw [decide_eq_true e1, decide_eq_true e2, decide_eq_true e3, decide_eq_true e4]; rfl⟩)
/-- where a static field lies, its class's statics cell in H -/
def vx_L (C n d : String) (A : Nat → Prop) (U : State) (H : Heap) : Prop := ∃ (c : ClassId) (k : Class) (i : Nat) (f : Field) (a : Nat) (cell : Cell), U.vm.findClass C = some c ∧ U.fieldFound? C n d = some (c, k, i, f) ∧ f.isStatic = true ∧ k.statics = some a ∧ H[a]? = some cell ∧ cell.vm.isStatics = true ∧ cell.cls = c ∧ f.slot < cell.slots.size ∧ k.staticTypes[f.slot]? = some f.type ∧ ¬ A a
theorem vx_L.moved {C n d : String} {A : Nat → Prop} {u U : State} {H : Heap} (hvm : u.vm.Alike U.vm) (h : vx_L C n d A u H) : vx_L C n d A U H := by
  obtain ⟨c, k, i, f, a, cell, h1, h2, h3, h4, h5, h6, h7, h8, h9, h10⟩ := h
  obtain ⟨k', hi', he⟩ := State.fieldFound?_setVm hvm h2
  exact ⟨c, k', i, f, a, cell, by rw [hvm.findClass]; exact h1, hi', h3, by rw [he]; exact h4, h5, h6, h7, h8, by rw [he]; exact h9, h10⟩
theorem vx_L.kept {C n d : String} {A : Nat → Prop} {U : State} {H H1 : Heap} (h : vx_L C n d A U H) (hq : ∀ a : Nat, a < H.size → ¬ A a → H1[a]? = H[a]?) : vx_L C n d A U H1 := by
  obtain ⟨c, k, i, f, a, cell, h1, h2, h3, h4, h5, h6, h7, h8, h9, h10⟩ := h
  exact ⟨c, k, i, f, a, cell, h1, h2, h3, h4, by rw [hq a (Array.getElem?_eq_some_iff.mp h5).1 h10]; exact h5, h6, h7, h8, h9, h10⟩
theorem vx_L.narrow {C n d : String} {A B : Nat → Prop} {U : State} {H : Heap} (h : vx_L C n d A U H) (hAB : ∀ q, B q → A q) : vx_L C n d B U H := by
  obtain ⟨c, k, i, f, a, cell, h1, h2, h3, h4, h5, h6, h7, h8, h9, h10⟩ := h
  exact ⟨c, k, i, f, a, cell, h1, h2, h3, h4, h5, h6, h7, h8, h9, fun z => h10 (hAB _ z)⟩
theorem vx_L.word {C n d : String} {A : Nat → Prop} {s : State} {args : Array Value} (h : vx_L C n d A s s.heap) : (Cond.laysStatic C n d).before args s = true := by
  obtain ⟨c, k, i, f, a, cell, h1, h2, h3, h4, h5, h6, h7, h8, h9, -⟩ := h
  show (Cond.laysStatic C n d).holds args s none s [] = true
  exact Cond.laysStatic_of h1 h2 h3 h4 h5 h6 h7 h8 h9
/-- .. and what it holds: null or some reference -/
def vx_Zq (C n d : String) (A : Nat → Prop) (U : State) (H : Heap) : Prop := va_Zq C n d A U H ∧ vx_L C n d A U H
theorem vx_Zq.moved {C n d : String} {A : Nat → Prop} {u U : State} {H : Heap} (hvm : u.vm.Alike U.vm) (h : vx_Zq C n d A u H) : vx_Zq C n d A U H := ⟨va_Zq.moved hvm h.1, vx_L.moved hvm h.2⟩
theorem vx_Zq.kept {C n d : String} {A : Nat → Prop} {U : State} {H H1 : Heap} (h : vx_Zq C n d A U H) (hq : ∀ a : Nat, a < H.size → ¬ A a → H1[a]? = H[a]?) : vx_Zq C n d A U H1 := ⟨va_Zq.kept h.1 hq, vx_L.kept h.2 hq⟩
theorem vx_Zq.narrow {C n d : String} {A B : Nat → Prop} {U : State} {H : Heap} (h : vx_Zq C n d A U H) (hAB : ∀ q, B q → A q) : vx_Zq C n d B U H := ⟨va_Zq.narrow h.1 hAB, vx_L.narrow h.2 hAB⟩
theorem vx_Zqof {args : Array Value} {s : State} {C n d : String} {A : Nat → Prop} (hl : (Cond.laysStatic C n d).before args s = true) (hini : (Cond.initialized C).before args s = true) (h : (Cond.isRef (.static C n d)).before args s = true) (hA : ∀ a : Nat, a < s.heap.size → ¬ A a) : vx_Zq C n d A s s.heap := by
  refine ⟨va_Zqof hl hini h hA, ?_⟩
  obtain ⟨c, k, i, f, a, cell, h1, h2, h3, h4, h5, h6, h7, h8, h9⟩ := Cond.laysStatic_spec hl
  exact ⟨c, k, i, f, a, cell, h1, h2, h3, h4, h5, h6, h7, h8, h9, hA a (Array.getElem?_eq_some_iff.mp h5).1⟩
theorem vx_isRef {C n d : String} {v : Value} {A : Nat → Prop} {s : State} {args : Array Value} (h : va_Z C n d v A s s.heap) (hv : v.isRef = true) : (Cond.isRef (.static C n d)).before args s = true := by
  obtain ⟨cf, kf, fi, f, a, cell, h1, h2, h3, h4, h5, h6, h7, -⟩ := h
  have he : (Term.static C n d).eval args s none [] s = some v := by
    simp [Term.eval, State.fieldNamed?, h1, h2, h4, h5, h6, h7]
  simp only [Cond.before, Cond.holds, Cond.value, he]
  cases v <;> simp_all [Value.isRef]
theorem vx_isRefq {C n d : String} {A : Nat → Prop} {s : State} {args : Array Value} (h : va_Zq C n d A s s.heap) : (Cond.isRef (.static C n d)).before args s = true := by
  rcases h with h | ⟨t, h⟩
  · exact vx_isRef h rfl
  · exact vx_isRef h rfl
/-- the same frame, seen from here: as if the method were called anew in this heap -/
theorem vx_rebase {T : State} (X : Stand p l e R s m args below meth c T locs cells slots) {R' : Room} (hf : R'.frames ≤ R.frames) (hl : R'.locals ≤ R.locals) (hc : cells + R'.cells ≤ R.cells) (hs : slots + R'.slots ≤ R.slots) :
    Stand p l e R' ((T.setVm s.vm).setFrames (.invoking m args :: below)) m args below meth c T [] 0 0 := by
  have htop : (T.setVm s.vm).topJava?.isSome := X.here.top
  have hF : ((T.setVm s.vm).setFrames (.invoking m args :: below)).frames = .invoking m args :: below := State.frames_setFrames _ (State.cur_lt_of_top htop)
  obtain ⟨g₀, hg0⟩ := Option.isSome_iff_exists.mp htop
  obtain ⟨r, hr⟩ := State.topJava?_eq_some.mp hg0
  have hl9 : e.platform.stackLimits (T.setVm s.vm).me = e.platform.stackLimits s.me := X.limits
  have hb9 : (T.setVm s.vm).me.stackBytes = s.me.stackBytes := X.bytes
  refine ⟨X.admits, X.cas, X.clock, hF, ?_, X.hears, X.method, X.code, X.here, X.tail, X.warmed, ?_, ?_, ?_⟩
  · have h := X.room
    have hU : ((T.setVm s.vm).setFrames (.invoking m args :: below)).localsInUse = s.localsInUse := by
      rw [State.localsInUse_invoking hF (meth := meth) (c := c) X.method X.code, State.localsInUse_invoking X.frames X.method X.code]
    simp only [State.hasRoom, Bool.and_eq_true, decide_eq_true_eq] at h ⊢
    obtain ⟨⟨⟨⟨h1, h2, h3, h4, h5, h6⟩, h7⟩, h8⟩, h9⟩ := h
    rw [X.frames, List.length_cons] at h2 h3
    have q1 := X.heapSize
    have q2 := X.used
    simp only [hF, hU, List.length_cons, State.stackLimits_setFrames, State.stackBytes_setFrames, hl9, hb9]
    refine ⟨⟨⟨⟨by omega, by omega, by omega, by omega, by omega, h6⟩, ?_⟩, ?_⟩, X.book⟩
    · show T.heap.size + R'.cells ≤ e.platform.maxCells
      omega
    · show T.slotsUsed + R'.slots ≤ e.platform.maxSlots
      omega
  · rw [State.stackLimits_setFrames]; rfl
  · rw [State.stackBytes_setFrames]; rfl
  · refine ⟨?_, Nat.le_refl _, Nat.le_refl _, ?_, ?_, fun a c9 h9 => ⟨c9, h9, rfl, rfl, fun _ _ => rfl⟩⟩
    · obtain ⟨t, ht, -⟩ := State.frames_cons hr
      show T.setVm s.vm = { ((T.setVm s.vm).setFrames (.invoking m args :: below)).setFrames (T.setVm s.vm).frames with heap := T.heap, slotsUsed := T.slotsUsed }
      rw [State.setFrames_setFrames, State.setFrames_self ht]
      rfl
    · show T.slotsUsed = T.slotsUsed + ((T.heap.toList.drop T.heap.size).map (·.slots.size)).sum
      rw [List.drop_eq_nil_of_le (Nat.le_of_eq Array.length_toList)]
      rfl
    · show ((T.heap.toList.drop T.heap.size).map (·.slots.size)).sum ≤ 0
      rw [List.drop_eq_nil_of_le (Nat.le_of_eq Array.length_toList)]
      exact Nat.le_refl _
/-- 'throw new E()': new; dup; invokespecial; athrow -/
theorem vx_throw0 {cc : ByteArray} {pc : Nat} (hexec : p.tables.exec = Jvm.exec) (hb : c.code = cc) (hl : l.stackTraces = false) {own cls : String} {names : List String} {ik ic mc ms : Nat} {A : Nat → Prop}
    (hown : s.vm.findClass own = some m.cls) (hcls : Bundle.fit cls = true) (hnames : ∀ n ∈ names, Bundle.fit n = true)
    (hk : (Cond.classLink own ik cls).before args s = true) (hini : (Cond.initialized cls).before args s = true) (hat : ∀ w ∈ vx_at0 own ic cls names, w.before args s = true)
    (hgood : ∀ w ∈ Cond.classLink own ik cls :: Cond.initialized cls :: vx_at0 own ic cls names, vx_ot w = true)
    (hU : vx_Zq Bundle.tN "UNASSIGNED_STACK" Bundle.steD A s s.heap) (hN : vx_Zq Bundle.tN "SUPPRESSED_SENTINEL" Bundle.listD A s s.heap) (hS : va_S A s.heap H locs) (hsize : ls.size = c.maxLocals)
    (d0 : decode cc pc = .ok (.new ik, 3)) (d3 : decode cc (pc + 3) = .ok (.dup, 1)) (d4 : decode cc (pc + 4) = .ok (.invokespecial ic, 3)) (d7 : decode cc (pc + 7) = .ok (.athrow, 1))
    (hout : ∀ x ∈ c.exceptionTable.toList, covers x (pc + 7) = false)
    (hRframes : names.length + 3 < R.frames) (hRlocals : (rest.map fun v => v.category).sum + (13 * (names.length + 1) + 42) ≤ R.locals) (hRcells : cells + 1 ≤ R.cells) (hRslots : slots + 6 ≤ R.slots) (hlocks : meth.locks = false)
    (hx : ∀ t : State, s.vm.Alike t.vm → H.size ≤ t.heap.size → (∀ q : Nat, q < H.size → t.heap[q]? = H[q]?) → XC cls s t)
    (hf : ∀ z ∈ locs, free z.base) (hc : cells + 1 ≤ mc) (hs : slots + 6 ≤ ms) :
    W p l e R s m args below meth c H locs cells slots (vx_MQ below Qc XC args s mc ms free) (F0 m pc ls rest) := by
  intro T hT X
  have htr : e.platform.stackTraces = false := (show e.platform.stackTraces = l.stackTraces by rw [X.admits.platform]).trans hl
  have Y := vx_rebase X (R' := { frames := R.frames, locals := R.locals, cells := 1, slots := 6 }) (Nat.le_refl _) (Nat.le_refl _) hRcells hRslots
  obtain ⟨s', hA⟩ : ∃ z, z = (T.setVm s.vm).setFrames (.invoking m args :: below) := ⟨_, rfl⟩
  rw [← hA] at Y
  have hvm : s'.vm = s.vm := by rw [hA]; rfl
  have hhp : s'.heap = H := by rw [hA]; exact hT
  have hW0 : s.WarmedH s'.vm := by rw [hvm]; exact State.WarmedH.refl s
  have hat' : ∀ w ∈ vx_at0 own ic cls names, w.before args s' = true := fun w hw => vx_ot_at hW0 hvm.symm (hgood w (List.mem_cons_of_mem _ (List.mem_cons_of_mem _ hw))) (hat w hw)
  have hk' : (Cond.classLink own ik cls).before args s' = true := vx_ot_at hW0 hvm.symm (hgood _ List.mem_cons_self) hk
  have hini' : (Cond.initialized cls).before args s' = true := vx_ot_at hW0 hvm.symm (hgood _ (List.mem_cons_of_mem _ List.mem_cons_self)) hini
  have hU' : vx_Zq Bundle.tN "UNASSIGNED_STACK" Bundle.steD A s' s'.heap := by rw [hhp]; exact vx_Zq.moved hW0.alike (hU.kept hS.2.1)
  have hN' : vx_Zq Bundle.tN "SUPPRESSED_SENTINEL" Bundle.listD A s' s'.heap := by rw [hhp]; exact vx_Zq.moved hW0.alike (hN.kept hS.2.1)
  have h : ∀ w ∈ Bundle.ownAtoms0 own ic cls names, w.before args s' = true := vx_own hat' (vx_isRefq hU'.1) (vx_isRefq hN'.1) hU'.2.word hN'.2.word
  have hown' : s'.vm.findClass own = some m.cls := by rw [hvm]; exact hown
  have hins : (Cond.instantiable cls 6).before args s' = true := h _ (by simp [Bundle.ownAtoms0])
  obtain ⟨vm₁, cX, kX, hfX, hkX, -, -, X₁, st1⟩ := Y.newCold hexec (own := own) (C := cls) (index := ik) (n := 6) hown' hk' hins hini'
    (g := F0 m pc ls rest) rfl (by rw [hb]; exact d0) (Nat.le_refl _) (Nat.le_refl _)
  generalize hT1 : (T.setVm vm₁).pushCell { cls := cX, slots := kX.instanceTypes.map defaultValue, vm := .none } = T1 at X₁ st1
  have hcat : (Value.ref T.heap.size).category = 1 := rfl
  have hcellA : T1.heap[T.heap.size]? = some (freshCell cX kX) := by rw [← hT1]; exact State.heap_pushCell_size _ _
  have d3' : decode c.code (pc + 3) = .ok (.dup, 1) := by rw [hb]; exact d3
  obtain ⟨U, hsteps, hrun, hend, hW, hsame, ce, hce, hO⟩ := X₁.ctorThrow0 hexec htr (own := own) (cls := cls) (names := names) (ic := ic) hown' hcls hnames h (fun x hx => nomatch hx) hfX hkX hcellA (by rw [hhp, hT]; exact Nat.le_refl _)
    (g := { method := m, pc := pc + 4, locals := ls, stack := .ref T.heap.size :: .ref T.heap.size :: rest, locked := none }) rfl hsize rfl rfl (rest := rest) rfl
    (by rw [hb]; exact d4) (by rw [hb]; exact d7) hout hRframes (by simp only [List.map_cons, List.sum_cons, hcat]; omega) hlocks
  obtain ⟨f1, f2⟩ := vx_frame hsame
  rw [hhp] at f1 f2
  have hWs : s.WarmedH U.vm := State.WarmedH.trans hW0 hW
  have hcl : s.vm.findClass cls = some ce.cls := by
    have h9 := hO.cls
    rw [hvm] at h9
    exact h9
  have hall : s.sameButNew ({ U with vm := s.vm } : State) locs mc ms := by
    subst hA
    obtain ⟨e1, e2⟩ := hsame
    rw [State.setFrames_setFrames] at e1
    have h2 : (T.setVm s.vm).sameButNew ({ U with vm := s.vm } : State) [] (0 + 1) (0 + 6) := ⟨e1, e2⟩
    have h3 := X.same.trans h2
    rw [List.append_nil] at h3
    exact h3.mono hc hs
  refine ⟨U, ?_, .threw T.heap.size, hrun, hend, Or.inr ⟨T.heap.size, rfl, cls, ce, locs, hx U hWs.alike f1 (fun q hq => f2 q hq (fun z hz => nomatch hz)), hce, hO.vm, hcl, hWs, hall, hf⟩⟩
  refine st1 _ ?_
  show Steps p.tables e below (T1.setTop { method := m, pc := pc + 3, locals := ls, stack := .ref T.heap.size :: rest, locked := none }) _
  jvm_step X₁.here [X₁.here.top, hexec, d3', Value.category]
  exact hsteps
/-- 'throw new E("text")': new; dup; ldc; invokespecial; athrow -/
theorem vx_throwS {cc : ByteArray} {pc : Nat} (hexec : p.tables.exec = Jvm.exec) (hb : c.code = cc) (hl : l.stackTraces = false) {own cls text : String} {names : List String} {ik is ic mc ms sa : Nat} {A : Nat → Prop}
    (hown : s.vm.findClass own = some m.cls) (hcls : Bundle.fit cls = true) (hnames : ∀ n ∈ names, Bundle.fit n = true)
    (hk : (Cond.classLink own ik cls).before args s = true) (hini : (Cond.initialized cls).before args s = true) (hstr : vk_R own is text sa s) (hat : ∀ w ∈ vx_atS own ic cls names, w.before args s = true)
    (hgood : ∀ w ∈ Cond.classLink own ik cls :: Cond.initialized cls :: vx_atS own ic cls names, vx_ot w = true)
    (hU : vx_Zq Bundle.tN "UNASSIGNED_STACK" Bundle.steD A s s.heap) (hN : vx_Zq Bundle.tN "SUPPRESSED_SENTINEL" Bundle.listD A s s.heap) (hS : va_S A s.heap H locs) (hsize : ls.size = c.maxLocals)
    (d0 : decode cc pc = .ok (.new ik, 3)) (d3 : decode cc (pc + 3) = .ok (.dup, 1)) (d4 : decode cc (pc + 4) = .ok (.ldc is, 2)) (d6 : decode cc (pc + 6) = .ok (.invokespecial ic, 3)) (d9 : decode cc (pc + 9) = .ok (.athrow, 1))
    (hout : ∀ x ∈ c.exceptionTable.toList, covers x (pc + 9) = false)
    (hRframes : names.length + 3 < R.frames) (hRlocals : (rest.map fun v => v.category).sum + (13 * (names.length + 1) + 43) ≤ R.locals) (hRcells : cells + 1 ≤ R.cells) (hRslots : slots + 6 ≤ R.slots) (hlocks : meth.locks = false)
    (hx : ∀ t : State, s.vm.Alike t.vm → H.size ≤ t.heap.size → (∀ q : Nat, q < H.size → t.heap[q]? = H[q]?) → XC cls s t)
    (hf : ∀ z ∈ locs, free z.base) (hc : cells + 1 ≤ mc) (hs : slots + 6 ≤ ms) :
    W p l e R s m args below meth c H locs cells slots (vx_MQ below Qc XC args s mc ms free) (F0 m pc ls rest) := by
  intro T hT X
  have htr : e.platform.stackTraces = false := (show e.platform.stackTraces = l.stackTraces by rw [X.admits.platform]).trans hl
  have Y := vx_rebase X (R' := { frames := R.frames, locals := R.locals, cells := 1, slots := 6 }) (Nat.le_refl _) (Nat.le_refl _) hRcells hRslots
  obtain ⟨s', hA⟩ : ∃ z, z = (T.setVm s.vm).setFrames (.invoking m args :: below) := ⟨_, rfl⟩
  rw [← hA] at Y
  have hvm : s'.vm = s.vm := by rw [hA]; rfl
  have hhp : s'.heap = H := by rw [hA]; exact hT
  have hW0 : s.WarmedH s'.vm := by rw [hvm]; exact State.WarmedH.refl s
  have hat' : ∀ w ∈ vx_atS own ic cls names, w.before args s' = true := fun w hw => vx_ot_at hW0 hvm.symm (hgood w (List.mem_cons_of_mem _ (List.mem_cons_of_mem _ hw))) (hat w hw)
  have hk' : (Cond.classLink own ik cls).before args s' = true := vx_ot_at hW0 hvm.symm (hgood _ List.mem_cons_self) hk
  have hini' : (Cond.initialized cls).before args s' = true := vx_ot_at hW0 hvm.symm (hgood _ (List.mem_cons_of_mem _ List.mem_cons_self)) hini
  have hU' : vx_Zq Bundle.tN "UNASSIGNED_STACK" Bundle.steD A s' s'.heap := by rw [hhp]; exact vx_Zq.moved hW0.alike (hU.kept hS.2.1)
  have hN' : vx_Zq Bundle.tN "SUPPRESSED_SENTINEL" Bundle.listD A s' s'.heap := by rw [hhp]; exact vx_Zq.moved hW0.alike (hN.kept hS.2.1)
  have h : ∀ w ∈ Bundle.ownAtoms own ic cls names, w.before args s' = true := vx_own hat' (vx_isRefq hU'.1) (vx_isRefq hN'.1) hU'.2.word hN'.2.word
  have hown' : s'.vm.findClass own = some m.cls := by rw [hvm]; exact hown
  have hins : (Cond.instantiable cls 6).before args s' = true := h _ (by simp [Bundle.ownAtoms])
  obtain ⟨vm₁, cX, kX, hfX, hkX, -, -, X₁, st1⟩ := Y.newCold hexec (own := own) (C := cls) (index := ik) (n := 6) hown' hk' hins hini'
    (g := F0 m pc ls rest) rfl (by rw [hb]; exact d0) (Nat.le_refl _) (Nat.le_refl _)
  generalize hT1 : (T.setVm vm₁).pushCell { cls := cX, slots := kX.instanceTypes.map defaultValue, vm := .none } = T1 at X₁ st1
  have hcat : (Value.ref T.heap.size).category = 1 := rfl
  have hcellA : T1.heap[T.heap.size]? = some (freshCell cX kX) := by rw [← hT1]; exact State.heap_pushCell_size _ _
  have d3' : decode c.code (pc + 3) = .ok (.dup, 1) := by rw [hb]; exact d3
  have d4' : decode c.code (pc + 4) = .ok (.ldc is, 2) := by rw [hb]; exact d4
  have hstr' : vk_R own is text sa s' := vk_R.warm hW0 hstr
  obtain ⟨U, hsteps, hrun, hend, hW, hsame, ce, hce, hO⟩ := X₁.ctorThrowS hexec htr (own := own) (cls := cls) (names := names) (ic := ic) hown' hcls hnames h (fun x hx => nomatch hx) hfX hkX hcellA (by rw [hhp, hT]; exact Nat.le_refl _) (msg := .ref sa) rfl
    (g := { method := m, pc := pc + 6, locals := ls, stack := .ref sa :: .ref T.heap.size :: .ref T.heap.size :: rest, locked := none }) rfl hsize rfl rfl (rest := rest) rfl
    (by rw [hb]; exact d6) (by rw [hb]; exact d9) hout hRframes (by simp only [List.map_cons, List.sum_cons, hcat]; omega) hlocks
  obtain ⟨f1, f2⟩ := vx_frame hsame
  rw [hhp] at f1 f2
  have hWs : s.WarmedH U.vm := State.WarmedH.trans hW0 hW
  have hcl : s.vm.findClass cls = some ce.cls := by
    have h9 := hO.cls
    rw [hvm] at h9
    exact h9
  have hall : s.sameButNew ({ U with vm := s.vm } : State) locs mc ms := by
    subst hA
    obtain ⟨e1, e2⟩ := hsame
    rw [State.setFrames_setFrames] at e1
    have h2 : (T.setVm s.vm).sameButNew ({ U with vm := s.vm } : State) [] (0 + 1) (0 + 6) := ⟨e1, e2⟩
    have h3 := X.same.trans h2
    rw [List.append_nil] at h3
    exact h3.mono hc hs
  refine ⟨U, ?_, .threw T.heap.size, hrun, hend, Or.inr ⟨T.heap.size, rfl, cls, ce, locs, hx U hWs.alike f1 (fun q hq => f2 q hq (fun z hz => nomatch hz)), hce, hO.vm, hcl, hWs, hall, hf⟩⟩
  refine st1 _ ?_
  show Steps p.tables e below (T1.setTop { method := m, pc := pc + 3, locals := ls, stack := .ref T.heap.size :: rest, locked := none }) _
  jvm_step X₁.here [X₁.here.top, hexec, d3', Value.category]
  exact X₁.ldcString hexec (own := own) (text := text) (index := is) (a := sa) hown' hstr'.1 hstr'.2
    (g := { method := m, pc := pc + 4, locals := ls, stack := .ref T.heap.size :: .ref T.heap.size :: rest, locked := none }) rfl d4' _ hsteps
/-- 'throw new E("text")', the text by a wide index -/
theorem vx_throwSW {cc : ByteArray} {pc : Nat} (hexec : p.tables.exec = Jvm.exec) (hb : c.code = cc) (hl : l.stackTraces = false) {own cls text : String} {names : List String} {ik is ic mc ms sa : Nat} {A : Nat → Prop}
    (hown : s.vm.findClass own = some m.cls) (hcls : Bundle.fit cls = true) (hnames : ∀ n ∈ names, Bundle.fit n = true)
    (hk : (Cond.classLink own ik cls).before args s = true) (hini : (Cond.initialized cls).before args s = true) (hstr : vk_R own is text sa s) (hat : ∀ w ∈ vx_atS own ic cls names, w.before args s = true)
    (hgood : ∀ w ∈ Cond.classLink own ik cls :: Cond.initialized cls :: vx_atS own ic cls names, vx_ot w = true)
    (hU : vx_Zq Bundle.tN "UNASSIGNED_STACK" Bundle.steD A s s.heap) (hN : vx_Zq Bundle.tN "SUPPRESSED_SENTINEL" Bundle.listD A s s.heap) (hS : va_S A s.heap H locs) (hsize : ls.size = c.maxLocals)
    (d0 : decode cc pc = .ok (.new ik, 3)) (d3 : decode cc (pc + 3) = .ok (.dup, 1)) (d4 : decode cc (pc + 4) = .ok (.ldc_w is, 3)) (d7 : decode cc (pc + 7) = .ok (.invokespecial ic, 3)) (d10 : decode cc (pc + 10) = .ok (.athrow, 1))
    (hout : ∀ x ∈ c.exceptionTable.toList, covers x (pc + 10) = false)
    (hRframes : names.length + 3 < R.frames) (hRlocals : (rest.map fun v => v.category).sum + (13 * (names.length + 1) + 43) ≤ R.locals) (hRcells : cells + 1 ≤ R.cells) (hRslots : slots + 6 ≤ R.slots) (hlocks : meth.locks = false)
    (hx : ∀ t : State, s.vm.Alike t.vm → H.size ≤ t.heap.size → (∀ q : Nat, q < H.size → t.heap[q]? = H[q]?) → XC cls s t)
    (hf : ∀ z ∈ locs, free z.base) (hc : cells + 1 ≤ mc) (hs : slots + 6 ≤ ms) :
    W p l e R s m args below meth c H locs cells slots (vx_MQ below Qc XC args s mc ms free) (F0 m pc ls rest) := by
  intro T hT X
  have htr : e.platform.stackTraces = false := (show e.platform.stackTraces = l.stackTraces by rw [X.admits.platform]).trans hl
  have Y := vx_rebase X (R' := { frames := R.frames, locals := R.locals, cells := 1, slots := 6 }) (Nat.le_refl _) (Nat.le_refl _) hRcells hRslots
  obtain ⟨s', hA⟩ : ∃ z, z = (T.setVm s.vm).setFrames (.invoking m args :: below) := ⟨_, rfl⟩
  rw [← hA] at Y
  have hvm : s'.vm = s.vm := by rw [hA]; rfl
  have hhp : s'.heap = H := by rw [hA]; exact hT
  have hW0 : s.WarmedH s'.vm := by rw [hvm]; exact State.WarmedH.refl s
  have hat' : ∀ w ∈ vx_atS own ic cls names, w.before args s' = true := fun w hw => vx_ot_at hW0 hvm.symm (hgood w (List.mem_cons_of_mem _ (List.mem_cons_of_mem _ hw))) (hat w hw)
  have hk' : (Cond.classLink own ik cls).before args s' = true := vx_ot_at hW0 hvm.symm (hgood _ List.mem_cons_self) hk
  have hini' : (Cond.initialized cls).before args s' = true := vx_ot_at hW0 hvm.symm (hgood _ (List.mem_cons_of_mem _ List.mem_cons_self)) hini
  have hU' : vx_Zq Bundle.tN "UNASSIGNED_STACK" Bundle.steD A s' s'.heap := by rw [hhp]; exact vx_Zq.moved hW0.alike (hU.kept hS.2.1)
  have hN' : vx_Zq Bundle.tN "SUPPRESSED_SENTINEL" Bundle.listD A s' s'.heap := by rw [hhp]; exact vx_Zq.moved hW0.alike (hN.kept hS.2.1)
  have h : ∀ w ∈ Bundle.ownAtoms own ic cls names, w.before args s' = true := vx_own hat' (vx_isRefq hU'.1) (vx_isRefq hN'.1) hU'.2.word hN'.2.word
  have hown' : s'.vm.findClass own = some m.cls := by rw [hvm]; exact hown
  have hins : (Cond.instantiable cls 6).before args s' = true := h _ (by simp [Bundle.ownAtoms])
  obtain ⟨vm₁, cX, kX, hfX, hkX, -, -, X₁, st1⟩ := Y.newCold hexec (own := own) (C := cls) (index := ik) (n := 6) hown' hk' hins hini'
    (g := F0 m pc ls rest) rfl (by rw [hb]; exact d0) (Nat.le_refl _) (Nat.le_refl _)
  generalize hT1 : (T.setVm vm₁).pushCell { cls := cX, slots := kX.instanceTypes.map defaultValue, vm := .none } = T1 at X₁ st1
  have hcat : (Value.ref T.heap.size).category = 1 := rfl
  have hcellA : T1.heap[T.heap.size]? = some (freshCell cX kX) := by rw [← hT1]; exact State.heap_pushCell_size _ _
  have d3' : decode c.code (pc + 3) = .ok (.dup, 1) := by rw [hb]; exact d3
  have d4' : decode c.code (pc + 4) = .ok (.ldc_w is, 3) := by rw [hb]; exact d4
  have hstr' : vk_R own is text sa s' := vk_R.warm hW0 hstr
  obtain ⟨U, hsteps, hrun, hend, hW, hsame, ce, hce, hO⟩ := X₁.ctorThrowS hexec htr (own := own) (cls := cls) (names := names) (ic := ic) hown' hcls hnames h (fun x hx => nomatch hx) hfX hkX hcellA (by rw [hhp, hT]; exact Nat.le_refl _) (msg := .ref sa) rfl
    (g := { method := m, pc := pc + 7, locals := ls, stack := .ref sa :: .ref T.heap.size :: .ref T.heap.size :: rest, locked := none }) rfl hsize rfl rfl (rest := rest) rfl
    (by rw [hb]; exact d7) (by rw [hb]; exact d10) hout hRframes (by simp only [List.map_cons, List.sum_cons, hcat]; omega) hlocks
  obtain ⟨f1, f2⟩ := vx_frame hsame
  rw [hhp] at f1 f2
  have hWs : s.WarmedH U.vm := State.WarmedH.trans hW0 hW
  have hcl : s.vm.findClass cls = some ce.cls := by
    have h9 := hO.cls
    rw [hvm] at h9
    exact h9
  have hall : s.sameButNew ({ U with vm := s.vm } : State) locs mc ms := by
    subst hA
    obtain ⟨e1, e2⟩ := hsame
    rw [State.setFrames_setFrames] at e1
    have h2 : (T.setVm s.vm).sameButNew ({ U with vm := s.vm } : State) [] (0 + 1) (0 + 6) := ⟨e1, e2⟩
    have h3 := X.same.trans h2
    rw [List.append_nil] at h3
    exact h3.mono hc hs
  refine ⟨U, ?_, .threw T.heap.size, hrun, hend, Or.inr ⟨T.heap.size, rfl, cls, ce, locs, hx U hWs.alike f1 (fun q hq => f2 q hq (fun z hz => nomatch hz)), hce, hO.vm, hcl, hWs, hall, hf⟩⟩
  refine st1 _ ?_
  show Steps p.tables e below (T1.setTop { method := m, pc := pc + 3, locals := ls, stack := .ref T.heap.size :: rest, locked := none }) _
  jvm_step X₁.here [X₁.here.top, hexec, d3', Value.category]
  exact X₁.ldcStringW hexec (own := own) (text := text) (index := is) (a := sa) hown' hstr'.1 hstr'.2
    (g := { method := m, pc := pc + 4, locals := ls, stack := .ref T.heap.size :: .ref T.heap.size :: rest, locked := none }) rfl d4' _ hsteps
end Ends
section Bodies
variable {l : Launch}
theorem vx_ofW {y : MethodName} {ws ws' : List Cond} {rm : Room} {Pc : Array Value → State → Prop} {Qc : Array Value → State → Outcome → State → Prop} {XC : String → State → State → Prop} {mc ms : Nat} {free : Addr → Prop} {cc : ByteArray} {maxL : Nat} {ret : Option FieldType}
    (hy : plainName y.cls = true) (hw : ws = Cond.code y cc maxL ret :: ws')
    (body : ∀ p e s m args below meth c s₁, BodyLoose p l y (headSpec ws rm) cc maxL ret e s m args below meth c s₁ → c.maxLocals = maxL → (∀ x ∈ c.exceptionTable.toList, False) → Pc args s →
      W p l e (headSpec ws rm).room s m args below meth c s.heap [] 0 0 (vx_MQ below Qc XC args s mc ms free) (entryFrame m args maxL)) : vx_Met l y ws rm Pc Qc XC mc ms free := by
  refine MetFree.of_bodyS (code := cc) (maxLocals := maxL) (ret := ret) hy ?_ ?_
  · intro args s m h hn
    obtain ⟨meth, c, h1, h2, h3, h4, h5, h6, -, -⟩ := Cond.code_spec hn (atoms_spec (ws := ws) h _ (by rw [hw]; exact List.mem_cons_self))
    exact ⟨meth, c, h1, h2, h3, h4, h5, h6⟩
  · intro p e s m args below meth c s₁ B hml hP _
    have hh0 : s₁.heap = s.heap := by rw [B.state]; rfl
    have ht : ∀ x ∈ c.exceptionTable.toList, False := by
      obtain ⟨meth9, c9, h1, h2, -, -, -, -, h7, -⟩ := Cond.code_spec B.named (atoms_spec (ws := ws) B.pre _ (by rw [hw]; exact List.mem_cons_self))
      cases Option.some.inj (h1.symm.trans B.method)
      cases Option.some.inj (h2.symm.trans (Stand.of_body B).code)
      intro x hx
      rw [Array.isEmpty_iff.mp h7] at hx
      cases hx
    obtain ⟨t, a1, o, b1, b2, b3⟩ := body p e s m args below meth c s₁ B hml ht hP s₁ hh0 (Stand.of_body B)
    exact ⟨t, o, a1, b1, b2, b3⟩
/-- the table of a body with handlers -/
theorem vx_table {p : Program} {x y : MethodName} {S : Spec} {cc bytes : ByteArray} {maxL maxL' : Nat} {ret ret' : Option FieldType} {e : Env} {s s₁ : State} {m : MethodId} {args : Array Value} {below : List Frame} {meth : Method} {c : Code} {hh : List (Nat × Nat × Nat × Nat)}
    (B : BodyLoose p l y S cc maxL ret e s m args below meth c s₁) (h : (Cond.codeWith y bytes maxL' ret' hh).before args s = true) : c.exceptionTable.toList = tableOf hh := by
  obtain ⟨m9, meth9, c9, hn9, h1, h2, -, -, h6, -⟩ := Cond.codeWith_spec h
  cases Option.some.inj (hn9.symm.trans B.named)
  cases Option.some.inj (h1.symm.trans B.method)
  cases Option.some.inj (h2.symm.trans (Stand.of_body B).code)
  rw [← h6, table_eq]
end Bodies
end VXA
/-! ===== END ===== -/
/-! ===== BEGIN a static call of a method with an exception table ===== -/
section VXS
variable {p : Program} {l : Launch} {e : Env} {R : Room} {s : State} {m : MethodId} {args : Array Value} {below : List Frame} {meth : Method} {c : Code} {T : State} {H : Heap} {locs : List Loc} {cells slots : Nat}
abbrev vx_CSW (R : Room) (s : State) (args : Array Value) (own : String) (index : Nat) (y : MethodName) (bytes : ByteArray) (maxL : Nat) (ret : Option FieldType) (hh : List (Nat × Nat × Nat × Nat)) (ws : List Cond) (rm : Room) (mc ms n : Nat) : Prop :=
  (rm.cells = mc ∧ rm.slots = ms ∧ rm.frames + 1 ≤ R.frames ∧ 8 + (maxL + 11) + rm.locals ≤ R.locals ∧ (∀ w ∈ ws, ∀ (a' : Array Value) (U : State), s.WarmedH U.vm → w.before a' U = true) ∧ Cond.codeWith y bytes maxL ret hh ∈ ws) ∧
  (Cond.codeWith y bytes maxL ret hh).before args s = true ∧ (Cond.initialized y.cls).before args s = true ∧ (y.cls ≠ "java/lang/invoke/MethodHandle" ∧ y.cls ≠ "java/lang/invoke/VarHandle") ∧
  (∀ sig, parseMethodDescriptor y.desc = some sig → n = sig.parameters.length) ∧ (Cond.methodLink own index y).before args s = true ∧ (Cond.static y).before args s = true
theorem vx_cwSW {own : String} {index maxL mc ms : Nat} {y : MethodName} {bytes : ByteArray} {ret : Option FieldType} {hh : List (Nat × Nat × Nat × Nat)} {Ts ws ws' : List Cond} {rm : Room} (n : Nat) (ht : ∀ w ∈ Ts, w.before args s = true) (hT : GoodIn Ts (va_wsS own index y ws)) (hw : ws = Cond.codeWith y bytes maxL ret hh :: ws') (hrc : rm.cells = mc) (hrs : rm.slots = ms)
    (hd : y.cls ≠ "java/lang/invoke/MethodHandle" ∧ y.cls ≠ "java/lang/invoke/VarHandle" ∧ (parseMethodDescriptor y.desc).map (fun d => d.parameters.length) = some n) (hR : rm.frames + 1 ≤ R.frames ∧ 8 + (maxL + 11) + rm.locals ≤ R.locals) :
    vx_CSW R s args own index y bytes maxL ret hh ws rm mc ms n := by
  have ok : ∀ w ∈ va_wsS own index y ws, w.before args s = true := fun w h => ht w (hT w h).1
  have hG : GoodIn Ts ws := fun w h => hT w (by unfold va_wsS; exact List.mem_append_right _ h)
  have hc : Cond.codeWith y bytes maxL ret hh ∈ ws := by rw [hw]; exact List.mem_cons_self
  refine ⟨⟨hrc, hrs, hR.1, hR.2, pay_in ht hG, hc⟩, ht _ (hG _ hc).1, ok _ (by simp [va_wsS]), ⟨hd.1, hd.2.1⟩, fun sig h => ?_, ok _ (by simp [va_wsS]), ok _ (by simp [va_wsS])⟩
  have h2 := hd.2.2
  rw [h] at h2
  exact (Option.some.inj h2).symm
theorem vx_callSW (X : Stand p l e R s m args below meth c T locs cells slots) (hexec : p.tables.exec = Jvm.exec) {own : String} {index : Nat} {y : MethodName} {bytes : ByteArray} {maxL : Nat} {ret : Option FieldType} {hh : List (Nat × Nat × Nat × Nat)}
    (hown : s.vm.findClass own = some m.cls) (hlink : (Cond.methodLink own index y).before args s = true) (hstat : (Cond.static y).before args s = true) (hinit : (Cond.initialized y.cls).before args s = true)
    (hcode : (Cond.codeWith y bytes maxL ret hh).before args s = true) (hy : y.cls ≠ "java/lang/invoke/MethodHandle" ∧ y.cls ≠ "java/lang/invoke/VarHandle")
    {W9 : Nat} {Pre : Pt → Array Value → Prop} {Post : Pt → Array Value → Option Value → Pt → Prop} (hK : Back l R p e below s args y 3 W9 Pre Post)
    {g : JFrame} (hg : g.method = m) (hsize : g.locals.size = c.maxLocals) {argsL rest : List Value} (hlen : ∀ sig, parseMethodDescriptor y.desc = some sig → argsL.length = sig.parameters.length)
    (hstack : g.stack = argsL.reverse ++ rest) (hW : 2 * g.monitorRoom + (rest.map fun v => v.category).sum ≤ W9) (hdg : decode c.code g.pc = .ok (.invokestatic index, 3))
    (hpre : ∀ vm₁, s.WarmedH vm₁ → Pre ⟨T.setVm vm₁, locs, cells, slots⟩ argsL.toArray) :
    ∃ (v : Option Value) (vm₁ : Vm) (B : Pt), s.WarmedH vm₁ ∧ Stand p l e R s m args below meth c B.U B.locs B.cells B.slots ∧ Post ⟨T.setVm vm₁, locs, cells, slots⟩ argsL.toArray v B ∧
      ∀ target, Steps p.tables e below (B.U.setTop { g with pc := g.pc + 3, stack := v.toList ++ rest }) target → Steps p.tables e below (T.setTop g) target := by
  obtain ⟨mk, methM, cM, hnamed, hmethM, -, -, -, -, -, -, hsigM⟩ := Cond.codeWith_spec hcode
  have hstatic : methM.isStatic = true := Cond.static_spec hnamed hmethM hstat
  obtain ⟨kP, hkP, -⟩ := className_of_methodNamed hnamed
  have hinitP : kP.init = .initialized := Cond.initialized_spec (findClass_of_methodNamed hnamed) hkP hinit
  obtain ⟨vm₁, X₁, hstep₁⟩ := X.invokestatic hexec hown hlink hnamed hmethM hstatic hkP hinitP hy (g := g) hg (argsL := argsL) (rest := rest) (hlen _ hsigM) hstack hdg
  obtain ⟨v, B, X', hpost, hsteps⟩ := hK m meth c ⟨T.setVm vm₁, locs, cells, slots⟩ { g with stack := rest } (.invokestatic index) mk argsL.toArray X₁ hg hsize hdg hW (X₁.named hnamed) (hpre vm₁ X₁.warmed)
  exact ⟨v, vm₁, B, X₁.warmed, X', hpost, fun target h => hstep₁ _ fun acts => by rw [doInvoke_state]; exact hsteps.trans h⟩
theorem vx_runSW {y : MethodName} {bytes cc : ByteArray} {maxL nL mc ms n index : Nat} {ret : Option FieldType} {hh : List (Nat × Nat × Nat × Nat)} {ws : List Cond} {rm : Room} {Pc : Array Value → State → Prop} {Qc : Array Value → State → Outcome → State → Prop} {free : Addr → Prop} {Ts : List Cond} {own : String} {As rest : List Value} {g : JFrame}
    (S : CallFix p m c cc nL s args Ts own) (hM : Met l y ws rm Pc Qc mc ms free) (cw : vx_CSW R s args own index y bytes maxL ret hh ws rm mc ms n) (hp : PreS s H Pc As)
    (hg : g.method = m) (hn : As.length = n) (hsize : g.locals.size = nL) (hstack : g.stack = As.reverse ++ rest) (hW : 2 * g.monitorRoom + (rest.map fun v => v.category).sum ≤ 8) (hdg : decode cc g.pc = .ok (.invokestatic index, 3)) (hf : cells + mc ≤ R.cells ∧ slots + ms ≤ R.slots) :
    va_Run p l e R s m args below meth c H locs cells slots mc ms g rest (Qc As.toArray) (free) := by
  obtain ⟨⟨hrc, hrs, hfr, hlo, hws, hcw⟩, hcode, hini, hy, hlen, hl, hstt⟩ := cw
  have hK : Back l R p e below s args y 3 8 (PreOf R mc ms Pc) (PostOf Qc mc ms free) := va_backW (hh := hh) (bytes := bytes) (maxL := maxL) (ret := ret) hM hp.1 hrc hrs hfr hlo hws hcw (fun a' U hW => word_at hW (Or.inl (by first | rfl | simp [Cond.onTables, Cond.keeps, Cond.steady])) hini)
  obtain ⟨hx, hb, hml, ho, -⟩ := S
  intro T hT X
  obtain ⟨v, vm₁, ⟨U', l2, c2, s2⟩, hW₁, X', ⟨g', mk, t, L, e1, e2, hq, h1, hL, h2, h3⟩, st⟩ := vx_callSW X hx (hh := hh) (bytes := bytes) (maxL := maxL) (ret := ret) ho hl hstt hini hcode hy hK hg (hsize.trans hml.symm) (argsL := As) (rest := rest) (fun sig h => hn.trans (hlen sig h)) hstack hW (by rw [hb]; exact hdg)
    (fun vm₁ hW₁ => ⟨hf.1, hf.2, hp.2 (T.setVm vm₁) hT hW₁⟩)
  dsimp only [Pt.U, Pt.locs, Pt.cells, Pt.slots] at X' e1 e2 h1 h2 h3 st
  subst h1; subst h2; subst h3
  exact ⟨v, (T.setVm vm₁).calling g' mk As.toArray, t, U', L, hT, X', hL, e1, e2, hq, st⟩
/-- not caught here, past rows that name other classes: it goes on to the caller -/
theorem vx_outP {p : Program} {l : Launch} {e : Env} {R : Room} {s : State} {m : MethodId} {args : Array Value} {below : List Frame} {meth : Method} {c : Code} {H : Heap} {locs : List Loc} {cells slots : Nat} {free : Addr → Prop} {ls : Array Slot} {rest : List Value} {Qc : Array Value → State → Outcome → State → Prop} {XC : String → State → State → Prop}
    {pc : Nat} {own E : String} {ce : Cell} {q : Addr} {mc ms : Nat} (hown : s.vm.findClass own = some m.cls) (hlocks : meth.locks = false)
    (hpass : ∀ z ∈ c.exceptionTable.toList, covers z pc = false ∨ (z.catchType ≠ 0 ∧ ∃ nm : String, (Cond.classLink own z.catchType nm).before args s = true ∧ va_Nc E nm s)) (hcell : H[q]? = some ce) (hv : ce.vm = .none) (hcl : s.vm.findClass E = some ce.cls)
    (hx : ∀ t : State, t.heap = H → s.vm.Alike t.vm → XC E s t) (hf : ∀ z ∈ locs, free z.base) (hc : cells ≤ mc) (hs : slots ≤ ms) :
    vx_W p l e R s m args below meth c H locs cells slots (vx_MQ below Qc XC args s mc ms free) (F0 m pc ls rest) q := by
  intro T hT X
  have hpl : e.platform.magicAccessors = ({} : Platform).magicAccessors := by rw [X.admits.platform]
  obtain ⟨vm', hW', X', st⟩ := X.outThrough hlocks q (g := F0 m pc ls rest) rfl rfl rfl (cell := ce) (by rw [hT]; exact hcell) (by rw [hv]; rfl)
    (by obtain ⟨k9, h9, -⟩ := Vm.findClass_spec hcl; exact ⟨k9, h9⟩) (fun z hz => by
      rcases hpass z hz with h | ⟨hz0, nm, hl1, hn1⟩
      · exact Or.inl h
      · obtain ⟨c6, hc6, hcl6⟩ := Cond.classLink_spec hown hl1 e.platform hpl
        obtain ⟨a8, b8, h1, h2, h3⟩ := hn1
        cases Option.some.inj (h1.symm.trans hcl)
        cases Option.some.inj (h2.symm.trans hc6)
        exact Or.inr ⟨hz0, _, hcl6, h3⟩)
  obtain ⟨g₀, hfr⟩ := X'.frames_eq
  have hcell9 : ((T.setVm vm').setFrames (.throwing q :: below)).heap[q]? = some ce := by
    show T.heap[q]? = some ce
    rw [hT]; exact hcell
  have hend : Ended ((T.setVm vm').setFrames (.throwing q :: below)) below (.threw q) := State.frames_setFrames _ (State.cur_lt_of_frames hfr)
  refine ⟨(T.setVm vm').setFrames (.throwing q :: below), ?_, .threw q, X'.here.running, hend, Or.inr ⟨q, rfl, E, ce, locs, hx _ hT (X'.ends _).1.alike, hcell9, hv, hcl, (X'.ends _).1, (X'.ends _).2.mono hc hs, hf⟩⟩
  rw [X.pushThrowing_eq]
  exact st
/-- a thing of a world lies in the heap -/
theorem vx_lt {D : va_G} {cl : List vw_C} {ws : va_W} {H1 : Heap} (h : va_P D cl ws H1) {k : Nat} {q : Nat × va_E} (hk : ws[k]? = some q) : q.1 < H1.size := (h k q hk).lt
end VXS
/-! ===== END ===== -/
/-! ===== BEGIN methods with a table of their own: called by a name, returning or throwing ===== -/
section VXH
/-! vx_backW, vx_callVX, vx_callSX, vx_callVW, vx_runVW, vx_runVX, vx_runSX, vx_ofWH follow the same proofs as their sisters above (Free/Laws.lean, Shelf42/LK1.lean); vx_outP calls Shelf42/NT130.lean (outThrough). -/
section
variable {l : Launch} {R : Room} {p : Program} {e : Env} {below : List Frame} {s : State} {sargs : Array Value} {y : MethodName} {len W9 : Nat}
theorem vx_backW {ws : List Cond} {rm : Room} {Pc : Array Value → State → Prop} {Qc : Array Value → State → Outcome → State → Prop} {XC : String → State → State → Prop} {mc ms : Nat} {free : Addr → Prop} {bytes : ByteArray} {maxL : Nat} {ret : Option FieldType} {hh : List (Nat × Nat × Nat × Nat)}
    (hM : vx_Met l y ws rm Pc Qc XC mc ms free) (hblind : FrameBlind Pc) (hrc : rm.cells = mc) (hrs : rm.slots = ms)
    (hframes : rm.frames + 1 ≤ R.frames) (hlocals : W9 + (maxL + 11) + rm.locals ≤ R.locals)
    (hws : ∀ w ∈ ws, ∀ a' U, s.WarmedH U.vm → w.before a' U = true) (hcode : Cond.codeWith y bytes maxL ret hh ∈ ws) (hinit : ∀ a' U, s.WarmedH U.vm → (Cond.initialized y.cls).before a' U = true) :
    vx_Back l R p e below s sargs y len W9 (PreOf R mc ms Pc) (PostOf Qc mc ms free) (vx_Post XC mc ms free) := by
  intro m meth c A g ig mk a X hg hsize hdg hW hn hp
  have h1 : (headSpec ws rm).pre.before a A.U = true := atoms_intro fun w hw => hws w hw _ _ X.warmed
  have h2 : (Cond.codeWith y bytes maxL ret hh).before a A.U = true := hws _ hcode _ _ X.warmed
  have h3 : (Cond.initialized y.cls).before a A.U = true := hinit _ _ X.warmed
  have h4 : A.cells + (headSpec ws rm).room.cells ≤ R.cells := by rw [show (headSpec ws rm).room.cells = mc from hrc]; exact hp.1
  have h5 : A.slots + (headSpec ws rm).room.slots ≤ R.slots := by rw [show (headSpec ws rm).room.slots = ms from hrs]; exact hp.2.1
  have hPc : Pc a (A.U.calling g mk a) := hblind _ _ _ _ hp.2.2
  obtain ⟨U, Ls, c0, s0⟩ := A
  dsimp only [Pt.U, Pt.locs, Pt.cells, Pt.slots] at h1 h2 h3 h4 h5 X hn hPc ⊢
  obtain ⟨m9, methY, cY, hn9, hmY, hcY, -, hlY, -⟩ := Cond.codeWith_spec h2
  cases Option.some.inj (hn9.symm.trans hn)
  obtain ⟨kY, hkY, -⟩ := className_of_methodNamed hn
  have hinitY : kY.init = .initialized := Cond.initialized_spec (findClass_of_methodNamed hn) hkY h3
  have h : At U g.method c below := by rw [hg]; exact X.here
  have hlocals9 : W9 + (maxL + 11) + (headSpec ws rm).room.locals ≤ R.locals := hlocals
  have happ : (headSpec ws rm).appliesLoose y e.platform (U.calling g mk a) = true :=
    Spec.appliesLoose_calling (g := g) h hdg hn hkY hinitY
      (X.room_calling (g := g) (R' := (headSpec ws rm).room) hsize hmY hcY hframes (by rw [hlY]; omega) h4 h5) h1
  obtain ⟨mid, hmid⟩ := h.above
  have hfr : (U.setTop g).frames = (.java g :: mid) ++ below := by rw [State.frames_setTop' g h.top, hmid]; rfl
  obtain ⟨o, s₂, hsteps, -, hend, hq⟩ := Steps.callFree hM p X.admits X.cas X.clock (acts := []) hfr happ hPc trivial
  have hq' : vx_Q Qc XC mc ms free a (U.calling g mk a) o s₂ := hq
  rw [State.frames_setTop' g h.top] at hend
  obtain ⟨g₀, hg0⟩ := Option.isSome_iff_exists.mp h.top
  obtain ⟨r, hr⟩ := State.topJava?_eq_some.mp hg0
  have hr' : (({ U with heap := s₂.heap, slotsUsed := s₂.slotsUsed } : State).setVm s₂.vm).frames = .java g₀ :: r := hr
  rcases hq' with ⟨hqc, L, hfe, hL⟩ | ⟨q, rfl, E, ce, L, hx, hce, hcv, hcl, hW₂, hsm, hL⟩
  · obtain ⟨⟨v, rfl⟩, hW₂, e2, q2, q3, q4, q5, q6⟩ := id hfe
    have e3 : s₂ = ({ (U.calling g mk a).setFrames s₂.frames with heap := s₂.heap, slotsUsed := s₂.slotsUsed } : State).setVm s₂.vm := by
      have : s₂ = ({ s₂ with vm := (U.calling g mk a).vm } : State).setVm s₂.vm := rfl
      rw [e2] at this
      exact this
    obtain ⟨c₂, i₂, len₂, hc₂, hd₂, hf₂⟩ := hend
    have hW' : U.WarmedH s₂.vm := hW₂
    have hcc : c₂ = c := by
      have h1 : s₂.code? g.method = U.code? g.method := by
        rw [State.code?_eq, State.code?_eq, hW'.alike.method?]
      exact Option.some.inj (hc₂.symm.trans (h1.trans h.code))
    subst hcc
    have hlen : len₂ = len := by rw [hdg] at hd₂; cases hd₂; rfl
    subst hlen
    have hs₂ : s₂ = (({ U with heap := s₂.heap, slotsUsed := s₂.slotsUsed } : State).setVm s₂.vm).setTop { g with pc := g.pc + len₂, stack := v.toList ++ g.stack } := by
      refine e3.trans ?_
      rw [hf₂, State.calling_eq h.top, State.setFrames_setFrames, State.setTop_of_frames _ hr', hr]
      rfl
    have hsame : U.sameButNew ({ U with heap := s₂.heap, slotsUsed := s₂.slotsUsed } : State) L mc ms := by
      refine ⟨?_, q2, q3, q4, q5, q6⟩
      obtain ⟨t, ht, -⟩ := State.frames_cons hr
      show ({ U with heap := s₂.heap, slotsUsed := s₂.slotsUsed } : State) = { U.setFrames U.frames with heap := s₂.heap, slotsUsed := s₂.slotsUsed }
      rw [State.setFrames_self ht]
    subst hg
    refine Or.inl ⟨v, ⟨(({ U with heap := s₂.heap, slotsUsed := s₂.slotsUsed } : State).setVm s₂.vm), Ls ++ L, c0 + mc, s0 + ms⟩,
      ⟨X.admits, X.cas, X.clock, X.frames, X.room, X.hears, X.method, X.code, (X.here.setHeapUsed s₂.heap s₂.slotsUsed).setVm hW'.alike, X.tail, State.WarmedH.trans X.warmed hW', X.limits, X.bytes, X.same.trans (hsame.setVm s.vm)⟩,
      ⟨g, mk, s₂, L, rfl, rfl, hqc, rfl, hL, rfl, rfl⟩, ?_⟩
    show Steps p.tables e below _ ((({ U with heap := s₂.heap, slotsUsed := s₂.slotsUsed } : State).setVm s₂.vm).setTop { g with pc := g.pc + len₂, stack := v.toList ++ g.stack })
    rw [← hs₂]
    exact hsteps
  · obtain ⟨e2, q2, q3, q4, q5, q6⟩ := id hsm
    have e3 : s₂ = ({ (U.calling g mk a).setFrames s₂.frames with heap := s₂.heap, slotsUsed := s₂.slotsUsed } : State).setVm s₂.vm := by
      have : s₂ = ({ s₂ with vm := (U.calling g mk a).vm } : State).setVm s₂.vm := rfl
      rw [e2] at this
      exact this
    have hf₂ : s₂.frames = .throwing q :: .java g :: U.frames.tail := hend
    have hW' : U.WarmedH s₂.vm := hW₂
    have hs₂ : s₂ = ((({ U with heap := s₂.heap, slotsUsed := s₂.slotsUsed } : State).setVm s₂.vm).setTop g).pushFrame (.throwing q) := by
      refine e3.trans ?_
      rw [hf₂, State.calling_eq h.top, State.setFrames_setFrames, State.pushFrame, State.frames_setTop _ hr', State.setTop_of_frames _ hr', State.setFrames_setFrames, hr]
      rfl
    have hsame : U.sameButNew ({ U with heap := s₂.heap, slotsUsed := s₂.slotsUsed } : State) L mc ms := by
      refine ⟨?_, q2, q3, q4, q5, q6⟩
      obtain ⟨t, ht, -⟩ := State.frames_cons hr
      show ({ U with heap := s₂.heap, slotsUsed := s₂.slotsUsed } : State) = { U.setFrames U.frames with heap := s₂.heap, slotsUsed := s₂.slotsUsed }
      rw [State.setFrames_self ht]
    subst hg
    refine Or.inr ⟨q, ⟨(({ U with heap := s₂.heap, slotsUsed := s₂.slotsUsed } : State).setVm s₂.vm), Ls ++ L, c0 + mc, s0 + ms⟩,
      ⟨X.admits, X.cas, X.clock, X.frames, X.room, X.hears, X.method, X.code, (X.here.setHeapUsed s₂.heap s₂.slotsUsed).setVm hW'.alike, X.tail, State.WarmedH.trans X.warmed hW', X.limits, X.bytes, X.same.trans (hsame.setVm s.vm)⟩,
      ⟨g, mk, s₂, L, E, ce, rfl, rfl, hx, hce, hcv, hcl, rfl, hL, rfl, rfl⟩, ?_⟩
    show Steps p.tables e below _ (((({ U with heap := s₂.heap, slotsUsed := s₂.slotsUsed } : State).setVm s₂.vm).setTop g).pushFrame (.throwing q))
    rw [← hs₂]
    exact hsteps
end
variable {p : Program} {l : Launch} {e : Env} {R : Room} {s : State} {m : MethodId} {args : Array Value} {below : List Frame} {meth : Method} {c : Code} {T : State} {H : Heap} {locs : List Loc} {cells slots : Nat}
theorem vx_callVX (X : Stand p l e R s m args below meth c T locs cells slots) (hexec : p.tables.exec = Jvm.exec) {own C : String} {index : Nat} {y : MethodName} {bytes : ByteArray} {maxL : Nat} {ret : Option FieldType} {hh : List (Nat × Nat × Nat × Nat)}
    (hown : s.vm.findClass own = some m.cls) (hlink : (Cond.methodLink own index y).before args s = true) (hinst : (Cond.instanceMethod y).before args s = true) (hsel : (Cond.selects C y y).before args s = true)
    (hcode : (Cond.codeWith y bytes maxL ret hh).before args s = true) (hy : y.cls ≠ "java/lang/invoke/MethodHandle" ∧ y.cls ≠ "java/lang/invoke/VarHandle")
    {W9 : Nat} {Pre : Pt → Array Value → Prop} {Post : Pt → Array Value → Option Value → Pt → Prop} {PostX : Pt → Array Value → Addr → Pt → Prop} (hK : vx_Back l R p e below s args y 3 W9 Pre Post PostX)
    {b : Addr} {cellB : Cell} (hcell : T.heap[b]? = some cellB) (hobj : cellB.vm.isStatics = false) (hcls : s.vm.findClass C = some cellB.cls)
    {g : JFrame} (hg : g.method = m) (hsize : g.locals.size = c.maxLocals) {argsL rest : List Value} (hlen : ∀ sig, parseMethodDescriptor y.desc = some sig → argsL.length = sig.parameters.length)
    (hstack : g.stack = argsL.reverse ++ .ref b :: rest) (hW : 2 * g.monitorRoom + (rest.map fun v => v.category).sum ≤ W9) (hdg : decode c.code g.pc = .ok (.invokevirtual index, 3))
    (hpre : ∀ vm₁, s.WarmedH vm₁ → Pre ⟨T.setVm vm₁, locs, cells, slots⟩ (Value.ref b :: argsL).toArray) :
    (∃ (v : Option Value) (vm₁ : Vm) (B : Pt), s.WarmedH vm₁ ∧ Stand p l e R s m args below meth c B.U B.locs B.cells B.slots ∧ Post ⟨T.setVm vm₁, locs, cells, slots⟩ (Value.ref b :: argsL).toArray v B ∧
      ∀ target, Steps p.tables e below (B.U.setTop { g with pc := g.pc + 3, stack := v.toList ++ rest }) target → Steps p.tables e below (T.setTop g) target) ∨
    (∃ (q : Addr) (vm₁ : Vm) (B : Pt), s.WarmedH vm₁ ∧ Stand p l e R s m args below meth c B.U B.locs B.cells B.slots ∧ PostX ⟨T.setVm vm₁, locs, cells, slots⟩ (Value.ref b :: argsL).toArray q B ∧
      Steps p.tables e below (T.setTop g) ((B.U.setTop { g with stack := rest }).pushFrame (.throwing q))) := by
  obtain ⟨mk, methM, hnamed, hmethM, hstM, habM⟩ := Cond.instanceMethod_spec hinst
  obtain ⟨m8, methM', cM, hn8, hmethM', -, -, -, -, -, -, hsigM⟩ := Cond.codeWith_spec hcode
  cases Option.some.inj (hn8.symm.trans hnamed)
  cases hmethM.symm.trans hmethM'
  obtain ⟨c2, r2, m2, q1, q2, q3, q4, kP, hkP, hkPi⟩ := Cond.selects_spec hsel
  cases hcls.symm.trans q1
  cases (State.methodFound?_of_named hnamed hy).symm.trans q2
  cases hnamed.symm.trans q3
  have hselP : selectMethod e.platform s.vm cellB.cls mk = .method mk := by rw [Launch.admits_selectMethod X.admits]; exact q4
  obtain ⟨vm₁, X₁, hstep₁⟩ := X.invokevirtual hexec hown hlink hnamed hmethM hstM hkP hkPi hy (a := b) (cell := cellB) hcell
    (fun z h => by rw [h] at hobj; cases hobj) hselP hmethM habM hkP hkPi (g := g) hg (argsL := argsL) (rest := rest) (hlen _ hsigM) hstack hdg
  rcases hK m meth c ⟨T.setVm vm₁, locs, cells, slots⟩ { g with stack := rest } (.invokevirtual index) mk (Value.ref b :: argsL).toArray X₁ hg hsize hdg hW (X₁.named hnamed) (hpre vm₁ X₁.warmed) with ⟨v, B, X', hpost, hsteps⟩ | ⟨q, B, X', hpost, hsteps⟩
  · exact Or.inl ⟨v, vm₁, B, X₁.warmed, X', hpost, fun target h => hstep₁ _ fun acts => by rw [doInvoke_state]; exact hsteps.trans h⟩
  · exact Or.inr ⟨q, vm₁, B, X₁.warmed, X', hpost, hstep₁ _ fun acts => by rw [doInvoke_state]; exact hsteps⟩
theorem vx_callSX (X : Stand p l e R s m args below meth c T locs cells slots) (hexec : p.tables.exec = Jvm.exec) {own : String} {index : Nat} {y : MethodName} {bytes : ByteArray} {maxL : Nat} {ret : Option FieldType} {hh : List (Nat × Nat × Nat × Nat)}
    (hown : s.vm.findClass own = some m.cls) (hlink : (Cond.methodLink own index y).before args s = true) (hstat : (Cond.static y).before args s = true) (hinit : (Cond.initialized y.cls).before args s = true)
    (hcode : (Cond.codeWith y bytes maxL ret hh).before args s = true) (hy : y.cls ≠ "java/lang/invoke/MethodHandle" ∧ y.cls ≠ "java/lang/invoke/VarHandle")
    {W9 : Nat} {Pre : Pt → Array Value → Prop} {Post : Pt → Array Value → Option Value → Pt → Prop} {PostX : Pt → Array Value → Addr → Pt → Prop} (hK : vx_Back l R p e below s args y 3 W9 Pre Post PostX)
    {g : JFrame} (hg : g.method = m) (hsize : g.locals.size = c.maxLocals) {argsL rest : List Value} (hlen : ∀ sig, parseMethodDescriptor y.desc = some sig → argsL.length = sig.parameters.length)
    (hstack : g.stack = argsL.reverse ++ rest) (hW : 2 * g.monitorRoom + (rest.map fun v => v.category).sum ≤ W9) (hdg : decode c.code g.pc = .ok (.invokestatic index, 3))
    (hpre : ∀ vm₁, s.WarmedH vm₁ → Pre ⟨T.setVm vm₁, locs, cells, slots⟩ argsL.toArray) :
    (∃ (v : Option Value) (vm₁ : Vm) (B : Pt), s.WarmedH vm₁ ∧ Stand p l e R s m args below meth c B.U B.locs B.cells B.slots ∧ Post ⟨T.setVm vm₁, locs, cells, slots⟩ argsL.toArray v B ∧
      ∀ target, Steps p.tables e below (B.U.setTop { g with pc := g.pc + 3, stack := v.toList ++ rest }) target → Steps p.tables e below (T.setTop g) target) ∨
    (∃ (q : Addr) (vm₁ : Vm) (B : Pt), s.WarmedH vm₁ ∧ Stand p l e R s m args below meth c B.U B.locs B.cells B.slots ∧ PostX ⟨T.setVm vm₁, locs, cells, slots⟩ argsL.toArray q B ∧
      Steps p.tables e below (T.setTop g) ((B.U.setTop { g with stack := rest }).pushFrame (.throwing q))) := by
  obtain ⟨mk, methM, cM, hnamed, hmethM, -, -, -, -, -, -, hsigM⟩ := Cond.codeWith_spec hcode
  have hstatic : methM.isStatic = true := Cond.static_spec hnamed hmethM hstat
  obtain ⟨kP, hkP, -⟩ := className_of_methodNamed hnamed
  have hinitP : kP.init = .initialized := Cond.initialized_spec (findClass_of_methodNamed hnamed) hkP hinit
  obtain ⟨vm₁, X₁, hstep₁⟩ := X.invokestatic hexec hown hlink hnamed hmethM hstatic hkP hinitP hy (g := g) hg (argsL := argsL) (rest := rest) (hlen _ hsigM) hstack hdg
  rcases hK m meth c ⟨T.setVm vm₁, locs, cells, slots⟩ { g with stack := rest } (.invokestatic index) mk argsL.toArray X₁ hg hsize hdg hW (X₁.named hnamed) (hpre vm₁ X₁.warmed) with ⟨v, B, X', hpost, hsteps⟩ | ⟨q, B, X', hpost, hsteps⟩
  · exact Or.inl ⟨v, vm₁, B, X₁.warmed, X', hpost, fun target h => hstep₁ _ fun acts => by rw [doInvoke_state]; exact hsteps.trans h⟩
  · exact Or.inr ⟨q, vm₁, B, X₁.warmed, X', hpost, hstep₁ _ fun acts => by rw [doInvoke_state]; exact hsteps⟩
theorem vx_callVW (X : Stand p l e R s m args below meth c T locs cells slots) (hexec : p.tables.exec = Jvm.exec) {own C : String} {index : Nat} {y : MethodName} {bytes : ByteArray} {maxL : Nat} {ret : Option FieldType} {hh : List (Nat × Nat × Nat × Nat)}
    (hown : s.vm.findClass own = some m.cls) (hlink : (Cond.methodLink own index y).before args s = true) (hinst : (Cond.instanceMethod y).before args s = true) (hsel : (Cond.selects C y y).before args s = true)
    (hcode : (Cond.codeWith y bytes maxL ret hh).before args s = true) (hy : y.cls ≠ "java/lang/invoke/MethodHandle" ∧ y.cls ≠ "java/lang/invoke/VarHandle")
    {W9 : Nat} {Pre : Pt → Array Value → Prop} {Post : Pt → Array Value → Option Value → Pt → Prop} (hK : Back l R p e below s args y 3 W9 Pre Post)
    {b : Addr} {cellB : Cell} (hcell : T.heap[b]? = some cellB) (hobj : cellB.vm.isStatics = false) (hcls : s.vm.findClass C = some cellB.cls)
    {g : JFrame} (hg : g.method = m) (hsize : g.locals.size = c.maxLocals) {argsL rest : List Value} (hlen : ∀ sig, parseMethodDescriptor y.desc = some sig → argsL.length = sig.parameters.length)
    (hstack : g.stack = argsL.reverse ++ .ref b :: rest) (hW : 2 * g.monitorRoom + (rest.map fun v => v.category).sum ≤ W9) (hdg : decode c.code g.pc = .ok (.invokevirtual index, 3))
    (hpre : ∀ vm₁, s.WarmedH vm₁ → Pre ⟨T.setVm vm₁, locs, cells, slots⟩ (Value.ref b :: argsL).toArray) :
    ∃ (v : Option Value) (vm₁ : Vm) (B : Pt), s.WarmedH vm₁ ∧ Stand p l e R s m args below meth c B.U B.locs B.cells B.slots ∧ Post ⟨T.setVm vm₁, locs, cells, slots⟩ (Value.ref b :: argsL).toArray v B ∧
      ∀ target, Steps p.tables e below (B.U.setTop { g with pc := g.pc + 3, stack := v.toList ++ rest }) target → Steps p.tables e below (T.setTop g) target := by
  obtain ⟨mk, methM, hnamed, hmethM, hstM, habM⟩ := Cond.instanceMethod_spec hinst
  obtain ⟨m8, methM', cM, hn8, hmethM', -, -, -, -, -, -, hsigM⟩ := Cond.codeWith_spec hcode
  cases Option.some.inj (hn8.symm.trans hnamed)
  cases hmethM.symm.trans hmethM'
  obtain ⟨c2, r2, m2, q1, q2, q3, q4, kP, hkP, hkPi⟩ := Cond.selects_spec hsel
  cases hcls.symm.trans q1
  cases (State.methodFound?_of_named hnamed hy).symm.trans q2
  cases hnamed.symm.trans q3
  have hselP : selectMethod e.platform s.vm cellB.cls mk = .method mk := by rw [Launch.admits_selectMethod X.admits]; exact q4
  obtain ⟨vm₁, X₁, hstep₁⟩ := X.invokevirtual hexec hown hlink hnamed hmethM hstM hkP hkPi hy (a := b) (cell := cellB) hcell
    (fun z h => by rw [h] at hobj; cases hobj) hselP hmethM habM hkP hkPi (g := g) hg (argsL := argsL) (rest := rest) (hlen _ hsigM) hstack hdg
  obtain ⟨v, B, X', hpost, hsteps⟩ := hK m meth c ⟨T.setVm vm₁, locs, cells, slots⟩ { g with stack := rest } (.invokevirtual index) mk (Value.ref b :: argsL).toArray X₁ hg hsize hdg hW (X₁.named hnamed) (hpre vm₁ X₁.warmed)
  exact ⟨v, vm₁, B, X₁.warmed, X', hpost, fun target h => hstep₁ _ fun acts => by rw [doInvoke_state]; exact hsteps.trans h⟩
abbrev vx_CVW (R : Room) (s : State) (args : Array Value) (own C : String) (index : Nat) (y : MethodName) (bytes : ByteArray) (maxL : Nat) (ret : Option FieldType) (hh : List (Nat × Nat × Nat × Nat)) (ws : List Cond) (rm : Room) (mc ms n : Nat) : Prop :=
  (rm.cells = mc ∧ rm.slots = ms ∧ rm.frames + 1 ≤ R.frames ∧ 8 + (maxL + 11) + rm.locals ≤ R.locals ∧ (∀ w ∈ ws, ∀ (a' : Array Value) (U : State), s.WarmedH U.vm → w.before a' U = true) ∧ Cond.codeWith y bytes maxL ret hh ∈ ws) ∧
  (Cond.codeWith y bytes maxL ret hh).before args s = true ∧ (Cond.initialized y.cls).before args s = true ∧ (y.cls ≠ "java/lang/invoke/MethodHandle" ∧ y.cls ≠ "java/lang/invoke/VarHandle") ∧
  (∀ sig, parseMethodDescriptor y.desc = some sig → n = sig.parameters.length) ∧ (Cond.methodLink own index y).before args s = true ∧ (Cond.instanceMethod y).before args s = true ∧ (Cond.selects C y y).before args s = true
theorem vx_cwVW {own C : String} {index maxL mc ms : Nat} {y : MethodName} {bytes : ByteArray} {ret : Option FieldType} {hh : List (Nat × Nat × Nat × Nat)} {Ts ws ws' : List Cond} {rm : Room} (n : Nat) (ht : ∀ w ∈ Ts, w.before args s = true) (hT : GoodIn Ts (wsV own index C y ws)) (hw : ws = Cond.codeWith y bytes maxL ret hh :: ws') (hrc : rm.cells = mc) (hrs : rm.slots = ms)
    (hd : y.cls = C ∧ y.cls ≠ "java/lang/invoke/MethodHandle" ∧ y.cls ≠ "java/lang/invoke/VarHandle" ∧ (parseMethodDescriptor y.desc).map (fun d => d.parameters.length) = some n) (hR : rm.frames + 1 ≤ R.frames ∧ 8 + (maxL + 11) + rm.locals ≤ R.locals) :
    vx_CVW R s args own C index y bytes maxL ret hh ws rm mc ms n := by
  obtain ⟨hC, hd⟩ := hd
  subst hC
  have ok : ∀ w ∈ wsV own index y.cls y ws, w.before args s = true := fun w h => ht w (hT w h).1
  have hG : GoodIn Ts ws := fun w h => hT w (by unfold wsV; exact List.mem_append_right _ h)
  have hc : Cond.codeWith y bytes maxL ret hh ∈ ws := by rw [hw]; exact List.mem_cons_self
  refine ⟨⟨hrc, hrs, hR.1, hR.2, pay_in ht hG, hc⟩, ht _ (hG _ hc).1, ok _ (by simp [wsV]), ⟨hd.1, hd.2.1⟩, fun sig h => ?_, ok _ (by simp [wsV]), ok _ (by simp [wsV]), ok _ (by simp [wsV])⟩
  have h2 := hd.2.2
  rw [h] at h2
  exact (Option.some.inj h2).symm
theorem vx_runVW {y : MethodName} {bytes cc : ByteArray} {maxL nL mc ms n index : Nat} {ret : Option FieldType} {hh : List (Nat × Nat × Nat × Nat)} {ws : List Cond} {rm : Room} {Pc : Array Value → State → Prop} {Qc : Array Value → State → Outcome → State → Prop} {free : Addr → Prop} {Ts : List Cond} {own C : String} {b : Addr} {As rest : List Value} {g : JFrame}
    (S : CallFix p m c cc nL s args Ts own) (hM : Met l y ws rm Pc Qc mc ms free) (cw : vx_CVW R s args own C index y bytes maxL ret hh ws rm mc ms n) (hp : PreV s H C b Pc As)
    (hg : g.method = m) (hn : As.length = n) (hsize : g.locals.size = nL) (hstack : g.stack = As.reverse ++ .ref b :: rest) (hW : 2 * g.monitorRoom + (rest.map fun v => v.category).sum ≤ 8) (hdg : decode cc g.pc = .ok (.invokevirtual index, 3)) (hf : cells + mc ≤ R.cells ∧ slots + ms ≤ R.slots) :
    va_Run p l e R s m args below meth c H locs cells slots mc ms g rest (Qc (Value.ref b :: As).toArray) free := by
  obtain ⟨⟨hrc, hrs, hfr, hlo, hws, hcw⟩, hcode, hini, hy, hlen, hl, hin, hse⟩ := cw
  have hK : Back l R p e below s args y 3 8 (PreOf R mc ms Pc) (PostOf Qc mc ms free) := va_backW (hh := hh) (bytes := bytes) (maxL := maxL) (ret := ret) hM hp.1 hrc hrs hfr hlo hws hcw (fun a' U hW => word_at hW (Or.inl (by first | rfl | simp [Cond.onTables, Cond.keeps, Cond.steady])) hini)
  obtain ⟨hx, hb, hml, ho, -⟩ := S
  obtain ⟨-, ⟨cellB, hcB, hoB, hclB⟩, hPc⟩ := hp
  intro T hT X
  obtain ⟨v, vm₁, ⟨U', l2, c2, s2⟩, hW₁, X', ⟨g', mk, t, L, e1, e2, hq, h1, hL, h2, h3⟩, st⟩ := vx_callVW X hx (C := C) (hh := hh) (bytes := bytes) (maxL := maxL) (ret := ret) ho hl hin hse hcode hy hK (by rw [hT]; exact hcB) hoB hclB hg (hsize.trans hml.symm) (argsL := As) (rest := rest) (fun sig h => hn.trans (hlen sig h)) hstack hW (by rw [hb]; exact hdg)
    (fun vm₁ hW₁ => ⟨hf.1, hf.2, hPc (T.setVm vm₁) hT hW₁⟩)
  dsimp only [Pt.U, Pt.locs, Pt.cells, Pt.slots] at X' e1 e2 h1 h2 h3 st
  subst h1; subst h2; subst h3
  exact ⟨v, (T.setVm vm₁).calling g' mk (Value.ref b :: As).toArray, t, U', L, hT, X', hL, e1, e2, hq, st⟩
section
variable {y : MethodName} {bytes cc : ByteArray} {maxL nL mc ms n index : Nat} {ret : Option FieldType} {ws : List Cond} {rm : Room} {Pc : Array Value → State → Prop} {Qc : Array Value → State → Outcome → State → Prop} {XC : String → State → State → Prop} {free : Addr → Prop} {Ts : List Cond} {own C : String} {b : Addr} {As rest : List Value} {g : JFrame}
theorem vx_runVX {hh : List (Nat × Nat × Nat × Nat)} (S : CallFix p m c cc nL s args Ts own) (hM : vx_Met l y ws rm Pc Qc XC mc ms free) (cw : vx_CVW R s args own C index y bytes maxL ret hh ws rm mc ms n) (hp : PreV s H C b Pc As)
    (hg : g.method = m) (hn : As.length = n) (hsize : g.locals.size = nL) (hstack : g.stack = As.reverse ++ .ref b :: rest) (hW : 2 * g.monitorRoom + (rest.map fun v => v.category).sum ≤ 8) (hdg : decode cc g.pc = .ok (.invokevirtual index, 3)) (hf : cells + mc ≤ R.cells ∧ slots + ms ≤ R.slots) :
    vx_Run p l e R s m args below meth c H locs cells slots mc ms g rest (Qc (Value.ref b :: As).toArray) XC free := by
  obtain ⟨⟨hrc, hrs, hfr, hlo, hws, hcw⟩, hcode, hini, hy, hlen, hl, hin, hse⟩ := cw
  have hK : vx_Back l R p e below s args y 3 8 (PreOf R mc ms Pc) (PostOf Qc mc ms free) (vx_Post XC mc ms free) := vx_backW (hh := hh) (bytes := bytes) (maxL := maxL) (ret := ret) hM hp.1 hrc hrs hfr hlo hws hcw (fun a' U hW => word_at hW (Or.inl (by first | rfl | simp [Cond.onTables, Cond.keeps, Cond.steady])) hini)
  obtain ⟨hx, hb, hml, ho, -⟩ := S
  obtain ⟨-, ⟨cellB, hcB, hoB, hclB⟩, hPc⟩ := hp
  intro T hT X
  rcases vx_callVX X hx (C := C) (hh := hh) (bytes := bytes) (maxL := maxL) (ret := ret) ho hl hin hse hcode hy hK (by rw [hT]; exact hcB) hoB hclB hg (hsize.trans hml.symm) (argsL := As) (rest := rest) (fun sig h => hn.trans (hlen sig h)) hstack hW (by rw [hb]; exact hdg)
    (fun vm₁ hW₁ => ⟨hf.1, hf.2, hPc (T.setVm vm₁) hT hW₁⟩) with ⟨v, vm₁, ⟨U', l2, c2, s2⟩, hW₁, X', ⟨g', mk, t, L, e1, e2, hq, h1, hL, h2, h3⟩, st⟩ | ⟨q, vm₁, ⟨U', l2, c2, s2⟩, hW₁, X', ⟨g', mk, t, L, E, ce, e1, e2, hq, hce, hcv, hcl, h1, hL, h2, h3⟩, st⟩
  · dsimp only [Pt.U, Pt.locs, Pt.cells, Pt.slots] at X' e1 e2 h1 h2 h3 st
    subst h1; subst h2; subst h3
    exact Or.inl ⟨v, (T.setVm vm₁).calling g' mk (Value.ref b :: As).toArray, t, U', L, hT, X', hL, e1, e2, hq, st⟩
  · dsimp only [Pt.U, Pt.locs, Pt.cells, Pt.slots] at X' e1 e2 h1 h2 h3 st hcl
    subst h1; subst h2; subst h3
    exact Or.inr ⟨q, (T.setVm vm₁).calling g' mk (Value.ref b :: As).toArray, t, U', L, E, ce, hT, X', hL, e1, e2, hq, hce, hcv, vx_cls hW₁ hcl, st⟩
theorem vx_runSX {hh : List (Nat × Nat × Nat × Nat)} (S : CallFix p m c cc nL s args Ts own) (hM : vx_Met l y ws rm Pc Qc XC mc ms free) (cw : vx_CSW R s args own index y bytes maxL ret hh ws rm mc ms n) (hp : PreS s H Pc As)
    (hg : g.method = m) (hn : As.length = n) (hsize : g.locals.size = nL) (hstack : g.stack = As.reverse ++ rest) (hW : 2 * g.monitorRoom + (rest.map fun v => v.category).sum ≤ 8) (hdg : decode cc g.pc = .ok (.invokestatic index, 3)) (hf : cells + mc ≤ R.cells ∧ slots + ms ≤ R.slots) :
    vx_Run p l e R s m args below meth c H locs cells slots mc ms g rest (Qc As.toArray) XC free := by
  obtain ⟨⟨hrc, hrs, hfr, hlo, hws, hcw⟩, hcode, hini, hy, hlen, hl, hstt⟩ := cw
  have hK : vx_Back l R p e below s args y 3 8 (PreOf R mc ms Pc) (PostOf Qc mc ms free) (vx_Post XC mc ms free) := vx_backW (hh := hh) (bytes := bytes) (maxL := maxL) (ret := ret) hM hp.1 hrc hrs hfr hlo hws hcw (fun a' U hW => word_at hW (Or.inl (by first | rfl | simp [Cond.onTables, Cond.keeps, Cond.steady])) hini)
  obtain ⟨hx, hb, hml, ho, -⟩ := S
  intro T hT X
  rcases vx_callSX X hx (hh := hh) (bytes := bytes) (maxL := maxL) (ret := ret) ho hl hstt hini hcode hy hK hg (hsize.trans hml.symm) (argsL := As) (rest := rest) (fun sig h => hn.trans (hlen sig h)) hstack hW (by rw [hb]; exact hdg)
    (fun vm₁ hW₁ => ⟨hf.1, hf.2, hp.2 (T.setVm vm₁) hT hW₁⟩) with ⟨v, vm₁, ⟨U', l2, c2, s2⟩, hW₁, X', ⟨g', mk, t, L, e1, e2, hq, h1, hL, h2, h3⟩, st⟩ | ⟨q, vm₁, ⟨U', l2, c2, s2⟩, hW₁, X', ⟨g', mk, t, L, E, ce, e1, e2, hq, hce, hcv, hcl, h1, hL, h2, h3⟩, st⟩
  · dsimp only [Pt.U, Pt.locs, Pt.cells, Pt.slots] at X' e1 e2 h1 h2 h3 st
    subst h1; subst h2; subst h3
    exact Or.inl ⟨v, (T.setVm vm₁).calling g' mk As.toArray, t, U', L, hT, X', hL, e1, e2, hq, st⟩
  · dsimp only [Pt.U, Pt.locs, Pt.cells, Pt.slots] at X' e1 e2 h1 h2 h3 st hcl
    subst h1; subst h2; subst h3
    exact Or.inr ⟨q, (T.setVm vm₁).calling g' mk As.toArray, t, U', L, E, ce, hT, X', hL, e1, e2, hq, hce, hcv, vx_cls hW₁ hcl, st⟩
end
end VXH
theorem vx_ofWH {l : Launch} {y : MethodName} {ws ws' : List Cond} {rm : Room} {Pc : Array Value → State → Prop} {Qc : Array Value → State → Outcome → State → Prop} {XC : String → State → State → Prop} {mc ms : Nat} {free : Addr → Prop} {cc : ByteArray} {maxL : Nat} {ret : Option FieldType} {hh : List (Nat × Nat × Nat × Nat)}
    (hy : plainName y.cls = true) (hw : ws = Cond.codeWith y cc maxL ret hh :: ws')
    (body : ∀ p e s m args below meth c s₁, BodyLoose p l y (headSpec ws rm) cc maxL ret e s m args below meth c s₁ → c.maxLocals = maxL → Pc args s →
      W p l e (headSpec ws rm).room s m args below meth c s.heap [] 0 0 (vx_MQ below Qc XC args s mc ms free) (entryFrame m args maxL)) : vx_Met l y ws rm Pc Qc XC mc ms free := by
  refine MetFree.of_bodyS (code := cc) (maxLocals := maxL) (ret := ret) hy ?_ ?_
  · intro args s m h hn
    obtain ⟨m9, meth, c, hn9, h1, h2, h3, h4, -, h5, h6, -⟩ := Cond.codeWith_spec (atoms_spec (ws := ws) h _ (by rw [hw]; exact List.mem_cons_self))
    cases hn.symm.trans hn9
    exact ⟨meth, c, h1, h2, h3, h4, h5, h6⟩
  · intro p e s m args below meth c s₁ B hml hP _
    have hh0 : s₁.heap = s.heap := by rw [B.state]; rfl
    obtain ⟨t, a1, o, b1, b2, b3⟩ := body p e s m args below meth c s₁ B hml hP s₁ hh0 (Stand.of_body B)
    exact ⟨t, o, a1, b1, b2, b3⟩
/-! ===== END ===== -/

/-! ===== BEGIN a constructor that throws (launches without stack traces) ===== -/
section VXIA
variable {p : Program} {l : Launch} {e : Env} {R : Room} {s : State} {m : MethodId} {args : Array Value} {below : List Frame} {meth : Method} {c : Code} {T : State} {locs : List Loc} {cells slots : Nat}
theorem vx_callI (X : Stand p l e R s m args below meth c T locs cells slots) (hexec : p.tables.exec = Jvm.exec) {own : String} {index : Nat} {y : MethodName} {bytes : ByteArray} {maxL : Nat}
    (hown : s.vm.findClass own = some m.cls) (hy1 : y.name = "<init>") (hlink : (Cond.methodLink own index y).before args s = true) (hinst : (Cond.instanceMethod y).before args s = true)
    (hcode : (Cond.code y bytes maxL none).before args s = true) (hy : y.cls ≠ "java/lang/invoke/MethodHandle" ∧ y.cls ≠ "java/lang/invoke/VarHandle")
    {W9 : Nat} {Pre : Pt → Array Value → Prop} {Post : Pt → Array Value → Option Value → Pt → Prop} {PostX : Pt → Array Value → Addr → Pt → Prop} (hK : vx_Back l R p e below s args y 3 W9 Pre Post PostX)
    {g : JFrame} (hg : g.method = m) (hsize : g.locals.size = c.maxLocals) {a : Addr} {argsL rest : List Value} (hlen : ∀ sig, parseMethodDescriptor y.desc = some sig → argsL.length = sig.parameters.length)
    (hstack : g.stack = argsL.reverse ++ .ref a :: rest) (hW : 2 * g.monitorRoom + (rest.map fun v => v.category).sum ≤ W9) (hdg : decode c.code g.pc = .ok (.invokespecial index, 3))
    (hpre : ∀ vm₁, s.WarmedH vm₁ → Pre ⟨T.setVm vm₁, locs, cells, slots⟩ (Value.ref a :: argsL).toArray) :
    (∃ (v : Option Value) (vm₁ : Vm) (B : Pt), s.WarmedH vm₁ ∧ Stand p l e R s m args below meth c B.U B.locs B.cells B.slots ∧ Post ⟨T.setVm vm₁, locs, cells, slots⟩ (Value.ref a :: argsL).toArray v B ∧
      ∀ target, Steps p.tables e below (B.U.setTop { g with pc := g.pc + 3, stack := v.toList ++ rest }) target → Steps p.tables e below (T.setTop g) target) ∨
    (∃ (q : Addr) (vm₁ : Vm) (B : Pt), s.WarmedH vm₁ ∧ Stand p l e R s m args below meth c B.U B.locs B.cells B.slots ∧ PostX ⟨T.setVm vm₁, locs, cells, slots⟩ (Value.ref a :: argsL).toArray q B ∧
      Steps p.tables e below (T.setTop g) ((B.U.setTop { g with stack := rest }).pushFrame (.throwing q))) := by
  subst hg
  have hpl : e.platform.magicAccessors = ({} : Platform).magicAccessors := by rw [X.admits.platform]
  obtain ⟨mk, methM, cM, kP, vm₁, hnamed, hmethM, hcodeM, -, hlocalsM, -, hkP, -, hW₁, hstep₁⟩ := Steps.initColdArgs (e := e) X.here hexec X.warmed hpl hown hy1 hy hlink hinst hcode (f := g) rfl hlen hstack hdg
  have X₁ := X.noted hW₁
  rcases hK g.method meth c ⟨T.setVm vm₁, locs, cells, slots⟩ { g with stack := rest } (.invokespecial index) mk (Value.ref a :: argsL).toArray X₁ rfl hsize hdg hW (X₁.named hnamed) (hpre vm₁ X₁.warmed) with ⟨v, B, X', hpost, hsteps⟩ | ⟨q, B, X', hpost, hsteps⟩
  · exact Or.inl ⟨v, vm₁, B, X₁.warmed, X', hpost, fun target h => hstep₁ _ fun acts => by rw [doInvoke_state]; exact hsteps.trans h⟩
  · exact Or.inr ⟨q, vm₁, B, X₁.warmed, X', hpost, hstep₁ _ fun acts => by rw [doInvoke_state]; exact hsteps⟩
end VXIA
section VXIB
variable {p : Program} {l : Launch} {e : Env} {R : Room} {s : State} {m : MethodId} {args : Array Value} {below : List Frame} {meth : Method} {c : Code} {H : Heap} {locs : List Loc} {cells slots : Nat}
variable {y : MethodName} {bytes cc : ByteArray} {maxL nL mc ms n index : Nat} {ret : Option FieldType} {ws : List Cond} {rm : Room} {Pc : Array Value → State → Prop} {Qc : Array Value → State → Outcome → State → Prop} {XC : String → State → State → Prop} {free : Addr → Prop} {Ts : List Cond} {own C : String} {b : Addr} {As rest : List Value} {g : JFrame}
theorem vx_runI (S : CallFix p m c cc nL s args Ts own) (hM : vx_Met l y ws rm Pc Qc XC mc ms free) (cw : CallB R s args own index y bytes maxL none ws rm mc ms n ∧ y.name = "<init>" ∧ (Cond.instanceMethod y).before args s = true) (hp : PreS s H Pc (.ref b :: As))
    (hg : g.method = m) (hn : As.length = n) (hsize : g.locals.size = nL) (hstack : g.stack = As.reverse ++ .ref b :: rest) (hW : 2 * g.monitorRoom + (rest.map fun v => v.category).sum ≤ 8) (hdg : decode cc g.pc = .ok (.invokespecial index, 3)) (hf : cells + mc ≤ R.cells ∧ slots + ms ≤ R.slots) :
    vx_Run p l e R s m args below meth c H locs cells slots mc ms g rest (Qc (Value.ref b :: As).toArray) XC free := by
  have hK : vx_Back l R p e below s args y 3 8 (PreOf R mc ms Pc) (PostOf Qc mc ms free) (vx_Post XC mc ms free) := vx_callBack cw.1 hM hp.1
  obtain ⟨⟨-, -, -, -, -, -, hcode, -, hy, hlen, hl⟩, hy1, hin⟩ := cw
  obtain ⟨hx, hb, hml, ho, -⟩ := S
  have hPc := hp.2
  intro T hT X
  rcases vx_callI X hx (bytes := bytes) (maxL := maxL) ho hy1 hl hin hcode hy hK hg (hsize.trans hml.symm) (a := b) (argsL := As) (rest := rest) (fun sig h => hn.trans (hlen sig h)) hstack hW (by rw [hb]; exact hdg)
    (fun vm₁ hW₁ => ⟨hf.1, hf.2, hPc (T.setVm vm₁) hT hW₁⟩) with ⟨v, vm₁, ⟨U', l2, c2, s2⟩, hW₁, X', ⟨g', mk, t, L, e1, e2, hq, h1, hL, h2, h3⟩, st⟩ | ⟨q, vm₁, ⟨U', l2, c2, s2⟩, hW₁, X', ⟨g', mk, t, L, E, ce, e1, e2, hq, hce, hcv, hcl, h1, hL, h2, h3⟩, st⟩
  · dsimp only [Pt.U, Pt.locs, Pt.cells, Pt.slots] at X' e1 e2 h1 h2 h3 st
    subst h1; subst h2; subst h3
    exact Or.inl ⟨v, (T.setVm vm₁).calling g' mk (Value.ref b :: As).toArray, t, U', L, hT, X', hL, e1, e2, hq, st⟩
  · dsimp only [Pt.U, Pt.locs, Pt.cells, Pt.slots] at X' e1 e2 h1 h2 h3 st hcl
    subst h1; subst h2; subst h3
    exact Or.inr ⟨q, (T.setVm vm₁).calling g' mk (Value.ref b :: As).toArray, t, U', L, E, ce, hT, X', hL, e1, e2, hq, hce, hcv, vx_cls hW₁ hcl, st⟩
end VXIB
/-! ===== END ===== -/
/-! ===== BEGIN a private constructor of a nest mate that throws ===== -/
section VXIC
variable {p : Program} {l : Launch} {e : Env} {R : Room} {s : State} {m : MethodId} {args : Array Value} {below : List Frame} {meth : Method} {c : Code} {T : State} {locs : List Loc} {cells slots : Nat}
theorem vx_callIN (X : Stand p l e R s m args below meth c T locs cells slots) (hexec : p.tables.exec = Jvm.exec) {own : String} {index : Nat} {host : String} {y : MethodName} {bytes : ByteArray} {maxL : Nat}
    (hown : s.vm.findClass own = some m.cls) (hy1 : y.name = "<init>") (hlink : (Cond.methodLinkNest own index y host).before args s = true) (hinst : (Cond.instanceMethod y).before args s = true)
    (hcode : (Cond.code y bytes maxL none).before args s = true) (hy : y.cls ≠ "java/lang/invoke/MethodHandle" ∧ y.cls ≠ "java/lang/invoke/VarHandle")
    {W9 : Nat} {Pre : Pt → Array Value → Prop} {Post : Pt → Array Value → Option Value → Pt → Prop} {PostX : Pt → Array Value → Addr → Pt → Prop} (hK : vx_Back l R p e below s args y 3 W9 Pre Post PostX)
    {g : JFrame} (hg : g.method = m) (hsize : g.locals.size = c.maxLocals) {a : Addr} {argsL rest : List Value} (hlen : ∀ sig, parseMethodDescriptor y.desc = some sig → argsL.length = sig.parameters.length)
    (hstack : g.stack = argsL.reverse ++ .ref a :: rest) (hW : 2 * g.monitorRoom + (rest.map fun v => v.category).sum ≤ W9) (hdg : decode c.code g.pc = .ok (.invokespecial index, 3))
    (hpre : ∀ vm₁, s.WarmedH vm₁ → Pre ⟨T.setVm vm₁, locs, cells, slots⟩ (Value.ref a :: argsL).toArray) :
    (∃ (v : Option Value) (vm₁ : Vm) (B : Pt), s.WarmedH vm₁ ∧ Stand p l e R s m args below meth c B.U B.locs B.cells B.slots ∧ Post ⟨T.setVm vm₁, locs, cells, slots⟩ (Value.ref a :: argsL).toArray v B ∧
      ∀ target, Steps p.tables e below (B.U.setTop { g with pc := g.pc + 3, stack := v.toList ++ rest }) target → Steps p.tables e below (T.setTop g) target) ∨
    (∃ (q : Addr) (vm₁ : Vm) (B : Pt), s.WarmedH vm₁ ∧ Stand p l e R s m args below meth c B.U B.locs B.cells B.slots ∧ PostX ⟨T.setVm vm₁, locs, cells, slots⟩ (Value.ref a :: argsL).toArray q B ∧
      Steps p.tables e below (T.setTop g) ((B.U.setTop { g with stack := rest }).pushFrame (.throwing q))) := by
  subst hg
  have hpl : e.platform.magicAccessors = ({} : Platform).magicAccessors := by rw [X.admits.platform]
  obtain ⟨mk, methM, cM, kP, vm₁, hnamed, hmethM, hcodeM, -, hlocalsM, -, hkP, -, hW₁, hstep₁⟩ := Steps.initColdArgsNest (e := e) X.here hexec X.warmed hpl hown hy1 hy hlink hinst hcode (f := g) rfl hlen hstack hdg
  have X₁ := X.noted hW₁
  rcases hK g.method meth c ⟨T.setVm vm₁, locs, cells, slots⟩ { g with stack := rest } (.invokespecial index) mk (Value.ref a :: argsL).toArray X₁ rfl hsize hdg hW (X₁.named hnamed) (hpre vm₁ X₁.warmed) with ⟨v, B, X', hpost, hsteps⟩ | ⟨q, B, X', hpost, hsteps⟩
  · exact Or.inl ⟨v, vm₁, B, X₁.warmed, X', hpost, fun target h => hstep₁ _ fun acts => by rw [doInvoke_state]; exact hsteps.trans h⟩
  · exact Or.inr ⟨q, vm₁, B, X₁.warmed, X', hpost, hstep₁ _ fun acts => by rw [doInvoke_state]; exact hsteps⟩
end VXIC
section VXID
variable {p : Program} {l : Launch} {e : Env} {R : Room} {s : State} {m : MethodId} {args : Array Value} {below : List Frame} {meth : Method} {c : Code} {H : Heap} {locs : List Loc} {cells slots : Nat}
theorem vx_runIN {y : MethodName} {bytes cc : ByteArray} {maxL nL mc ms n index : Nat} {ws : List Cond} {rm : Room} {Pc : Array Value → State → Prop} {Qc : Array Value → State → Outcome → State → Prop} {XC : String → State → State → Prop} {free : Addr → Prop} {Ts : List Cond} {own host : String} {b : Addr} {As rest : List Value} {g : JFrame}
    (S : CallFix p m c cc nL s args Ts own) (hM : vx_Met l y ws rm Pc Qc XC mc ms free) (cw : va_CN R s args own index y host bytes maxL none ws rm mc ms n ∧ y.name = "<init>" ∧ (Cond.instanceMethod y).before args s = true) (hp : PreS s H Pc (.ref b :: As))
    (hg : g.method = m) (hn : As.length = n) (hsize : g.locals.size = nL) (hstack : g.stack = As.reverse ++ .ref b :: rest) (hW : 2 * g.monitorRoom + (rest.map fun v => v.category).sum ≤ 8) (hdg : decode cc g.pc = .ok (.invokespecial index, 3)) (hf : cells + mc ≤ R.cells ∧ slots + ms ≤ R.slots) :
    vx_Run p l e R s m args below meth c H locs cells slots mc ms g rest (Qc (Value.ref b :: As).toArray) XC free := by
  obtain ⟨⟨⟨hrc, hrs, hfr, hlo, hws, hcw⟩, hcode, hini, hy, hlen, hl⟩, hx1, hx2⟩ := cw
  have hK : vx_Back l R p e below s args y 3 8 (PreOf R mc ms Pc) (PostOf Qc mc ms free) (vx_Post XC mc ms free) := vx_back (bytes := bytes) (maxL := maxL) (ret := none) hM hp.1 hrc hrs hfr hlo hws hcw (fun a' U hW => word_at hW (Or.inl (by first | rfl | simp [Cond.onTables, Cond.keeps, Cond.steady])) hini)
  obtain ⟨hx, hb, hml, ho, -⟩ := S
  have hPc := hp.2
  intro T hT X
  rcases vx_callIN X hx (bytes := bytes) (maxL := maxL) ho hx1 hl hx2 hcode hy hK hg (hsize.trans hml.symm) (a := b) (argsL := As) (rest := rest) (fun sig h => hn.trans (hlen sig h)) hstack hW (by rw [hb]; exact hdg)
    (fun vm₁ hW₁ => ⟨hf.1, hf.2, hPc (T.setVm vm₁) hT hW₁⟩) with ⟨v, vm₁, ⟨U', l2, c2, s2⟩, hW₁, X', ⟨g', mk, t, L, e1, e2, hq, h1, hL, h2, h3⟩, st⟩ | ⟨q, vm₁, ⟨U', l2, c2, s2⟩, hW₁, X', ⟨g', mk, t, L, E, ce, e1, e2, hq, hce, hcv, hcl, h1, hL, h2, h3⟩, st⟩
  · dsimp only [Pt.U, Pt.locs, Pt.cells, Pt.slots] at X' e1 e2 h1 h2 h3 st
    subst h1; subst h2; subst h3
    exact Or.inl ⟨v, (T.setVm vm₁).calling g' mk (Value.ref b :: As).toArray, t, U', L, hT, X', hL, e1, e2, hq, st⟩
  · dsimp only [Pt.U, Pt.locs, Pt.cells, Pt.slots] at X' e1 e2 h1 h2 h3 st hcl
    subst h1; subst h2; subst h3
    exact Or.inr ⟨q, (T.setVm vm₁).calling g' mk (Value.ref b :: As).toArray, t, U', L, E, ce, hT, X', hL, e1, e2, hq, hce, hcv, vx_cls hW₁ hcl, st⟩
end VXID
/-! ===== END ===== -/
/-! ===== BEGIN a private method of a nest mate that may throw (follows va_callVN, va_callSN, va_runVN, va_runSN) ===== -/
section
variable {p : Program} {l : Launch} {e : Env} {R : Room} {s : State} {m : MethodId} {args : Array Value} {below : List Frame} {meth : Method} {c : Code} {H : Heap} {locs : List Loc} {cells slots : Nat}
variable {T : State}
theorem vx_callVN (X : Stand p l e R s m args below meth c T locs cells slots) (hexec : p.tables.exec = Jvm.exec) {own C : String} {index : Nat} {host : String} {y : MethodName} {bytes : ByteArray} {maxL : Nat} {ret : Option FieldType}
    (hown : s.vm.findClass own = some m.cls) (hlink : (Cond.methodLinkNest own index y host).before args s = true) (hinst : (Cond.instanceMethod y).before args s = true) (hsel : (Cond.selects C y y).before args s = true)
    (hcode : (Cond.code y bytes maxL ret).before args s = true) (hy : y.cls ≠ "java/lang/invoke/MethodHandle" ∧ y.cls ≠ "java/lang/invoke/VarHandle")
    {W : Nat} {Pre : Pt → Array Value → Prop} {Post : Pt → Array Value → Option Value → Pt → Prop} {PostX : Pt → Array Value → Addr → Pt → Prop} (hK : vx_Back l R p e below s args y 3 W Pre Post PostX)
    {b : Addr} {cellB : Cell} (hcell : T.heap[b]? = some cellB) (hobj : cellB.vm.isStatics = false) (hcls : s.vm.findClass C = some cellB.cls)
    {g : JFrame} (hg : g.method = m) (hsize : g.locals.size = c.maxLocals) {argsL rest : List Value} (hlen : ∀ sig, parseMethodDescriptor y.desc = some sig → argsL.length = sig.parameters.length)
    (hstack : g.stack = argsL.reverse ++ .ref b :: rest) (hW : 2 * g.monitorRoom + (rest.map fun v => v.category).sum ≤ W) (hdg : decode c.code g.pc = .ok (.invokevirtual index, 3))
    (hpre : ∀ vm₁, s.WarmedH vm₁ → Pre ⟨T.setVm vm₁, locs, cells, slots⟩ (Value.ref b :: argsL).toArray) :
    (∃ (v : Option Value) (vm₁ : Vm) (B : Pt), s.WarmedH vm₁ ∧ Stand p l e R s m args below meth c B.U B.locs B.cells B.slots ∧ Post ⟨T.setVm vm₁, locs, cells, slots⟩ (Value.ref b :: argsL).toArray v B ∧
      ∀ target, Steps p.tables e below (B.U.setTop { g with pc := g.pc + 3, stack := v.toList ++ rest }) target → Steps p.tables e below (T.setTop g) target) ∨
    (∃ (q : Addr) (vm₁ : Vm) (B : Pt), s.WarmedH vm₁ ∧ Stand p l e R s m args below meth c B.U B.locs B.cells B.slots ∧ PostX ⟨T.setVm vm₁, locs, cells, slots⟩ (Value.ref b :: argsL).toArray q B ∧
      Steps p.tables e below (T.setTop g) ((B.U.setTop { g with stack := rest }).pushFrame (.throwing q))) := by
  obtain ⟨mk, methM, hnamed, hmethM, hstM, habM⟩ := Cond.instanceMethod_spec hinst
  obtain ⟨methM', cM, hmethM', -, -, -, -, -, -, hsigM⟩ := Cond.code_spec hnamed hcode
  cases hmethM.symm.trans hmethM'
  obtain ⟨c2, r2, m2, q1, q2, q3, q4, kP, hkP, hkPi⟩ := Cond.selects_spec hsel
  cases hcls.symm.trans q1
  cases (State.methodFound?_of_named hnamed hy).symm.trans q2
  cases hnamed.symm.trans q3
  have hselP : selectMethod e.platform s.vm cellB.cls mk = .method mk := by rw [Launch.admits_selectMethod X.admits]; exact q4
  obtain ⟨vm₁, X₁, hstep₁⟩ := X.invokevirtualNest hexec hown hlink hnamed hmethM hstM hkP hkPi hy (a := b) (cell := cellB) hcell
    (fun z h => by rw [h] at hobj; cases hobj) hselP hmethM habM hkP hkPi (g := g) hg (argsL := argsL) (rest := rest) (hlen _ hsigM) hstack hdg
  rcases hK m meth c ⟨T.setVm vm₁, locs, cells, slots⟩ { g with stack := rest } (.invokevirtual index) mk (Value.ref b :: argsL).toArray X₁ hg hsize hdg hW (X₁.named hnamed) (hpre vm₁ X₁.warmed) with ⟨v, B, X', hpost, hsteps⟩ | ⟨q, B, X', hpost, hsteps⟩
  · exact Or.inl ⟨v, vm₁, B, X₁.warmed, X', hpost, fun target h => hstep₁ _ fun acts => by rw [doInvoke_state]; exact hsteps.trans h⟩
  · exact Or.inr ⟨q, vm₁, B, X₁.warmed, X', hpost, hstep₁ _ fun acts => by rw [doInvoke_state]; exact hsteps⟩
theorem vx_callSN (X : Stand p l e R s m args below meth c T locs cells slots) (hexec : p.tables.exec = Jvm.exec) {own : String} {index : Nat} {host : String} {y : MethodName} {bytes : ByteArray} {maxL : Nat} {ret : Option FieldType}
    (hown : s.vm.findClass own = some m.cls) (hlink : (Cond.methodLinkNest own index y host).before args s = true) (hstat : (Cond.static y).before args s = true) (hinit : (Cond.initialized y.cls).before args s = true)
    (hcode : (Cond.code y bytes maxL ret).before args s = true) (hy : y.cls ≠ "java/lang/invoke/MethodHandle" ∧ y.cls ≠ "java/lang/invoke/VarHandle")
    {W : Nat} {Pre : Pt → Array Value → Prop} {Post : Pt → Array Value → Option Value → Pt → Prop} {PostX : Pt → Array Value → Addr → Pt → Prop} (hK : vx_Back l R p e below s args y 3 W Pre Post PostX)
    {g : JFrame} (hg : g.method = m) (hsize : g.locals.size = c.maxLocals) {argsL rest : List Value} (hlen : ∀ sig, parseMethodDescriptor y.desc = some sig → argsL.length = sig.parameters.length)
    (hstack : g.stack = argsL.reverse ++ rest) (hW : 2 * g.monitorRoom + (rest.map fun v => v.category).sum ≤ W) (hdg : decode c.code g.pc = .ok (.invokestatic index, 3))
    (hpre : ∀ vm₁, s.WarmedH vm₁ → Pre ⟨T.setVm vm₁, locs, cells, slots⟩ argsL.toArray) :
    (∃ (v : Option Value) (vm₁ : Vm) (B : Pt), s.WarmedH vm₁ ∧ Stand p l e R s m args below meth c B.U B.locs B.cells B.slots ∧ Post ⟨T.setVm vm₁, locs, cells, slots⟩ argsL.toArray v B ∧
      ∀ target, Steps p.tables e below (B.U.setTop { g with pc := g.pc + 3, stack := v.toList ++ rest }) target → Steps p.tables e below (T.setTop g) target) ∨
    (∃ (q : Addr) (vm₁ : Vm) (B : Pt), s.WarmedH vm₁ ∧ Stand p l e R s m args below meth c B.U B.locs B.cells B.slots ∧ PostX ⟨T.setVm vm₁, locs, cells, slots⟩ argsL.toArray q B ∧
      Steps p.tables e below (T.setTop g) ((B.U.setTop { g with stack := rest }).pushFrame (.throwing q))) := by
  obtain ⟨mk, hnamed⟩ := Cond.code_named hcode
  obtain ⟨methM, cM, hmethM, -, -, -, -, -, -, hsigM⟩ := Cond.code_spec hnamed hcode
  have hstatic : methM.isStatic = true := Cond.static_spec hnamed hmethM hstat
  obtain ⟨kP, hkP, -⟩ := className_of_methodNamed hnamed
  have hinitP : kP.init = .initialized := Cond.initialized_spec (findClass_of_methodNamed hnamed) hkP hinit
  obtain ⟨vm₁, X₁, hstep₁⟩ := X.invokestaticNest hexec hown hlink hnamed hmethM hstatic hkP hinitP hy (g := g) hg (argsL := argsL) (rest := rest) (hlen _ hsigM) hstack hdg
  rcases hK m meth c ⟨T.setVm vm₁, locs, cells, slots⟩ { g with stack := rest } (.invokestatic index) mk argsL.toArray X₁ hg hsize hdg hW (X₁.named hnamed) (hpre vm₁ X₁.warmed) with ⟨v, B, X', hpost, hsteps⟩ | ⟨q, B, X', hpost, hsteps⟩
  · exact Or.inl ⟨v, vm₁, B, X₁.warmed, X', hpost, fun target h => hstep₁ _ fun acts => by rw [doInvoke_state]; exact hsteps.trans h⟩
  · exact Or.inr ⟨q, vm₁, B, X₁.warmed, X', hpost, hstep₁ _ fun acts => by rw [doInvoke_state]; exact hsteps⟩
theorem vx_runVN {y : MethodName} {bytes cc : ByteArray} {maxL nL mc ms n index : Nat} {ret : Option FieldType} {ws : List Cond} {rm : Room} {Pc : Array Value → State → Prop} {Qc : Array Value → State → Outcome → State → Prop} {XC : String → State → State → Prop} {free : Addr → Prop} {Ts : List Cond} {own C host : String} {b : Addr} {As rest : List Value} {g : JFrame}
    (S : CallFix p m c cc nL s args Ts own) (hM : vx_Met l y ws rm Pc Qc XC mc ms free) (cw : va_CN R s args own index y host bytes maxL ret ws rm mc ms n ∧ (Cond.instanceMethod y).before args s = true ∧ (Cond.selects C y y).before args s = true) (hp : PreV s H C b Pc As)
    (hg : g.method = m) (hn : As.length = n) (hsize : g.locals.size = nL) (hstack : g.stack = As.reverse ++ .ref b :: rest) (hW : 2 * g.monitorRoom + (rest.map fun v => v.category).sum ≤ 8) (hdg : decode cc g.pc = .ok (.invokevirtual index, 3)) (hf : cells + mc ≤ R.cells ∧ slots + ms ≤ R.slots) :
    vx_Run p l e R s m args below meth c H locs cells slots mc ms g rest (Qc (Value.ref b :: As).toArray) XC free := by
  obtain ⟨⟨⟨hrc, hrs, hfr, hlo, hws, hcw⟩, hcode, hini, hy, hlen, hl⟩, hx1, hx2⟩ := cw
  have hK : vx_Back l R p e below s args y 3 8 (PreOf R mc ms Pc) (PostOf Qc mc ms free) (vx_Post XC mc ms free) := vx_back (bytes := bytes) (maxL := maxL) (ret := ret) hM hp.1 hrc hrs hfr hlo hws hcw (fun a' U hW => word_at hW (Or.inl (by first | rfl | simp [Cond.onTables, Cond.keeps, Cond.steady])) hini)
  obtain ⟨hx, hb, hml, ho, -⟩ := S
  obtain ⟨-, ⟨cellB, hcB, hoB, hclB⟩, hPc⟩ := hp
  intro T hT X
  rcases vx_callVN X hx (C := C) (bytes := bytes) (maxL := maxL) (ret := ret) ho hl hx1 hx2 hcode hy hK (by rw [hT]; exact hcB) hoB hclB hg (hsize.trans hml.symm) (argsL := As) (rest := rest) (fun sig h => hn.trans (hlen sig h)) hstack hW (by rw [hb]; exact hdg)
    (fun vm₁ hW₁ => ⟨hf.1, hf.2, hPc (T.setVm vm₁) hT hW₁⟩) with ⟨v, vm₁, ⟨U', l2, c2, s2⟩, hW₁, X', ⟨g', mk, t, L, e1, e2, hq, h1, hL, h2, h3⟩, st⟩ | ⟨q, vm₁, ⟨U', l2, c2, s2⟩, hW₁, X', ⟨g', mk, t, L, E, ce, e1, e2, hq, hce, hcv, hcl, h1, hL, h2, h3⟩, st⟩
  · dsimp only [Pt.U, Pt.locs, Pt.cells, Pt.slots] at X' e1 e2 h1 h2 h3 st
    subst h1; subst h2; subst h3
    exact Or.inl ⟨v, (T.setVm vm₁).calling g' mk (Value.ref b :: As).toArray, t, U', L, hT, X', hL, e1, e2, hq, st⟩
  · dsimp only [Pt.U, Pt.locs, Pt.cells, Pt.slots] at X' e1 e2 h1 h2 h3 st hcl
    subst h1; subst h2; subst h3
    exact Or.inr ⟨q, (T.setVm vm₁).calling g' mk (Value.ref b :: As).toArray, t, U', L, E, ce, hT, X', hL, e1, e2, hq, hce, hcv, vx_cls hW₁ hcl, st⟩
theorem vx_runSN {y : MethodName} {bytes cc : ByteArray} {maxL nL mc ms n index : Nat} {ret : Option FieldType} {ws : List Cond} {rm : Room} {Pc : Array Value → State → Prop} {Qc : Array Value → State → Outcome → State → Prop} {XC : String → State → State → Prop} {free : Addr → Prop} {Ts : List Cond} {own host : String} {As rest : List Value} {g : JFrame}
    (S : CallFix p m c cc nL s args Ts own) (hM : vx_Met l y ws rm Pc Qc XC mc ms free) (cw : va_CN R s args own index y host bytes maxL ret ws rm mc ms n ∧ (Cond.static y).before args s = true ∧ True) (hp : PreS s H Pc As)
    (hg : g.method = m) (hn : As.length = n) (hsize : g.locals.size = nL) (hstack : g.stack = As.reverse ++ rest) (hW : 2 * g.monitorRoom + (rest.map fun v => v.category).sum ≤ 8) (hdg : decode cc g.pc = .ok (.invokestatic index, 3)) (hf : cells + mc ≤ R.cells ∧ slots + ms ≤ R.slots) :
    vx_Run p l e R s m args below meth c H locs cells slots mc ms g rest (Qc As.toArray) XC free := by
  obtain ⟨⟨⟨hrc, hrs, hfr, hlo, hws, hcw⟩, hcode, hini, hy, hlen, hl⟩, hx1, hx2⟩ := cw
  have hK : vx_Back l R p e below s args y 3 8 (PreOf R mc ms Pc) (PostOf Qc mc ms free) (vx_Post XC mc ms free) := vx_back (bytes := bytes) (maxL := maxL) (ret := ret) hM hp.1 hrc hrs hfr hlo hws hcw (fun a' U hW => word_at hW (Or.inl (by first | rfl | simp [Cond.onTables, Cond.keeps, Cond.steady])) hini)
  obtain ⟨hx, hb, hml, ho, -⟩ := S
  have hPc := hp.2
  intro T hT X
  rcases vx_callSN X hx (bytes := bytes) (maxL := maxL) (ret := ret) ho hl hx1 hini hcode hy hK hg (hsize.trans hml.symm) (argsL := As) (rest := rest) (fun sig h => hn.trans (hlen sig h)) hstack hW (by rw [hb]; exact hdg)
    (fun vm₁ hW₁ => ⟨hf.1, hf.2, hPc (T.setVm vm₁) hT hW₁⟩) with ⟨v, vm₁, ⟨U', l2, c2, s2⟩, hW₁, X', ⟨g', mk, t, L, e1, e2, hq, h1, hL, h2, h3⟩, st⟩ | ⟨q, vm₁, ⟨U', l2, c2, s2⟩, hW₁, X', ⟨g', mk, t, L, E, ce, e1, e2, hq, hce, hcv, hcl, h1, hL, h2, h3⟩, st⟩
  · dsimp only [Pt.U, Pt.locs, Pt.cells, Pt.slots] at X' e1 e2 h1 h2 h3 st
    subst h1; subst h2; subst h3
    exact Or.inl ⟨v, (T.setVm vm₁).calling g' mk As.toArray, t, U', L, hT, X', hL, e1, e2, hq, st⟩
  · dsimp only [Pt.U, Pt.locs, Pt.cells, Pt.slots] at X' e1 e2 h1 h2 h3 st hcl
    subst h1; subst h2; subst h3
    exact Or.inr ⟨q, (T.setVm vm₁).calling g' mk As.toArray, t, U', L, E, ce, hT, X', hL, e1, e2, hq, hce, hcv, vx_cls hW₁ hcl, st⟩
end
/-! ===== END ===== -/
end
section
/-! A CONSTRUCTOR OF AN EXCEPTION WITH A POOL ENTRY OF ITS OWN (NoSuchElementException's calls its superclass by 13, not by 7): nx_ctor and nx_throwS follow ctorThrowS of the library and vx_throwS of the kit, with the first constructor's bytes and entry as arguments -/
def nx_chain (X : String) (ix : Nat) (rx : ByteArray) : List String → List Cond
  | [] => Bundle.passSAtoms X Bundle.tN ix rx
  | Y :: r => Bundle.passSAtoms X Y ix rx ++ Bundle.chainSAtoms Y r
def nx_atoms (own : String) (ic : Nat) (X : String) (ix : Nat) (rx : ByteArray) (names : List String) : List Cond :=
  Bundle.throwableAtoms ++ Bundle.throwableSAtoms ++ nx_chain X ix rx names ++
  [.methodLink own ic (Bundle.initS X), .instantiable X 6, .castable X X, .selects X Bundle.tFill0 Bundle.tFill0, .selects X Bundle.tFill Bundle.tFill,
   .lays X Bundle.tN "cause" "Ljava/lang/Throwable;", .lays X Bundle.tN "stackTrace" Bundle.steD, .lays X Bundle.tN "suppressedExceptions" Bundle.listD, .lays X Bundle.tN "detailMessage" "Ljava/lang/String;",
   .isRef (.static Bundle.tN "UNASSIGNED_STACK" Bundle.steD), .isRef (.static Bundle.tN "SUPPRESSED_SENTINEL" Bundle.listD),
   .fieldLink Bundle.tN 198 Bundle.tN "backtrace" "Ljava/lang/Object;", .lays Bundle.tN Bundle.tN "backtrace" "Ljava/lang/Object;", .lays X Bundle.tN "backtrace" "Ljava/lang/Object;"]
def nx_at (own : String) (ic : Nat) (X : String) (ix : Nat) (rx : ByteArray) (names : List String) : List Cond := (nx_atoms own ic X ix rx names).filter vx_no
theorem nx_chainS {args : Array Value} {s : State} {pl : Platform} (hpl : pl.magicAccessors = ({} : Platform).magicAccessors) {top : MethodId} (htop : s.methodNamed? (Bundle.initS Bundle.tN) = some top)
    {ix : Nat} {rx : ByteArray} (x0 : decode rx 0 = .ok (.aload_n 0, 1)) (x1 : decode rx 1 = .ok (.aload_n 1, 1)) (x2 : decode rx 2 = .ok (.invokespecial ix, 3)) (x5 : decode rx 5 = .ok (.return_, 1)) (names : List String) (X : String) (hX : Bundle.fit X = true) (hn : ∀ n ∈ names, Bundle.fit n = true) (h : ∀ c ∈ nx_chain X ix rx names, c.before args s = true) :
    ∃ (P1 : PassC) (Ps : List PassC), Ps.length = names.length ∧ P1.LinksS pl s ∧ (∀ P, P ∈ Ps → P.LinksS pl s) ∧ s.methodNamed? (Bundle.initS X) = some P1.m ∧ P1.sup = firstOf top (Ps.map (·.toPassT)) ∧ PassesOn top (Ps.map (·.toPassT)) := by
  cases names with
  | nil =>
    obtain ⟨P, L, hm, hs⟩ := PassC.ofS_atoms (args := args) (s := s) hpl (X := X) (Y := Bundle.tN) (Bundle.fit_spec hX).1 (by decide) x0 x1 x2 x5 h
    exact ⟨P, [], rfl, L, (fun _ hP => by cases hP), hm, Option.some.inj (hs.symm.trans htop), trivial⟩
  | cons Y r =>
    obtain ⟨P, L, hm, hs⟩ := PassC.ofS_atoms (args := args) (s := s) hpl (X := X) (Y := Y) (Bundle.fit_spec hX).1 (Bundle.fit_spec (hn Y List.mem_cons_self)).2 x0 x1 x2 x5
      (fun c hc => h c (by simp only [nx_chain, List.mem_append]; exact Or.inl hc))
    obtain ⟨P', Ps, hlen, L', hL, hm', hsup, hpass⟩ := Bundle.chainS (args := args) hpl htop r Y (hn Y List.mem_cons_self) (fun n hn' => hn n (List.mem_cons_of_mem _ hn')) (fun c hc => h c (by simp only [nx_chain, List.mem_append]; exact Or.inr hc))
    refine ⟨P, P' :: Ps, by simp [hlen], L, ?_, hm, Option.some.inj (hs.symm.trans hm'), hsup, hpass⟩
    intro Q hQ
    rcases List.mem_cons.mp hQ with rfl | hQ
    · exact L'
    · exact hL Q hQ
section NXC
variable {p : Program} {l : Launch} {e : Env} {R : Room} {s : State} {m₀ : MethodId} {args : Array Value} {below : List Frame} {meth : Method} {c : Code} {W : State} {locs : List Loc} {cells slots : Nat}
set_option maxHeartbeats 1000000 in
theorem nx_ctor (X : Stand p l e R s m₀ args below meth c W locs cells slots) (hexec : p.tables.exec = Jvm.exec) (htr : e.platform.stackTraces = false) {own cls : String} {names : List String} {ic : Nat} {ix : Nat} {rx : ByteArray} (x0 : decode rx 0 = .ok (.aload_n 0, 1)) (x1 : decode rx 1 = .ok (.aload_n 1, 1)) (x2 : decode rx 2 = .ok (.invokespecial ix, 3)) (x5 : decode rx 5 = .ok (.return_, 1))
    (hown : s.vm.findClass own = some m₀.cls) (hcls : Bundle.fit cls = true) (hnames : ∀ n ∈ names, Bundle.fit n = true)
    (h : ∀ a ∈ nx_atoms own ic cls ix rx names, a.before args s = true)
    (hlocs : ∀ x ∈ locs, ∀ cell, s.heap[x.base]? = some cell → cell.vm.isStatics = false)
    {a : Addr} {cX : ClassId} {kX : Class} (hfoundX : s.vm.findClass cls = some cX) (hkX : s.vm.classes[cX]? = some kX) (hcell : W.heap[a]? = some (freshCell cX kX)) (hnew : s.heap.size ≤ a)
    {msg : Value} (hmsg : msg.isRef = true)
    {g : JFrame} (hg : g.method = m₀) (hsize : g.locals.size = c.maxLocals) (hlocked : g.locked = none) (hentered : g.entered = []) {rest : List Value} (hstack : g.stack = msg :: .ref a :: .ref a :: rest)
    (hd6 : decode c.code g.pc = .ok (.invokespecial ic, 3)) (hd9 : decode c.code (g.pc + 3) = .ok (.athrow, 1)) (hout : ∀ x ∈ c.exceptionTable.toList, covers x (g.pc + 3) = false)
    (hRframes : names.length + 3 < R.frames) (hRlocals : 2 * g.monitorRoom + ((Value.ref a :: rest).map fun v => v.category).sum + (13 * (names.length + 1) + 42) ≤ R.locals) (hlocks : meth.locks = false := by first | assumption | exact BodyLoose.notSynchronized (by assumption) | exact Body.notSynchronized (by assumption)) :
    ∃ U : State, Steps p.tables e below (W.setTop g) U ∧ U.status = .running ∧ Ended U below (.threw a) ∧ s.WarmedH U.vm ∧ s.sameButNew ({ U with vm := s.vm } : State) locs cells slots ∧
      ∃ ce, U.heap[a]? = some ce ∧ s.vm.findClass cls = some ce.cls ∧ ce.vm = .none := by
  have howns : e.platform.frameOwnsMonitors = true := by rw [X.admits.platform]
  have hfin : e.platform.finalization = false := by rw [X.admits.platform]
  have hpl : e.platform.magicAccessors = ({} : Platform).magicAccessors := by rw [X.admits.platform]
  have a' : ∀ x, x ∈ nx_atoms own ic cls ix rx names → x.holds args s none s [] = true := fun x hx => h x hx
  obtain ⟨T, Z0, L, -, Y⟩ := ThrowableC.of_atoms (args := args) howns hfin hpl (fun x hx => h x (by simp [nx_atoms, hx]))
  obtain ⟨Z, M, LZ, LM, hnZ⟩ := Init0T.ofS_atoms (args := args) hpl L Y (fun x hx => h x (by simp [nx_atoms, hx]))
  obtain ⟨P1, Ps, hlen, L1, hL, hP1m, hlink1, hlink⟩ := nx_chainS (args := args) hpl hnZ x0 x1 x2 x5 names cls hcls hnames (fun x hx => h x (by simp [nx_atoms, hx]))
  have hfound : s.vm.findClass cls = some P1.m.cls := findClass_of_methodNamed hP1m
  cases Option.some.inj (hfoundX.symm.trans hfound)
  obtain ⟨c1, kX', hc1, hk, hord, -, -, hn6⟩ := Cond.instantiable_spec (a' (.instantiable cls 6) (by simp [nx_atoms]))
  cases Option.some.inj (hc1.symm.trans hfound)
  cases Option.some.inj (hkX.symm.trans hk)
  have hsel0 : selectMethod e.platform s.vm P1.m.cls T.fill0 = .method T.fill0 := by
    obtain ⟨c2, r2, m2, q1, q2, q3, q4, -⟩ := Cond.selects_spec (a' (.selects cls Bundle.tFill0 Bundle.tFill0) (by simp [nx_atoms]))
    cases Option.some.inj (q1.symm.trans hfound)
    cases Option.some.inj (q2.symm.trans (State.methodFound?_of_named Y.fill0 (by decide)))
    cases Option.some.inj (q3.symm.trans Y.fill0)
    rw [Launch.admits_selectMethod X.admits]; exact q4
  have hselF : selectMethod e.platform s.vm P1.m.cls T.fill = .method T.fill := by
    obtain ⟨c2, r2, m2, q1, q2, q3, q4, -⟩ := Cond.selects_spec (a' (.selects cls Bundle.tFill Bundle.tFill) (by simp [nx_atoms]))
    cases Option.some.inj (q1.symm.trans hfound)
    cases Option.some.inj (q2.symm.trans (State.methodFound?_of_named Y.fill (by decide)))
    cases Option.some.inj (q3.symm.trans Y.fill)
    rw [Launch.admits_selectMethod X.admits]; exact q4
  obtain ⟨cellS0, hcS0, hiss⟩ := Y.statics
  obtain ⟨u0, hu0⟩ := Cond.staticRefV Y.unassigned L.unassignedStatic L.statics hcS0 hiss (a' (.isRef (.static Bundle.tN "UNASSIGNED_STACK" Bundle.steD)) (by simp [nx_atoms]))
  obtain ⟨sen, hsen⟩ := Cond.staticRefV Y.sentinel L.sentinelStatic L.statics hcS0 hiss (a' (.isRef (.static Bundle.tN "SUPPRESSED_SENTINEL" Bundle.listD)) (by simp [nx_atoms]))
  obtain ⟨ci198, i198, fB, hk198, hg198, ha198, hsB, -, hnB, htB, hffB⟩ := Cond.ownField (t := .object "java/lang/Object") Y.found L.cls (by decide +kernel) (a' (.fieldLink Bundle.tN 198 Bundle.tN "backtrace" "Ljava/lang/Object;") (by simp [nx_atoms])) (a' (.lays Bundle.tN Bundle.tN "backtrace" "Ljava/lang/Object;") (by simp [nx_atoms])) e.platform hpl
  obtain ⟨cellS, hcS', heS, -, hkeep⟩ := X.same.2.2.2.2.2 T.aS cellS0 hcS0
  have hcellS : W.heap[T.aS]? = some cellS := hcS'
  have hout' : ∀ i, (⟨T.aS, i⟩ : Loc) ∉ locs := fun i hmem => by
    have := hlocs _ hmem cellS0 hcS0
    rw [hiss] at this; cases this
  have hknownS : cellS.vm ≠ .unknown := by
    rw [heS]; intro hu
    rw [show cellS0.vm = .unknown from hu] at hiss
    cases hiss
  have hneS : T.aS ≠ a := Nat.ne_of_lt (Nat.lt_of_lt_of_le (Array.getElem?_eq_some_iff.mp hcS0).1 hnew)
  obtain ⟨iM, hffM⟩ := Y.msg
  obtain ⟨tyC, dC, hdC, hdnC⟩ := Cond.laysAt hfound hk Y.cause (a' (.lays cls Bundle.tN "cause" "Ljava/lang/Throwable;") (by simp [nx_atoms]))
  obtain ⟨tyS, dS, hdS, hdnS⟩ := Cond.laysAt hfound hk Y.stack (a' (.lays cls Bundle.tN "stackTrace" Bundle.steD) (by simp [nx_atoms]))
  obtain ⟨tyP, dP, hdP, hdnP⟩ := Cond.laysAt hfound hk Y.supp (a' (.lays cls Bundle.tN "suppressedExceptions" Bundle.listD) (by simp [nx_atoms]))
  obtain ⟨tyM, dM, hdM, hdnM⟩ := Cond.laysAt hfound hk hffM (a' (.lays cls Bundle.tN "detailMessage" "Ljava/lang/String;") (by simp [nx_atoms]))
  obtain ⟨tyB, dB, hdB, hdnB⟩ := Cond.laysAt hfound hk hffB (a' (.lays cls Bundle.tN "backtrace" "Ljava/lang/Object;") (by simp [nx_atoms]))
  have bC := Cond.laysApart hdB hdC hdnB hdnC (by rw [hnB, Y.causeName]; decide)
  have bS := Cond.laysApart hdB hdS hdnB hdnS (by rw [hnB, Y.stackName]; decide)
  have bP := Cond.laysApart hdB hdP hdnB hdnP (by rw [hnB, Y.suppName]; decide)
  have hskip : SkipFacts T e.platform s (fun u => u) u0 ((preparedCellV T.toThrowableT (freshCell P1.m.cls kX) a u0 sen).withEntry W.cur) :=
    ⟨{ ci198 := ci198, i198 := i198, fBack := fB }, ⟨hk198, hg198, ha198, hsB⟩, by
      have := fresh_default (c := P1.m.cls) tyB
      rw [htB] at this
      simpa [preparedCellV, Cell.setSlot, Cell.withEntry, Array.getElem?_setIfInBounds, bC, bS, bP, bC.symm, bS.symm, bP.symm, defaultValue] using this, fun _ _ => rfl⟩
  obtain ⟨tm, methC, cdC, kC, vm₁, hnC, -, -, -, -, -, -, -, hW₁, st1⟩ := Steps.initColdS (tb := p.tables) (e := e) (below := below) (s := s) (U := W) X.here hexec X.warmed hpl hown (t := Bundle.initS cls) rfl rfl (Bundle.fit_spec hcls).2
    (a' (.methodLink own ic (Bundle.initS cls)) (by simp [nx_atoms])) (h (.instanceMethod (Bundle.initS cls)) (by cases names <;> simp [nx_atoms, nx_chain, Bundle.passSAtoms])) (bytes := rx) (maxL := 2) (h (.code (Bundle.initS cls) rx 2 none) (by cases names <;> simp [nx_atoms, nx_chain, Bundle.passSAtoms]))
    (f := g) hg (a := a) (msg := msg) (rest := .ref a :: rest) hstack hd6
  cases Option.some.inj (hnC.symm.trans hP1m)
  have X₁ := X.noted hW₁
  obtain ⟨vm₂, X₂, st2⟩ := X₁.ctorMessageOffV hexec (g := { g with stack := .ref a :: rest }) hg hsize T L Z LZ M LM (P1 :: Ps)
    (fun P hP => by rcases List.mem_cons.mp hP with rfl | hP; exact L1; exact hL P hP) ⟨hlink1, hlink⟩ (u0 := u0) (sen := sen) (self := a) hmsg (cell := freshCell P1.m.cls kX) (cellS := cellS)
    hcell (fun _ => by simp) (by simp) rfl rfl hsel0 hselF hcellS hneS hknownS (by rw [hkeep _ (hout' _)]; exact hu0) (by rw [hkeep _ (hout' _)]; exact hsen)
    (Takes.of_laid hk hord tyC (by rw [Y.causeType]; rfl)) (Takes.of_laid hk hord tyS (by rw [Y.stackType]; exact fits_refV_array _ u0)) (Takes.of_laid hk hord tyP (by rw [Y.suppType]; exact fits_refV_object _ sen))
    (Takes.of_laid hk hord tyM (by rw [Y.msgType]; exact fits_refV_object _ ⟨msg, hmsg⟩)) Y.objLocals hskip htr [] hd6
    (by simp only [List.length_cons, hlen]; omega) (by simp only [List.length_cons, hlen]; exact hRlocals)
  obtain ⟨hwalk, hrun, hended, hWU, hsame⟩ := X₂.athrowLeaves hexec (g := { g with stack := .ref a :: rest, pc := g.pc + 3 }) hg hlocked hentered hout (a := a) (rest := rest) rfl hd9
  obtain ⟨c3, c4, hc3, hc4, hasg⟩ := Cond.castable_spec (a' (.castable cls cls) (by simp [nx_atoms]))
  cases Option.some.inj (hc3.symm.trans hfound)
  cases Option.some.inj (hc4.symm.trans hfound)
  have hlt : a < ((W.setVm vm₁).setVm vm₂).heap.size := (Array.getElem?_eq_some_iff.mp hcell).1
  have hU := heapAt_setCell_self (s := (W.setVm vm₁).setVm vm₂) (plainBareV T.toThrowableT (freshCell P1.m.cls kX) a u0 sen msg) hlt
  have hnM : T.fMsg.name = "detailMessage" := (State.fieldFound?_type hffM (t := .object "java/lang/String") (by decide +kernel)).1
  have nCS := Cond.laysApart hdC hdS hdnC hdnS (by rw [Y.causeName, Y.stackName]; decide)
  have nCP := Cond.laysApart hdC hdP hdnC hdnP (by rw [Y.causeName, Y.suppName]; decide)
  have nCM := Cond.laysApart hdC hdM hdnC hdnM (by rw [Y.causeName, hnM]; decide)
  have nSP := Cond.laysApart hdS hdP hdnS hdnP (by rw [Y.stackName, Y.suppName]; decide)
  have nSM := Cond.laysApart hdS hdM hdnS hdnM (by rw [Y.stackName, hnM]; decide)
  have nPM := Cond.laysApart hdP hdM hdnP hdnM (by rw [Y.suppName, hnM]; decide)
  have lC : T.fCause.slot < kX.instanceTypes.size := (Array.getElem?_eq_some_iff.mp tyC).1
  have lS : T.fStack.slot < kX.instanceTypes.size := (Array.getElem?_eq_some_iff.mp tyS).1
  have lP : T.fSupp.slot < kX.instanceTypes.size := (Array.getElem?_eq_some_iff.mp tyP).1
  have lM : T.fMsg.slot < kX.instanceTypes.size := (Array.getElem?_eq_some_iff.mp tyM).1
  have evU : ∀ o, (Term.static Bundle.tN "UNASSIGNED_STACK" Bundle.steD).eval args s o [] s = some u0.v := by
    intro o
    simp [Term.eval, State.fieldNamed?, Y.unassigned, L.unassignedStatic, L.statics, hcS0, hiss, hu0]
  have evS : ∀ o, (Term.static Bundle.tN "SUPPRESSED_SENTINEL" Bundle.listD).eval args s o [] s = some sen.v := by
    intro o
    simp [Term.eval, State.fieldNamed?, Y.sentinel, L.sentinelStatic, L.statics, hcS0, hiss, hsen]
  refine ⟨_, st1 _ (fun acts => ?_), hrun, hended, hWU, hsame.weaken (fun y hy hlt' => ?_) (Nat.le_refl _) (Nat.le_refl _), _, hU, ?_⟩
  · rw [doInvoke_state]
    exact st2 _ hwalk
  · rcases List.mem_append.mp hy with h1 | h1
    · exact h1
    · exfalso
      have hb : y.base = a := by
        simp only [List.mem_cons, List.not_mem_nil, or_false] at h1
        rcases h1 with rfl | rfl | rfl | rfl | rfl <;> rfl
      rw [hb] at hlt'
      exact Nat.not_lt.mpr hnew hlt'
  · exact ⟨hfound, rfl⟩
end NXC
section NXE
variable {p : Program} {l : Launch} {e : Env} {R : Room} {s : State} {m : MethodId} {args : Array Value} {below : List Frame} {meth : Method} {c : Code} {H : Heap} {locs : List Loc} {cells slots : Nat} {Q : State → Prop}
variable {mc ms : Nat} {free : Addr → Prop} {A0 A1 : Nat → Prop} {H0 : Heap} {a : Array Value} {ls : Array Slot} {st0 rest : List Value}
variable {Qc : Array Value → State → Outcome → State → Prop} {XC : String → State → State → Prop}
/-- 'throw new E("text")': new; dup; ldc; invokespecial; athrow -/
theorem nx_throwS {cc : ByteArray} {pc : Nat} (hexec : p.tables.exec = Jvm.exec) (hb : c.code = cc) (hl : l.stackTraces = false) {own cls text : String} {names : List String} {ik is ic mc ms sa : Nat} {ix : Nat} {rx : ByteArray} (x0 : decode rx 0 = .ok (.aload_n 0, 1)) (x1 : decode rx 1 = .ok (.aload_n 1, 1)) (x2 : decode rx 2 = .ok (.invokespecial ix, 3)) (x5 : decode rx 5 = .ok (.return_, 1)) {A : Nat → Prop}
    (hown : s.vm.findClass own = some m.cls) (hcls : Bundle.fit cls = true) (hnames : ∀ n ∈ names, Bundle.fit n = true)
    (hk : (Cond.classLink own ik cls).before args s = true) (hini : (Cond.initialized cls).before args s = true) (hstr : vk_R own is text sa s) (hat : ∀ w ∈ nx_at own ic cls ix rx names, w.before args s = true)
    (hgood : ∀ w ∈ Cond.classLink own ik cls :: Cond.initialized cls :: nx_at own ic cls ix rx names, vx_ot w = true)
    (hU : vx_Zq Bundle.tN "UNASSIGNED_STACK" Bundle.steD A s s.heap) (hN : vx_Zq Bundle.tN "SUPPRESSED_SENTINEL" Bundle.listD A s s.heap) (hS : va_S A s.heap H locs) (hsize : ls.size = c.maxLocals)
    (d0 : decode cc pc = .ok (.new ik, 3)) (d3 : decode cc (pc + 3) = .ok (.dup, 1)) (d4 : decode cc (pc + 4) = .ok (.ldc is, 2)) (d6 : decode cc (pc + 6) = .ok (.invokespecial ic, 3)) (d9 : decode cc (pc + 9) = .ok (.athrow, 1))
    (hout : ∀ x ∈ c.exceptionTable.toList, covers x (pc + 9) = false)
    (hRframes : names.length + 3 < R.frames) (hRlocals : (rest.map fun v => v.category).sum + (13 * (names.length + 1) + 43) ≤ R.locals) (hRcells : cells + 1 ≤ R.cells) (hRslots : slots + 6 ≤ R.slots) (hlocks : meth.locks = false)
    (hx : ∀ t : State, s.vm.Alike t.vm → H.size ≤ t.heap.size → (∀ q : Nat, q < H.size → t.heap[q]? = H[q]?) → XC cls s t)
    (hf : ∀ z ∈ locs, free z.base) (hc : cells + 1 ≤ mc) (hs : slots + 6 ≤ ms) :
    W p l e R s m args below meth c H locs cells slots (vx_MQ below Qc XC args s mc ms free) (F0 m pc ls rest) := by
  intro T hT X
  have htr : e.platform.stackTraces = false := (show e.platform.stackTraces = l.stackTraces by rw [X.admits.platform]).trans hl
  have Y := vx_rebase X (R' := { frames := R.frames, locals := R.locals, cells := 1, slots := 6 }) (Nat.le_refl _) (Nat.le_refl _) hRcells hRslots
  obtain ⟨s', hA⟩ : ∃ z, z = (T.setVm s.vm).setFrames (.invoking m args :: below) := ⟨_, rfl⟩
  rw [← hA] at Y
  have hvm : s'.vm = s.vm := by rw [hA]; rfl
  have hhp : s'.heap = H := by rw [hA]; exact hT
  have hW0 : s.WarmedH s'.vm := by rw [hvm]; exact State.WarmedH.refl s
  have hat' : ∀ w ∈ nx_at own ic cls ix rx names, w.before args s' = true := fun w hw => vx_ot_at hW0 hvm.symm (hgood w (List.mem_cons_of_mem _ (List.mem_cons_of_mem _ hw))) (hat w hw)
  have hk' : (Cond.classLink own ik cls).before args s' = true := vx_ot_at hW0 hvm.symm (hgood _ List.mem_cons_self) hk
  have hini' : (Cond.initialized cls).before args s' = true := vx_ot_at hW0 hvm.symm (hgood _ (List.mem_cons_of_mem _ List.mem_cons_self)) hini
  have hU' : vx_Zq Bundle.tN "UNASSIGNED_STACK" Bundle.steD A s' s'.heap := by rw [hhp]; exact vx_Zq.moved hW0.alike (hU.kept hS.2.1)
  have hN' : vx_Zq Bundle.tN "SUPPRESSED_SENTINEL" Bundle.listD A s' s'.heap := by rw [hhp]; exact vx_Zq.moved hW0.alike (hN.kept hS.2.1)
  have h : ∀ w ∈ nx_atoms own ic cls ix rx names, w.before args s' = true := vx_own hat' (vx_isRefq hU'.1) (vx_isRefq hN'.1) hU'.2.word hN'.2.word
  have hown' : s'.vm.findClass own = some m.cls := by rw [hvm]; exact hown
  have hins : (Cond.instantiable cls 6).before args s' = true := h _ (by simp [nx_atoms])
  obtain ⟨vm₁, cX, kX, hfX, hkX, -, -, X₁, st1⟩ := Y.newCold hexec (own := own) (C := cls) (index := ik) (n := 6) hown' hk' hins hini'
    (g := F0 m pc ls rest) rfl (by rw [hb]; exact d0) (Nat.le_refl _) (Nat.le_refl _)
  generalize hT1 : (T.setVm vm₁).pushCell { cls := cX, slots := kX.instanceTypes.map defaultValue, vm := .none } = T1 at X₁ st1
  have hcat : (Value.ref T.heap.size).category = 1 := rfl
  have hcellA : T1.heap[T.heap.size]? = some (freshCell cX kX) := by rw [← hT1]; exact State.heap_pushCell_size _ _
  have d3' : decode c.code (pc + 3) = .ok (.dup, 1) := by rw [hb]; exact d3
  have d4' : decode c.code (pc + 4) = .ok (.ldc is, 2) := by rw [hb]; exact d4
  have hstr' : vk_R own is text sa s' := vk_R.warm hW0 hstr
  obtain ⟨U, hsteps, hrun, hend, hW, hsame, ce, hce, hO⟩ := nx_ctor X₁ hexec htr (own := own) (cls := cls) (names := names) (ic := ic) x0 x1 x2 x5 hown' hcls hnames h (fun x hx => nomatch hx) hfX hkX hcellA (by rw [hhp, hT]; exact Nat.le_refl _) (msg := .ref sa) rfl
    (g := { method := m, pc := pc + 6, locals := ls, stack := .ref sa :: .ref T.heap.size :: .ref T.heap.size :: rest, locked := none }) rfl hsize rfl rfl (rest := rest) rfl
    (by rw [hb]; exact d6) (by rw [hb]; exact d9) hout hRframes (by simp only [List.map_cons, List.sum_cons, hcat]; omega) hlocks
  obtain ⟨f1, f2⟩ := vx_frame hsame
  rw [hhp] at f1 f2
  have hWs : s.WarmedH U.vm := State.WarmedH.trans hW0 hW
  have hcl : s.vm.findClass cls = some ce.cls := by
    have h9 := hO.1
    rw [hvm] at h9
    exact h9
  have hall : s.sameButNew ({ U with vm := s.vm } : State) locs mc ms := by
    subst hA
    obtain ⟨e1, e2⟩ := hsame
    rw [State.setFrames_setFrames] at e1
    have h2 : (T.setVm s.vm).sameButNew ({ U with vm := s.vm } : State) [] (0 + 1) (0 + 6) := ⟨e1, e2⟩
    have h3 := X.same.trans h2
    rw [List.append_nil] at h3
    exact h3.mono hc hs
  refine ⟨U, ?_, .threw T.heap.size, hrun, hend, Or.inr ⟨T.heap.size, rfl, cls, ce, locs, hx U hWs.alike f1 (fun q hq => f2 q hq (fun z hz => nomatch hz)), hce, hO.2, hcl, hWs, hall, hf⟩⟩
  refine st1 _ ?_
  show Steps p.tables e below (T1.setTop { method := m, pc := pc + 3, locals := ls, stack := .ref T.heap.size :: rest, locked := none }) _
  jvm_step X₁.here [X₁.here.top, hexec, d3', Value.category]
  exact X₁.ldcString hexec (own := own) (text := text) (index := is) (a := sa) hown' hstr'.1 hstr'.2
    (g := { method := m, pc := pc + 4, locals := ls, stack := .ref T.heap.size :: .ref T.heap.size :: rest, locked := none }) rfl d4' _ hsteps
/-- 'throw new E("text")', the text by a wide index -/
theorem nx_throwSW {cc : ByteArray} {pc : Nat} (hexec : p.tables.exec = Jvm.exec) (hb : c.code = cc) (hl : l.stackTraces = false) {own cls text : String} {names : List String} {ik is ic mc ms sa : Nat} {ix : Nat} {rx : ByteArray} (x0 : decode rx 0 = .ok (.aload_n 0, 1)) (x1 : decode rx 1 = .ok (.aload_n 1, 1)) (x2 : decode rx 2 = .ok (.invokespecial ix, 3)) (x5 : decode rx 5 = .ok (.return_, 1)) {A : Nat → Prop}
    (hown : s.vm.findClass own = some m.cls) (hcls : Bundle.fit cls = true) (hnames : ∀ n ∈ names, Bundle.fit n = true)
    (hk : (Cond.classLink own ik cls).before args s = true) (hini : (Cond.initialized cls).before args s = true) (hstr : vk_R own is text sa s) (hat : ∀ w ∈ nx_at own ic cls ix rx names, w.before args s = true)
    (hgood : ∀ w ∈ Cond.classLink own ik cls :: Cond.initialized cls :: nx_at own ic cls ix rx names, vx_ot w = true)
    (hU : vx_Zq Bundle.tN "UNASSIGNED_STACK" Bundle.steD A s s.heap) (hN : vx_Zq Bundle.tN "SUPPRESSED_SENTINEL" Bundle.listD A s s.heap) (hS : va_S A s.heap H locs) (hsize : ls.size = c.maxLocals)
    (d0 : decode cc pc = .ok (.new ik, 3)) (d3 : decode cc (pc + 3) = .ok (.dup, 1)) (d4 : decode cc (pc + 4) = .ok (.ldc_w is, 3)) (d7 : decode cc (pc + 7) = .ok (.invokespecial ic, 3)) (d10 : decode cc (pc + 10) = .ok (.athrow, 1))
    (hout : ∀ x ∈ c.exceptionTable.toList, covers x (pc + 10) = false)
    (hRframes : names.length + 3 < R.frames) (hRlocals : (rest.map fun v => v.category).sum + (13 * (names.length + 1) + 43) ≤ R.locals) (hRcells : cells + 1 ≤ R.cells) (hRslots : slots + 6 ≤ R.slots) (hlocks : meth.locks = false)
    (hx : ∀ t : State, s.vm.Alike t.vm → H.size ≤ t.heap.size → (∀ q : Nat, q < H.size → t.heap[q]? = H[q]?) → XC cls s t)
    (hf : ∀ z ∈ locs, free z.base) (hc : cells + 1 ≤ mc) (hs : slots + 6 ≤ ms) :
    W p l e R s m args below meth c H locs cells slots (vx_MQ below Qc XC args s mc ms free) (F0 m pc ls rest) := by
  intro T hT X
  have htr : e.platform.stackTraces = false := (show e.platform.stackTraces = l.stackTraces by rw [X.admits.platform]).trans hl
  have Y := vx_rebase X (R' := { frames := R.frames, locals := R.locals, cells := 1, slots := 6 }) (Nat.le_refl _) (Nat.le_refl _) hRcells hRslots
  obtain ⟨s', hA⟩ : ∃ z, z = (T.setVm s.vm).setFrames (.invoking m args :: below) := ⟨_, rfl⟩
  rw [← hA] at Y
  have hvm : s'.vm = s.vm := by rw [hA]; rfl
  have hhp : s'.heap = H := by rw [hA]; exact hT
  have hW0 : s.WarmedH s'.vm := by rw [hvm]; exact State.WarmedH.refl s
  have hat' : ∀ w ∈ nx_at own ic cls ix rx names, w.before args s' = true := fun w hw => vx_ot_at hW0 hvm.symm (hgood w (List.mem_cons_of_mem _ (List.mem_cons_of_mem _ hw))) (hat w hw)
  have hk' : (Cond.classLink own ik cls).before args s' = true := vx_ot_at hW0 hvm.symm (hgood _ List.mem_cons_self) hk
  have hini' : (Cond.initialized cls).before args s' = true := vx_ot_at hW0 hvm.symm (hgood _ (List.mem_cons_of_mem _ List.mem_cons_self)) hini
  have hU' : vx_Zq Bundle.tN "UNASSIGNED_STACK" Bundle.steD A s' s'.heap := by rw [hhp]; exact vx_Zq.moved hW0.alike (hU.kept hS.2.1)
  have hN' : vx_Zq Bundle.tN "SUPPRESSED_SENTINEL" Bundle.listD A s' s'.heap := by rw [hhp]; exact vx_Zq.moved hW0.alike (hN.kept hS.2.1)
  have h : ∀ w ∈ nx_atoms own ic cls ix rx names, w.before args s' = true := vx_own hat' (vx_isRefq hU'.1) (vx_isRefq hN'.1) hU'.2.word hN'.2.word
  have hown' : s'.vm.findClass own = some m.cls := by rw [hvm]; exact hown
  have hins : (Cond.instantiable cls 6).before args s' = true := h _ (by simp [nx_atoms])
  obtain ⟨vm₁, cX, kX, hfX, hkX, -, -, X₁, st1⟩ := Y.newCold hexec (own := own) (C := cls) (index := ik) (n := 6) hown' hk' hins hini'
    (g := F0 m pc ls rest) rfl (by rw [hb]; exact d0) (Nat.le_refl _) (Nat.le_refl _)
  generalize hT1 : (T.setVm vm₁).pushCell { cls := cX, slots := kX.instanceTypes.map defaultValue, vm := .none } = T1 at X₁ st1
  have hcat : (Value.ref T.heap.size).category = 1 := rfl
  have hcellA : T1.heap[T.heap.size]? = some (freshCell cX kX) := by rw [← hT1]; exact State.heap_pushCell_size _ _
  have d3' : decode c.code (pc + 3) = .ok (.dup, 1) := by rw [hb]; exact d3
  have d4' : decode c.code (pc + 4) = .ok (.ldc_w is, 3) := by rw [hb]; exact d4
  have hstr' : vk_R own is text sa s' := vk_R.warm hW0 hstr
  obtain ⟨U, hsteps, hrun, hend, hW, hsame, ce, hce, hO⟩ := nx_ctor X₁ hexec htr (own := own) (cls := cls) (names := names) (ic := ic) x0 x1 x2 x5 hown' hcls hnames h (fun x hx => nomatch hx) hfX hkX hcellA (by rw [hhp, hT]; exact Nat.le_refl _) (msg := .ref sa) rfl
    (g := { method := m, pc := pc + 7, locals := ls, stack := .ref sa :: .ref T.heap.size :: .ref T.heap.size :: rest, locked := none }) rfl hsize rfl rfl (rest := rest) rfl
    (by rw [hb]; exact d7) (by rw [hb]; exact d10) hout hRframes (by simp only [List.map_cons, List.sum_cons, hcat]; omega) hlocks
  obtain ⟨f1, f2⟩ := vx_frame hsame
  rw [hhp] at f1 f2
  have hWs : s.WarmedH U.vm := State.WarmedH.trans hW0 hW
  have hcl : s.vm.findClass cls = some ce.cls := by
    have h9 := hO.1
    rw [hvm] at h9
    exact h9
  have hall : s.sameButNew ({ U with vm := s.vm } : State) locs mc ms := by
    subst hA
    obtain ⟨e1, e2⟩ := hsame
    rw [State.setFrames_setFrames] at e1
    have h2 : (T.setVm s.vm).sameButNew ({ U with vm := s.vm } : State) [] (0 + 1) (0 + 6) := ⟨e1, e2⟩
    have h3 := X.same.trans h2
    rw [List.append_nil] at h3
    exact h3.mono hc hs
  refine ⟨U, ?_, .threw T.heap.size, hrun, hend, Or.inr ⟨T.heap.size, rfl, cls, ce, locs, hx U hWs.alike f1 (fun q hq => f2 q hq (fun z hz => nomatch hz)), hce, hO.2, hcl, hWs, hall, hf⟩⟩
  refine st1 _ ?_
  show Steps p.tables e below (T1.setTop { method := m, pc := pc + 3, locals := ls, stack := .ref T.heap.size :: rest, locked := none }) _
  jvm_step X₁.here [X₁.here.top, hexec, d3', Value.category]
  exact X₁.ldcStringW hexec (own := own) (text := text) (index := is) (a := sa) hown' hstr'.1 hstr'.2
    (g := { method := m, pc := pc + 4, locals := ls, stack := .ref T.heap.size :: .ref T.heap.size :: rest, locked := none }) rfl d4' _ hsteps
end NXE
end
section
/-! ===== BEGIN printed: names, fields, word lists, decode rows ===== -/
def RX0 : String := "SpatialPoints$Cursor"
def TX0 : u_T := fun k => match k with
  | 0 => ("SpatialPoints$Cursor", "tree", "LSpatialPoints$Tree;", true)
  | 1 => ("SpatialPoints$Cursor", "ids", "LSpatialPoints$Numbers;", true)
  | 2 => ("SpatialPoints$Cursor", "waiting", "LSpatialPoints$Numbers;", true)
  | 3 => ("SpatialPoints$Cursor", "position", "I", false)
  | _ => ("SpatialPoints$Cursor", "isValid", "Z", false)
def tyX0 : Nat → FieldType := fun k => match k with
  | 0 => .object "SpatialPoints$Tree"
  | 1 => .object "SpatialPoints$Numbers"
  | 2 => .object "SpatialPoints$Numbers"
  | 3 => .int
  | _ => .boolean
abbrev wsX00 : List Cond := u_ws RX0 TX0 5
theorem nmX0 : ∀ a, a < 5 → ∀ b, b < 5 → a ≠ b → (TX0 a).2.1 ≠ (TX0 b).2.1 := by decide +kernel
theorem tyX0_ok : ∀ k, k < 5 → parseFieldDescriptor (TX0 k).2.2.1 = some (tyX0 k) := by decide +kernel
abbrev cX0_init : ByteArray := prog_2_method_1_code
def yX0_init : MethodName := ⟨RX0, "<init>", "(LSpatialPoints$Tree;)V"⟩
abbrev cX0_invalidate : ByteArray := prog_2_method_2_code
def yX0_invalidate : MethodName := ⟨RX0, "invalidate", "()V"⟩
abbrev cX0_hasMore : ByteArray := prog_2_method_3_code
def yX0_hasMore : MethodName := ⟨RX0, "hasMore", "()Z"⟩
abbrev cX0_advance : ByteArray := prog_2_method_4_code
def yX0_advance : MethodName := ⟨RX0, "advance", "()I"⟩
abbrev cX0_start : ByteArray := prog_2_method_5_code
def yX0_start : MethodName := ⟨RX0, "start", "(I)I"⟩
abbrev cX0_addIfAlive : ByteArray := prog_2_method_6_code
def yX0_addIfAlive : MethodName := ⟨RX0, "addIfAlive", "(I)V"⟩
abbrev cX0_listPreorder : ByteArray := prog_2_method_7_code
def yX0_listPreorder : MethodName := ⟨RX0, "listPreorder", "()V"⟩
abbrev cX0_listInorder : ByteArray := prog_2_method_8_code
def yX0_listInorder : MethodName := ⟨RX0, "listInorder", "()V"⟩
abbrev cX0_waitLeftwards : ByteArray := prog_2_method_9_code
def yX0_waitLeftwards : MethodName := ⟨RX0, "waitLeftwards", "(I)V"⟩
abbrev cX0_listLevels : ByteArray := prog_2_method_10_code
def yX0_listLevels : MethodName := ⟨RX0, "listLevels", "()V"⟩
def RX1 : String := "SpatialPoints$Numbers"
def TX1 : u_T := fun k => match k with
  | 0 => ("SpatialPoints$Numbers", "row", "[I", true)
  | _ => ("SpatialPoints$Numbers", "count", "I", false)
def tyX1 : Nat → FieldType := fun k => match k with
  | 0 => .array .int
  | _ => .int
abbrev wsX10 : List Cond := u_ws RX1 TX1 2
theorem nmX1 : ∀ a, a < 2 → ∀ b, b < 2 → a ≠ b → (TX1 a).2.1 ≠ (TX1 b).2.1 := by decide +kernel
theorem tyX1_ok : ∀ k, k < 2 → parseFieldDescriptor (TX1 k).2.2.1 = some (tyX1 k) := by decide +kernel
abbrev cX1_init : ByteArray := prog_3_method_1_code
def yX1_init : MethodName := ⟨RX1, "<init>", "()V"⟩
abbrev cX1_clear : ByteArray := prog_3_method_2_code
def yX1_clear : MethodName := ⟨RX1, "clear", "()V"⟩
abbrev cX1_at : ByteArray := prog_3_method_3_code
def yX1_at : MethodName := ⟨RX1, "at", "(I)I"⟩
abbrev cX1_add : ByteArray := prog_3_method_4_code
def yX1_add : MethodName := ⟨RX1, "add", "(I)V"⟩
abbrev cX1_addUnlessNone : ByteArray := prog_3_method_5_code
def yX1_addUnlessNone : MethodName := ⟨RX1, "addUnlessNone", "(I)V"⟩
abbrev cX1_takeLast : ByteArray := prog_3_method_6_code
def yX1_takeLast : MethodName := ⟨RX1, "takeLast", "()I"⟩
def RX2 : String := "SpatialPoints$Points"
def TX2 : u_T := fun k => match k with
  | 0 => ("SpatialPoints$Points", "coordinates", "[I", true)
  | 1 => ("SpatialPoints$Points", "weights", "[I", true)
  | 2 => ("SpatialPoints$Points", "tags", "[I", true)
  | 3 => ("SpatialPoints$Points", "lives", "[I", true)
  | 4 => ("SpatialPoints$Points", "created", "I", false)
  | _ => ("SpatialPoints$Points", "liveCount", "I", false)
def tyX2 : Nat → FieldType := fun k => match k with
  | 0 => .array .int
  | 1 => .array .int
  | 2 => .array .int
  | 3 => .array .int
  | 4 => .int
  | _ => .int
abbrev wsX20 : List Cond := u_ws RX2 TX2 6
theorem nmX2 : ∀ a, a < 6 → ∀ b, b < 6 → a ≠ b → (TX2 a).2.1 ≠ (TX2 b).2.1 := by decide +kernel
theorem tyX2_ok : ∀ k, k < 6 → parseFieldDescriptor (TX2 k).2.2.1 = some (tyX2 k) := by decide +kernel
abbrev cX2_init : ByteArray := prog_4_method_1_code
def yX2_init : MethodName := ⟨RX2, "<init>", "()V"⟩
abbrev cX2_exists : ByteArray := prog_4_method_2_code
def yX2_exists : MethodName := ⟨RX2, "exists", "(I)Z"⟩
abbrev cX2_isAlive : ByteArray := prog_4_method_3_code
def yX2_isAlive : MethodName := ⟨RX2, "isAlive", "(I)Z"⟩
abbrev cX2_hasRoomFor : ByteArray := prog_4_method_4_code
def yX2_hasRoomFor : MethodName := ⟨RX2, "hasRoomFor", "(I)Z"⟩
abbrev cX2_coordinateOf : ByteArray := prog_4_method_5_code
def yX2_coordinateOf : MethodName := ⟨RX2, "coordinateOf", "(II)I"⟩
abbrev cX2_isBefore : ByteArray := prog_4_method_6_code
def yX2_isBefore : MethodName := ⟨RX2, "isBefore", "(III)Z"⟩
abbrev cX2_addPoint : ByteArray := prog_4_method_7_code
def yX2_addPoint : MethodName := ⟨RX2, "addPoint", "(IIIII)I"⟩
abbrev cX2_kill : ByteArray := prog_4_method_8_code
def yX2_kill : MethodName := ⟨RX2, "kill", "(I)V"⟩
abbrev cX2_moveOn : ByteArray := prog_4_method_9_code
def yX2_moveOn : MethodName := ⟨RX2, "moveOn", "(III)V"⟩
abbrev cX2_copyFrom : ByteArray := prog_4_method_10_code
def yX2_copyFrom : MethodName := ⟨RX2, "copyFrom", "(LSpatialPoints$Points;)V"⟩
def RX3 : String := "SpatialPoints$Rebuilder"
def TX3 : u_T := fun k => match k with
  | 0 => ("SpatialPoints$Rebuilder", "points", "LSpatialPoints$Points;", true)
  | 1 => ("SpatialPoints$Rebuilder", "tree", "LSpatialPoints$Tree;", true)
  | 2 => ("SpatialPoints$Rebuilder", "statistics", "[I", true)
  | 3 => ("SpatialPoints$Rebuilder", "members", "LSpatialPoints$Numbers;", true)
  | 4 => ("SpatialPoints$Rebuilder", "taskFroms", "[I", true)
  | 5 => ("SpatialPoints$Rebuilder", "taskEnds", "[I", true)
  | 6 => ("SpatialPoints$Rebuilder", "taskDepths", "[I", true)
  | 7 => ("SpatialPoints$Rebuilder", "taskSlots", "[I", true)
  | _ => ("SpatialPoints$Rebuilder", "taskCount", "I", false)
def tyX3 : Nat → FieldType := fun k => match k with
  | 0 => .object "SpatialPoints$Points"
  | 1 => .object "SpatialPoints$Tree"
  | 2 => .array .int
  | 3 => .object "SpatialPoints$Numbers"
  | 4 => .array .int
  | 5 => .array .int
  | 6 => .array .int
  | 7 => .array .int
  | _ => .int
abbrev wsX30 : List Cond := u_ws RX3 TX3 9
theorem nmX3 : ∀ a, a < 9 → ∀ b, b < 9 → a ≠ b → (TX3 a).2.1 ≠ (TX3 b).2.1 := by decide +kernel
theorem tyX3_ok : ∀ k, k < 9 → parseFieldDescriptor (TX3 k).2.2.1 = some (tyX3 k) := by decide +kernel
abbrev cX3_init : ByteArray := prog_5_method_1_code
def yX3_init : MethodName := ⟨RX3, "<init>", "(LSpatialPoints$Points;LSpatialPoints$Tree;)V"⟩
abbrev cX3_rebuildAt : ByteArray := prog_5_method_2_code
def yX3_rebuildAt : MethodName := ⟨RX3, "rebuildAt", "(II)V"⟩
abbrev cX3_gatherMembers : ByteArray := prog_5_method_3_code
def yX3_gatherMembers : MethodName := ⟨RX3, "gatherMembers", "(I)V"⟩
abbrev cX3_addTask : ByteArray := prog_5_method_4_code
def yX3_addTask : MethodName := ⟨RX3, "addTask", "(IIII)V"⟩
abbrev cX3_doTask : ByteArray := prog_5_method_5_code
def yX3_doTask : MethodName := ⟨RX3, "doTask", "(I)V"⟩
abbrev cX3_sortMembers : ByteArray := prog_5_method_6_code
def yX3_sortMembers : MethodName := ⟨RX3, "sortMembers", "(III)V"⟩
abbrev cX3_copyFrom : ByteArray := prog_5_method_7_code
def yX3_copyFrom : MethodName := ⟨RX3, "copyFrom", "(LSpatialPoints$Rebuilder;)V"⟩
def RX4 : String := "SpatialPoints$Search"
def TX4 : u_T := fun k => match k with
  | 0 => ("SpatialPoints$Search", "points", "LSpatialPoints$Points;", true)
  | 1 => ("SpatialPoints$Search", "tree", "LSpatialPoints$Tree;", true)
  | 2 => ("SpatialPoints$Search", "settings", "LSpatialPoints$Settings;", true)
  | 3 => ("SpatialPoints$Search", "found", "LSpatialPoints$Numbers;", true)
  | 4 => ("SpatialPoints$Search", "distances", "[I", true)
  | 5 => ("SpatialPoints$Search", "labels", "[I", true)
  | 6 => ("SpatialPoints$Search", "waiting", "LSpatialPoints$Numbers;", true)
  | 7 => ("SpatialPoints$Search", "pairFirst", "I", false)
  | 8 => ("SpatialPoints$Search", "pairSecond", "I", false)
  | _ => ("SpatialPoints$Search", "pairDistance", "I", false)
def tyX4 : Nat → FieldType := fun k => match k with
  | 0 => .object "SpatialPoints$Points"
  | 1 => .object "SpatialPoints$Tree"
  | 2 => .object "SpatialPoints$Settings"
  | 3 => .object "SpatialPoints$Numbers"
  | 4 => .array .int
  | 5 => .array .int
  | 6 => .object "SpatialPoints$Numbers"
  | 7 => .int
  | 8 => .int
  | _ => .int
abbrev wsX40 : List Cond := u_ws RX4 TX4 10
theorem nmX4 : ∀ a, a < 10 → ∀ b, b < 10 → a ≠ b → (TX4 a).2.1 ≠ (TX4 b).2.1 := by decide +kernel
theorem tyX4_ok : ∀ k, k < 10 → parseFieldDescriptor (TX4 k).2.2.1 = some (tyX4 k) := by decide +kernel
abbrev cX4_init : ByteArray := prog_6_method_1_code
def yX4_init : MethodName := ⟨RX4, "<init>", "(LSpatialPoints$State;)V"⟩
abbrev cX4_isVisible : ByteArray := prog_6_method_2_code
def yX4_isVisible : MethodName := ⟨RX4, "isVisible", "(I)Z"⟩
abbrev cX4_countVisible : ByteArray := prog_6_method_3_code
def yX4_countVisible : MethodName := ⟨RX4, "countVisible", "()I"⟩
abbrev cX4_between : ByteArray := prog_6_method_4_code
def yX4_between : MethodName := ⟨RX4, "between", "(II)I"⟩
abbrev cX4_fromQuery : ByteArray := prog_6_method_5_code
def yX4_fromQuery : MethodName := ⟨RX4, "fromQuery", "(I)I"⟩
abbrev cX4_fromQueryToBox : ByteArray := prog_6_method_6_code
def yX4_fromQueryToBox : MethodName := ⟨RX4, "fromQueryToBox", "(I)I"⟩
abbrev cX4_gapOn : ByteArray := prog_6_method_7_code
def yX4_gapOn : MethodName := ⟨RX4, "gapOn", "(II)I"⟩
abbrev cX4_measureVisible : ByteArray := prog_6_method_8_code
def yX4_measureVisible : MethodName := ⟨RX4, "measureVisible", "()V"⟩
abbrev cX4_nearestAt : ByteArray := prog_6_method_9_code
def yX4_nearestAt : MethodName := ⟨RX4, "nearestAt", "(I)I"⟩
abbrev cX4_rankOf : ByteArray := prog_6_method_10_code
def yX4_rankOf : MethodName := ⟨RX4, "rankOf", "(I)I"⟩
abbrev cX4_farthestPoint : ByteArray := prog_6_method_11_code
def yX4_farthestPoint : MethodName := ⟨RX4, "farthestPoint", "()I"⟩
abbrev cX4_countWithin : ByteArray := prog_6_method_12_code
def yX4_countWithin : MethodName := ⟨RX4, "countWithin", "(I)I"⟩
abbrev cX4_influenceWithin : ByteArray := prog_6_method_13_code
def yX4_influenceWithin : MethodName := ⟨RX4, "influenceWithin", "(I)D"⟩
abbrev cX4_findClosestPair : ByteArray := prog_6_method_14_code
def yX4_findClosestPair : MethodName := ⟨RX4, "findClosestPair", "()V"⟩
abbrev cX4_offerPair : ByteArray := prog_6_method_15_code
def yX4_offerPair : MethodName := ⟨RX4, "offerPair", "(II)V"⟩
abbrev cX4_countFollowers : ByteArray := prog_6_method_16_code
def yX4_countFollowers : MethodName := ⟨RX4, "countFollowers", "(I)I"⟩
abbrev cX4_nearestOther : ByteArray := prog_6_method_17_code
def yX4_nearestOther : MethodName := ⟨RX4, "nearestOther", "(I)I"⟩
abbrev cX4_labelClusters : ByteArray := prog_6_method_18_code
def yX4_labelClusters : MethodName := ⟨RX4, "labelClusters", "(I)I"⟩
abbrev cX4_spreadLabel : ByteArray := prog_6_method_19_code
def yX4_spreadLabel : MethodName := ⟨RX4, "spreadLabel", "(II)V"⟩
abbrev cX4_labelNeighbours : ByteArray := prog_6_method_20_code
def yX4_labelNeighbours : MethodName := ⟨RX4, "labelNeighbours", "(III)V"⟩
abbrev cX4_firstOfCluster : ByteArray := prog_6_method_21_code
def yX4_firstOfCluster : MethodName := ⟨RX4, "firstOfCluster", "(I)I"⟩
abbrev cX4_gatherBox : ByteArray := prog_6_method_22_code
def yX4_gatherBox : MethodName := ⟨RX4, "gatherBox", "()I"⟩
abbrev cX4_isInBox : ByteArray := prog_6_method_23_code
def yX4_isInBox : MethodName := ⟨RX4, "isInBox", "(I)Z"⟩
abbrev cX4_weightOfFound : ByteArray := prog_6_method_24_code
def yX4_weightOfFound : MethodName := ⟨RX4, "weightOfFound", "()I"⟩
abbrev cX4_momentOfFound : ByteArray := prog_6_method_25_code
def yX4_momentOfFound : MethodName := ⟨RX4, "momentOfFound", "(I)I"⟩
abbrev cX4_countVisits : ByteArray := prog_6_method_26_code
def yX4_countVisits : MethodName := ⟨RX4, "countVisits", "()I"⟩
abbrev cX4_meetsBox : ByteArray := prog_6_method_27_code
def yX4_meetsBox : MethodName := ⟨RX4, "meetsBox", "(I)Z"⟩
def RX5 : String := "SpatialPoints$Settings"
def TX5 : u_T := fun k => match k with
  | 0 => ("SpatialPoints$Settings", "options", "[I", true)
  | 1 => ("SpatialPoints$Settings", "queryPoint", "[I", true)
  | 2 => ("SpatialPoints$Settings", "lowerCorner", "[I", true)
  | 3 => ("SpatialPoints$Settings", "upperCorner", "[I", true)
  | _ => ("SpatialPoints$Settings", "exclusions", "[I", true)
def tyX5 : Nat → FieldType := fun k => match k with
  | 0 => .array .int
  | 1 => .array .int
  | 2 => .array .int
  | 3 => .array .int
  | _ => .array .int
abbrev wsX50 : List Cond := u_ws RX5 TX5 5
theorem nmX5 : ∀ a, a < 5 → ∀ b, b < 5 → a ≠ b → (TX5 a).2.1 ≠ (TX5 b).2.1 := by decide +kernel
theorem tyX5_ok : ∀ k, k < 5 → parseFieldDescriptor (TX5 k).2.2.1 = some (tyX5 k) := by decide +kernel
abbrev cX5_init : ByteArray := prog_7_method_1_code
def yX5_init : MethodName := ⟨RX5, "<init>", "()V"⟩
abbrev cX5_optionValue : ByteArray := prog_7_method_2_code
def yX5_optionValue : MethodName := ⟨RX5, "optionValue", "(I)I"⟩
abbrev cX5_isExcluded : ByteArray := prog_7_method_3_code
def yX5_isExcluded : MethodName := ⟨RX5, "isExcluded", "(I)Z"⟩
abbrev cX5_metricOf : ByteArray := prog_7_method_4_code
def yX5_metricOf : MethodName := ⟨RX5, "metricOf", "(III)I"⟩
abbrev cX5_copyFrom : ByteArray := prog_7_method_5_code
def yX5_copyFrom : MethodName := ⟨RX5, "copyFrom", "(LSpatialPoints$Settings;)V"⟩
def RX6 : String := "SpatialPoints$State"
def TX6 : u_T := fun k => match k with
  | 0 => ("SpatialPoints$State", "points", "LSpatialPoints$Points;", true)
  | 1 => ("SpatialPoints$State", "tree", "LSpatialPoints$Tree;", true)
  | 2 => ("SpatialPoints$State", "rebuilder", "LSpatialPoints$Rebuilder;", true)
  | _ => ("SpatialPoints$State", "settings", "LSpatialPoints$Settings;", true)
def tyX6 : Nat → FieldType := fun k => match k with
  | 0 => .object "SpatialPoints$Points"
  | 1 => .object "SpatialPoints$Tree"
  | 2 => .object "SpatialPoints$Rebuilder"
  | _ => .object "SpatialPoints$Settings"
abbrev wsX60 : List Cond := u_ws RX6 TX6 4
theorem nmX6 : ∀ a, a < 4 → ∀ b, b < 4 → a ≠ b → (TX6 a).2.1 ≠ (TX6 b).2.1 := by decide +kernel
theorem tyX6_ok : ∀ k, k < 4 → parseFieldDescriptor (TX6 k).2.2.1 = some (tyX6 k) := by decide +kernel
abbrev cX6_init : ByteArray := prog_8_method_1_code
def yX6_init : MethodName := ⟨RX6, "<init>", "()V"⟩
abbrev cX6_createPoint : ByteArray := prog_8_method_2_code
def yX6_createPoint : MethodName := ⟨RX6, "createPoint", "(IIIII)I"⟩
abbrev cX6_highestUnbalanced : ByteArray := prog_8_method_3_code
def yX6_highestUnbalanced : MethodName := ⟨RX6, "highestUnbalanced", "(I)I"⟩
abbrev cX6_isUnbalanced : ByteArray := prog_8_method_4_code
def yX6_isUnbalanced : MethodName := ⟨RX6, "isUnbalanced", "(I)Z"⟩
abbrev cX6_removePoint : ByteArray := prog_8_method_5_code
def yX6_removePoint : MethodName := ⟨RX6, "removePoint", "(I)V"⟩
abbrev cX6_copyFrom : ByteArray := prog_8_method_6_code
def yX6_copyFrom : MethodName := ⟨RX6, "copyFrom", "(LSpatialPoints$State;)V"⟩
def RX7 : String := "SpatialPoints$Text"
def TX7 : u_T := fun k => match k with
  | 0 => ("SpatialPoints$Text", "signs", "[C", true)
  | 1 => ("SpatialPoints$Text", "parts", "[I", true)
  | 2 => ("SpatialPoints$Text", "length", "I", false)
  | 3 => ("SpatialPoints$Text", "position", "I", false)
  | 4 => ("SpatialPoints$Text", "described", "I", false)
  | 5 => ("SpatialPoints$Text", "fault", "I", false)
  | _ => ("SpatialPoints$Text", "isBeyond", "Z", false)
def tyX7 : Nat → FieldType := fun k => match k with
  | 0 => .array .char
  | 1 => .array .int
  | 2 => .int
  | 3 => .int
  | 4 => .int
  | 5 => .int
  | _ => .boolean
abbrev wsX70 : List Cond := u_ws RX7 TX7 7
theorem nmX7 : ∀ a, a < 7 → ∀ b, b < 7 → a ≠ b → (TX7 a).2.1 ≠ (TX7 b).2.1 := by decide +kernel
theorem tyX7_ok : ∀ k, k < 7 → parseFieldDescriptor (TX7 k).2.2.1 = some (tyX7 k) := by decide +kernel
abbrev cX7_init : ByteArray := prog_9_method_1_code
def yX7_init : MethodName := ⟨RX7, "<init>", "()V"⟩
abbrev cX7_addSign : ByteArray := prog_9_method_2_code
def yX7_addSign : MethodName := ⟨RX7, "addSign", "(C)V"⟩
abbrev cX7_partOf : ByteArray := prog_9_method_3_code
def yX7_partOf : MethodName := ⟨RX7, "partOf", "(II)I"⟩
abbrev cX7_parse : ByteArray := prog_9_method_4_code
def yX7_parse : MethodName := ⟨RX7, "parse", "()V"⟩
abbrev cX7_parseDescription : ByteArray := prog_9_method_5_code
def yX7_parseDescription : MethodName := ⟨RX7, "parseDescription", "()V"⟩
abbrev cX7_parseCoordinate : ByteArray := prog_9_method_6_code
def yX7_parseCoordinate : MethodName := ⟨RX7, "parseCoordinate", "(I)V"⟩
abbrev cX7_putPart : ByteArray := prog_9_method_7_code
def yX7_putPart : MethodName := ⟨RX7, "putPart", "(II)V"⟩
abbrev cX7_accepts : ByteArray := prog_9_method_8_code
def yX7_accepts : MethodName := ⟨RX7, "accepts", "(C)Z"⟩
abbrev cX7_demand : ByteArray := prog_9_method_9_code
def yX7_demand : MethodName := ⟨RX7, "demand", "(C)V"⟩
abbrev cX7_markFault : ByteArray := prog_9_method_10_code
def yX7_markFault : MethodName := ⟨RX7, "markFault", "()V"⟩
abbrev cX7_parseNumber : ByteArray := prog_9_method_11_code
def yX7_parseNumber : MethodName := ⟨RX7, "parseNumber", "(I)I"⟩
abbrev cX7_hasDigit : ByteArray := prog_9_method_12_code
def yX7_hasDigit : MethodName := ⟨RX7, "hasDigit", "()Z"⟩
abbrev cX7_hasSign : ByteArray := prog_9_method_13_code
def yX7_hasSign : MethodName := ⟨RX7, "hasSign", "()Z"⟩
def RX8 : String := "SpatialPoints$Tree"
def TX8 : u_T := fun k => match k with
  | 0 => ("SpatialPoints$Tree", "points", "LSpatialPoints$Points;", true)
  | 1 => ("SpatialPoints$Tree", "links", "[I", true)
  | 2 => ("SpatialPoints$Tree", "parents", "[I", true)
  | 3 => ("SpatialPoints$Tree", "depths", "[I", true)
  | 4 => ("SpatialPoints$Tree", "sizes", "[I", true)
  | 5 => ("SpatialPoints$Tree", "liveSizes", "[I", true)
  | 6 => ("SpatialPoints$Tree", "lows", "[I", true)
  | 7 => ("SpatialPoints$Tree", "highs", "[I", true)
  | 8 => ("SpatialPoints$Tree", "positions", "[I", true)
  | 9 => ("SpatialPoints$Tree", "preorder", "LSpatialPoints$Numbers;", true)
  | 10 => ("SpatialPoints$Tree", "waiting", "LSpatialPoints$Numbers;", true)
  | _ => ("SpatialPoints$Tree", "top", "I", false)
def tyX8 : Nat → FieldType := fun k => match k with
  | 0 => .object "SpatialPoints$Points"
  | 1 => .array .int
  | 2 => .array .int
  | 3 => .array .int
  | 4 => .array .int
  | 5 => .array .int
  | 6 => .array .int
  | 7 => .array .int
  | 8 => .array .int
  | 9 => .object "SpatialPoints$Numbers"
  | 10 => .object "SpatialPoints$Numbers"
  | _ => .int
abbrev wsX80 : List Cond := u_ws RX8 TX8 12
theorem nmX8 : ∀ a, a < 12 → ∀ b, b < 12 → a ≠ b → (TX8 a).2.1 ≠ (TX8 b).2.1 := by decide +kernel
theorem tyX8_ok : ∀ k, k < 12 → parseFieldDescriptor (TX8 k).2.2.1 = some (tyX8 k) := by decide +kernel
abbrev cX8_init : ByteArray := prog_10_method_1_code
def yX8_init : MethodName := ⟨RX8, "<init>", "(LSpatialPoints$Points;)V"⟩
abbrev cX8_contains : ByteArray := prog_10_method_2_code
def yX8_contains : MethodName := ⟨RX8, "contains", "(I)Z"⟩
abbrev cX8_childOf : ByteArray := prog_10_method_3_code
def yX8_childOf : MethodName := ⟨RX8, "childOf", "(II)I"⟩
abbrev cX8_sizeOf : ByteArray := prog_10_method_4_code
def yX8_sizeOf : MethodName := ⟨RX8, "sizeOf", "(I)I"⟩
abbrev cX8_liveSizeOf : ByteArray := prog_10_method_5_code
def yX8_liveSizeOf : MethodName := ⟨RX8, "liveSizeOf", "(I)I"⟩
abbrev cX8_lowOf : ByteArray := prog_10_method_6_code
def yX8_lowOf : MethodName := ⟨RX8, "lowOf", "(II)I"⟩
abbrev cX8_highOf : ByteArray := prog_10_method_7_code
def yX8_highOf : MethodName := ⟨RX8, "highOf", "(II)I"⟩
abbrev cX8_greatestDepth : ByteArray := prog_10_method_8_code
def yX8_greatestDepth : MethodName := ⟨RX8, "greatestDepth", "()I"⟩
abbrev cX8_slotOf : ByteArray := prog_10_method_9_code
def yX8_slotOf : MethodName := ⟨RX8, "slotOf", "(I)I"⟩
abbrev cX8_hang : ByteArray := prog_10_method_10_code
def yX8_hang : MethodName := ⟨RX8, "hang", "(II)V"⟩
abbrev cX8_addLeaf : ByteArray := prog_10_method_11_code
def yX8_addLeaf : MethodName := ⟨RX8, "addLeaf", "(I)V"⟩
abbrev cX8_canMove : ByteArray := prog_10_method_12_code
def yX8_canMove : MethodName := ⟨RX8, "canMove", "(III)Z"⟩
abbrev cX8_move : ByteArray := prog_10_method_13_code
def yX8_move : MethodName := ⟨RX8, "move", "(III)V"⟩
abbrev cX8_refresh : ByteArray := prog_10_method_14_code
def yX8_refresh : MethodName := ⟨RX8, "refresh", "()V"⟩
abbrev cX8_listPreorder : ByteArray := prog_10_method_15_code
def yX8_listPreorder : MethodName := ⟨RX8, "listPreorder", "()V"⟩
abbrev cX8_reach : ByteArray := prog_10_method_16_code
def yX8_reach : MethodName := ⟨RX8, "reach", "(II)V"⟩
abbrev cX8_summarise : ByteArray := prog_10_method_17_code
def yX8_summarise : MethodName := ⟨RX8, "summarise", "(I)V"⟩
abbrev cX8_copyFrom : ByteArray := prog_10_method_18_code
def yX8_copyFrom : MethodName := ⟨RX8, "copyFrom", "(LSpatialPoints$Tree;)V"⟩
def RX9 : String := "SpatialPoints"
def TX9 : u_T := fun k => match k with
  | 0 => ("SpatialPoints", "state", "LSpatialPoints$State;", true)
  | 1 => ("SpatialPoints", "snapshot", "LSpatialPoints$State;", true)
  | 2 => ("SpatialPoints", "search", "LSpatialPoints$Search;", true)
  | 3 => ("SpatialPoints", "cursor", "LSpatialPoints$Cursor;", true)
  | 4 => ("SpatialPoints", "text", "LSpatialPoints$Text;", true)
  | _ => ("SpatialPoints", "saved", "Z", false)
def tyX9 : Nat → FieldType := fun k => match k with
  | 0 => .object "SpatialPoints$State"
  | 1 => .object "SpatialPoints$State"
  | 2 => .object "SpatialPoints$Search"
  | 3 => .object "SpatialPoints$Cursor"
  | 4 => .object "SpatialPoints$Text"
  | _ => .boolean
abbrev wsX90 : List Cond := u_ws RX9 TX9 6
theorem nmX9 : ∀ a, a < 6 → ∀ b, b < 6 → a ≠ b → (TX9 a).2.1 ≠ (TX9 b).2.1 := by decide +kernel
theorem tyX9_ok : ∀ k, k < 6 → parseFieldDescriptor (TX9 k).2.2.1 = some (tyX9 k) := by decide +kernel
abbrev cX9_init : ByteArray := prog_1_method_1_code
def yX9_init : MethodName := ⟨RX9, "<init>", "()V"⟩
abbrev cX9_insert : ByteArray := prog_1_method_2_code
def yX9_insert : MethodName := ⟨RX9, "insert", "(IIIII)I"⟩
abbrev cX9_remove : ByteArray := prog_1_method_3_code
def yX9_remove : MethodName := ⟨RX9, "remove", "(I)I"⟩
abbrev cX9_isLive : ByteArray := prog_1_method_4_code
def yX9_isLive : MethodName := ⟨RX9, "isLive", "(I)Z"⟩
abbrev cX9_coordinate : ByteArray := prog_1_method_5_code
def yX9_coordinate : MethodName := ⟨RX9, "coordinate", "(II)I"⟩
abbrev cX9_weight : ByteArray := prog_1_method_6_code
def yX9_weight : MethodName := ⟨RX9, "weight", "(I)I"⟩
abbrev cX9_tag : ByteArray := prog_1_method_7_code
def yX9_tag : MethodName := ⟨RX9, "tag", "(I)I"⟩
abbrev cX9_label : ByteArray := prog_1_method_8_code
def yX9_label : MethodName := ⟨RX9, "label", "(III)I"⟩
abbrev cX9_shift : ByteArray := prog_1_method_9_code
def yX9_shift : MethodName := ⟨RX9, "shift", "(III)I"⟩
abbrev cX9_root : ByteArray := prog_1_method_10_code
def yX9_root : MethodName := ⟨RX9, "root", "()I"⟩
abbrev cX9_child : ByteArray := prog_1_method_11_code
def yX9_child : MethodName := ⟨RX9, "child", "(II)I"⟩
abbrev cX9_parent : ByteArray := prog_1_method_12_code
def yX9_parent : MethodName := ⟨RX9, "parent", "(I)I"⟩
abbrev cX9_depth : ByteArray := prog_1_method_13_code
def yX9_depth : MethodName := ⟨RX9, "depth", "(I)I"⟩
abbrev cX9_height : ByteArray := prog_1_method_14_code
def yX9_height : MethodName := ⟨RX9, "height", "()I"⟩
abbrev cX9_subtree : ByteArray := prog_1_method_15_code
def yX9_subtree : MethodName := ⟨RX9, "subtree", "(II)I"⟩
abbrev cX9_count : ByteArray := prog_1_method_16_code
def yX9_count : MethodName := ⟨RX9, "count", "(I)I"⟩
abbrev cX9_bound : ByteArray := prog_1_method_17_code
def yX9_bound : MethodName := ⟨RX9, "bound", "(III)I"⟩
abbrev cX9_setOption : ByteArray := prog_1_method_18_code
def yX9_setOption : MethodName := ⟨RX9, "setOption", "(II)I"⟩
abbrev cX9_rebuild : ByteArray := prog_1_method_19_code
def yX9_rebuild : MethodName := ⟨RX9, "rebuild", "()I"⟩
abbrev cX9_rebuilds : ByteArray := prog_1_method_20_code
def yX9_rebuilds : MethodName := ⟨RX9, "rebuilds", "(I)I"⟩
abbrev cX9_query : ByteArray := prog_1_method_21_code
def yX9_query : MethodName := ⟨RX9, "query", "(III)V"⟩
abbrev cX9_exclude : ByteArray := prog_1_method_22_code
def yX9_exclude : MethodName := ⟨RX9, "exclude", "(IZ)Z"⟩
abbrev cX9_distance : ByteArray := prog_1_method_23_code
def yX9_distance : MethodName := ⟨RX9, "distance", "(I)I"⟩
abbrev cX9_boxDistance : ByteArray := prog_1_method_24_code
def yX9_boxDistance : MethodName := ⟨RX9, "boxDistance", "(I)I"⟩
abbrev cX9_nearest : ByteArray := prog_1_method_25_code
def yX9_nearest : MethodName := ⟨RX9, "nearest", "(I)I"⟩
abbrev cX9_farthest : ByteArray := prog_1_method_26_code
def yX9_farthest : MethodName := ⟨RX9, "farthest", "()I"⟩
abbrev cX9_within : ByteArray := prog_1_method_27_code
def yX9_within : MethodName := ⟨RX9, "within", "(I)I"⟩
abbrev cX9_influence : ByteArray := prog_1_method_28_code
def yX9_influence : MethodName := ⟨RX9, "influence", "(I)D"⟩
abbrev cX9_closestPair : ByteArray := prog_1_method_29_code
def yX9_closestPair : MethodName := ⟨RX9, "closestPair", "(I)I"⟩
abbrev cX9_followers : ByteArray := prog_1_method_30_code
def yX9_followers : MethodName := ⟨RX9, "followers", "(I)I"⟩
abbrev cX9_clusters : ByteArray := prog_1_method_31_code
def yX9_clusters : MethodName := ⟨RX9, "clusters", "(I)I"⟩
abbrev cX9_clusterOf : ByteArray := prog_1_method_32_code
def yX9_clusterOf : MethodName := ⟨RX9, "clusterOf", "(II)I"⟩
abbrev cX9_corner : ByteArray := prog_1_method_33_code
def yX9_corner : MethodName := ⟨RX9, "corner", "(IIII)V"⟩
abbrev cX9_inBox : ByteArray := prog_1_method_34_code
def yX9_inBox : MethodName := ⟨RX9, "inBox", "()I"⟩
abbrev cX9_boxPoint : ByteArray := prog_1_method_35_code
def yX9_boxPoint : MethodName := ⟨RX9, "boxPoint", "(I)I"⟩
abbrev cX9_boxWeight : ByteArray := prog_1_method_36_code
def yX9_boxWeight : MethodName := ⟨RX9, "boxWeight", "()I"⟩
abbrev cX9_center : ByteArray := prog_1_method_37_code
def yX9_center : MethodName := ⟨RX9, "center", "(I)D"⟩
abbrev cX9_visits : ByteArray := prog_1_method_38_code
def yX9_visits : MethodName := ⟨RX9, "visits", "()I"⟩
abbrev cX9_open : ByteArray := prog_1_method_39_code
def yX9_open : MethodName := ⟨RX9, "open", "(I)I"⟩
abbrev cX9_hasNext : ByteArray := prog_1_method_40_code
def yX9_hasNext : MethodName := ⟨RX9, "hasNext", "()Z"⟩
abbrev cX9_next : ByteArray := prog_1_method_41_code
def yX9_next : MethodName := ⟨RX9, "next", "()I"⟩
abbrev cX9_append : ByteArray := prog_1_method_42_code
def yX9_append : MethodName := ⟨RX9, "append", "(C)V"⟩
abbrev cX9_read : ByteArray := prog_1_method_43_code
def yX9_read : MethodName := ⟨RX9, "read", "()I"⟩
abbrev cX9_faultPosition : ByteArray := prog_1_method_44_code
def yX9_faultPosition : MethodName := ⟨RX9, "faultPosition", "()I"⟩
abbrev cX9_save : ByteArray := prog_1_method_45_code
def yX9_save : MethodName := ⟨RX9, "save", "()V"⟩
abbrev cX9_restore : ByteArray := prog_1_method_46_code
def yX9_restore : MethodName := ⟨RX9, "restore", "()V"⟩
abbrev cX9_requirePoint : ByteArray := prog_1_method_47_code
def yX9_requirePoint : MethodName := ⟨RX9, "requirePoint", "(I)V"⟩
abbrev cX9_requireNode : ByteArray := prog_1_method_48_code
def yX9_requireNode : MethodName := ⟨RX9, "requireNode", "(I)V"⟩
abbrev cX9_requireBox : ByteArray := prog_1_method_49_code
def yX9_requireBox : MethodName := ⟨RX9, "requireBox", "(I)V"⟩
abbrev cX9_requireVisible : ByteArray := prog_1_method_50_code
def yX9_requireVisible : MethodName := ⟨RX9, "requireVisible", "(I)V"⟩
abbrev cX9_requireAxis : ByteArray := prog_1_method_51_code
def yX9_requireAxis : MethodName := ⟨RX9, "requireAxis", "(I)V"⟩
abbrev cX9_requireCursor : ByteArray := prog_1_method_52_code
def yX9_requireCursor : MethodName := ⟨RX9, "requireCursor", "()V"⟩
abbrev cX9_isWithin : ByteArray := prog_1_method_53_code
def yX9_isWithin : MethodName := ⟨RX9, "isWithin", "(II)Z"⟩
abbrev cX9_isPlace : ByteArray := prog_1_method_54_code
def yX9_isPlace : MethodName := ⟨RX9, "isPlace", "(III)Z"⟩
abbrev cX9_isLabel : ByteArray := prog_1_method_55_code
def yX9_isLabel : MethodName := ⟨RX9, "isLabel", "(II)Z"⟩
abbrev cX9_valueAt : ByteArray := prog_1_method_56_code
def yX9_valueAt : MethodName := ⟨RX9, "valueAt", "([II)I"⟩
abbrev cX9_put : ByteArray := prog_1_method_57_code
def yX9_put : MethodName := ⟨RX9, "put", "([III)V"⟩
abbrev cX9_putPlace : ByteArray := prog_1_method_58_code
def yX9_putPlace : MethodName := ⟨RX9, "putPlace", "([IIII)V"⟩
abbrev cX9_copyRow : ByteArray := prog_1_method_59_code
def yX9_copyRow : MethodName := ⟨RX9, "copyRow", "([I[I)V"⟩
def RX10 : String := "SpatialPointsModel"
def TX10 : u_T := fun k => match k with
  | 0 => ("SpatialPointsModel", "g", "[I", true)
  | 1 => ("SpatialPointsModel", "kept", "[I", true)
  | 2 => ("SpatialPointsModel", "hasKept", "Z", false)
  | 3 => ("SpatialPointsModel", "thrown", "I", false)
  | 4 => ("SpatialPointsModel", "row", "[I", true)
  | 5 => ("SpatialPointsModel", "rows", "I", false)
  | 6 => ("SpatialPointsModel", "cluster", "[I", true)
  | 7 => ("SpatialPointsModel", "shown", "[I", true)
  | 8 => ("SpatialPointsModel", "isCursor", "Z", false)
  | 9 => ("SpatialPointsModel", "goes", "[I", true)
  | 10 => ("SpatialPointsModel", "many", "I", false)
  | 11 => ("SpatialPointsModel", "at", "I", false)
  | 12 => ("SpatialPointsModel", "text", "[I", true)
  | 13 => ("SpatialPointsModel", "length", "I", false)
  | 14 => ("SpatialPointsModel", "spot", "I", false)
  | 15 => ("SpatialPointsModel", "value", "I", false)
  | 16 => ("SpatialPointsModel", "fault", "I", false)
  | 17 => ("SpatialPointsModel", "told", "[I", true)
  | _ => ("SpatialPointsModel", "tolds", "I", false)
def tyX10 : Nat → FieldType := fun k => match k with
  | 0 => .array .int
  | 1 => .array .int
  | 2 => .boolean
  | 3 => .int
  | 4 => .array .int
  | 5 => .int
  | 6 => .array .int
  | 7 => .array .int
  | 8 => .boolean
  | 9 => .array .int
  | 10 => .int
  | 11 => .int
  | 12 => .array .int
  | 13 => .int
  | 14 => .int
  | 15 => .int
  | 16 => .int
  | 17 => .array .int
  | _ => .int
abbrev wsX100 : List Cond := u_ws RX10 TX10 19
theorem nmX10 : ∀ a, a < 19 → ∀ b, b < 19 → a ≠ b → (TX10 a).2.1 ≠ (TX10 b).2.1 := by decide +kernel
theorem tyX10_ok : ∀ k, k < 19 → parseFieldDescriptor (TX10 k).2.2.1 = some (tyX10 k) := by decide +kernel
abbrev cX10_init : ByteArray := prog_12_method_1_code
def yX10_init : MethodName := ⟨RX10, "<init>", "()V"⟩
abbrev cX10_thrown : ByteArray := prog_12_method_2_code
def yX10_thrown : MethodName := ⟨RX10, "thrown", "()I"⟩
abbrev cX10_fails : ByteArray := prog_12_method_3_code
def yX10_fails : MethodName := ⟨RX10, "fails", "(I)I"⟩
abbrev cX10_in : ByteArray := prog_12_method_4_code
def yX10_in : MethodName := ⟨RX10, "in", "(III)Z"⟩
abbrev cX10_isAxis : ByteArray := prog_12_method_5_code
def yX10_isAxis : MethodName := ⟨RX10, "isAxis", "(I)Z"⟩
abbrev cX10_isPlace : ByteArray := prog_12_method_6_code
def yX10_isPlace : MethodName := ⟨RX10, "isPlace", "(III)Z"⟩
abbrev cX10_isPoint : ByteArray := prog_12_method_7_code
def yX10_isPoint : MethodName := ⟨RX10, "isPoint", "(I)Z"⟩
abbrev cX10_isAlive : ByteArray := prog_12_method_8_code
def yX10_isAlive : MethodName := ⟨RX10, "isAlive", "(I)Z"⟩
abbrev cX10_isThere : ByteArray := prog_12_method_9_code
def yX10_isThere : MethodName := ⟨RX10, "isThere", "(I)Z"⟩
abbrev cX10_isSeen : ByteArray := prog_12_method_10_code
def yX10_isSeen : MethodName := ⟨RX10, "isSeen", "(I)Z"⟩
abbrev cX10_lives : ByteArray := prog_12_method_11_code
def yX10_lives : MethodName := ⟨RX10, "lives", "()I"⟩
abbrev cX10_nodes : ByteArray := prog_12_method_12_code
def yX10_nodes : MethodName := ⟨RX10, "nodes", "()I"⟩
abbrev cX10_deadNodes : ByteArray := prog_12_method_13_code
def yX10_deadNodes : MethodName := ⟨RX10, "deadNodes", "()I"⟩
abbrev cX10_seen : ByteArray := prog_12_method_14_code
def yX10_seen : MethodName := ⟨RX10, "seen", "()I"⟩
abbrev cX10_isBefore : ByteArray := prog_12_method_15_code
def yX10_isBefore : MethodName := ⟨RX10, "isBefore", "(III)Z"⟩
abbrev cX10_sizeOf : ByteArray := prog_12_method_16_code
def yX10_sizeOf : MethodName := ⟨RX10, "sizeOf", "(I)I"⟩
abbrev cX10_livesOf : ByteArray := prog_12_method_17_code
def yX10_livesOf : MethodName := ⟨RX10, "livesOf", "(I)I"⟩
abbrev cX10_depthOf : ByteArray := prog_12_method_18_code
def yX10_depthOf : MethodName := ⟨RX10, "depthOf", "(I)I"⟩
abbrev cX10_heightOf : ByteArray := prog_12_method_19_code
def yX10_heightOf : MethodName := ⟨RX10, "heightOf", "(I)I"⟩
abbrev cX10_gathers : ByteArray := prog_12_method_20_code
def yX10_gathers : MethodName := ⟨RX10, "gathers", "(I)V"⟩
abbrev cX10_sorts : ByteArray := prog_12_method_21_code
def yX10_sorts : MethodName := ⟨RX10, "sorts", "(III)V"⟩
abbrev cX10_builds : ByteArray := prog_12_method_22_code
def yX10_builds : MethodName := ⟨RX10, "builds", "(IIII)I"⟩
abbrev cX10_anew : ByteArray := prog_12_method_23_code
def yX10_anew : MethodName := ⟨RX10, "anew", "(I)V"⟩
abbrev cX10_isUneven : ByteArray := prog_12_method_24_code
def yX10_isUneven : MethodName := ⟨RX10, "isUneven", "(I)Z"⟩
abbrev cX10_next : ByteArray := prog_12_method_25_code
def yX10_next : MethodName := ⟨RX10, "next", "(III)I"⟩
abbrev cX10_hangs : ByteArray := prog_12_method_26_code
def yX10_hangs : MethodName := ⟨RX10, "hangs", "(I)V"⟩
abbrev cX10_comes : ByteArray := prog_12_method_27_code
def yX10_comes : MethodName := ⟨RX10, "comes", "(IIIII)I"⟩
abbrev cX10_insert : ByteArray := prog_12_method_28_code
def yX10_insert : MethodName := ⟨RX10, "insert", "(IIIII)I"⟩
abbrev cX10_remove : ByteArray := prog_12_method_29_code
def yX10_remove : MethodName := ⟨RX10, "remove", "(I)I"⟩
abbrev cX10_isLive : ByteArray := prog_12_method_30_code
def yX10_isLive : MethodName := ⟨RX10, "isLive", "(I)Z"⟩
abbrev cX10_coordinate : ByteArray := prog_12_method_31_code
def yX10_coordinate : MethodName := ⟨RX10, "coordinate", "(II)I"⟩
abbrev cX10_weight : ByteArray := prog_12_method_32_code
def yX10_weight : MethodName := ⟨RX10, "weight", "(I)I"⟩
abbrev cX10_tag : ByteArray := prog_12_method_33_code
def yX10_tag : MethodName := ⟨RX10, "tag", "(I)I"⟩
abbrev cX10_label : ByteArray := prog_12_method_34_code
def yX10_label : MethodName := ⟨RX10, "label", "(III)I"⟩
abbrev cX10_mayShift : ByteArray := prog_12_method_35_code
def yX10_mayShift : MethodName := ⟨RX10, "mayShift", "(IIII)Z"⟩
abbrev cX10_shift : ByteArray := prog_12_method_36_code
def yX10_shift : MethodName := ⟨RX10, "shift", "(III)I"⟩
abbrev cX10_root : ByteArray := prog_12_method_37_code
def yX10_root : MethodName := ⟨RX10, "root", "()I"⟩
abbrev cX10_child : ByteArray := prog_12_method_38_code
def yX10_child : MethodName := ⟨RX10, "child", "(II)I"⟩
abbrev cX10_parent : ByteArray := prog_12_method_39_code
def yX10_parent : MethodName := ⟨RX10, "parent", "(I)I"⟩
abbrev cX10_depth : ByteArray := prog_12_method_40_code
def yX10_depth : MethodName := ⟨RX10, "depth", "(I)I"⟩
abbrev cX10_height : ByteArray := prog_12_method_41_code
def yX10_height : MethodName := ⟨RX10, "height", "()I"⟩
abbrev cX10_subtree : ByteArray := prog_12_method_42_code
def yX10_subtree : MethodName := ⟨RX10, "subtree", "(II)I"⟩
abbrev cX10_count : ByteArray := prog_12_method_43_code
def yX10_count : MethodName := ⟨RX10, "count", "(I)I"⟩
abbrev cX10_less : ByteArray := prog_12_method_44_code
def yX10_less : MethodName := ⟨RX10, "less", "(II)I"⟩
abbrev cX10_more : ByteArray := prog_12_method_45_code
def yX10_more : MethodName := ⟨RX10, "more", "(II)I"⟩
abbrev cX10_lowOf : ByteArray := prog_12_method_46_code
def yX10_lowOf : MethodName := ⟨RX10, "lowOf", "(II)I"⟩
abbrev cX10_highOf : ByteArray := prog_12_method_47_code
def yX10_highOf : MethodName := ⟨RX10, "highOf", "(II)I"⟩
abbrev cX10_bound : ByteArray := prog_12_method_48_code
def yX10_bound : MethodName := ⟨RX10, "bound", "(III)I"⟩
abbrev cX10_mayBe : ByteArray := prog_12_method_49_code
def yX10_mayBe : MethodName := ⟨RX10, "mayBe", "(II)Z"⟩
abbrev cX10_setOption : ByteArray := prog_12_method_50_code
def yX10_setOption : MethodName := ⟨RX10, "setOption", "(II)I"⟩
abbrev cX10_rebuild : ByteArray := prog_12_method_51_code
def yX10_rebuild : MethodName := ⟨RX10, "rebuild", "()I"⟩
abbrev cX10_rebuilds : ByteArray := prog_12_method_52_code
def yX10_rebuilds : MethodName := ⟨RX10, "rebuilds", "(I)I"⟩
abbrev cX10_apart : ByteArray := prog_12_method_53_code
def yX10_apart : MethodName := ⟨RX10, "apart", "(II)I"⟩
abbrev cX10_by : ByteArray := prog_12_method_54_code
def yX10_by : MethodName := ⟨RX10, "by", "(III)I"⟩
abbrev cX10_far : ByteArray := prog_12_method_55_code
def yX10_far : MethodName := ⟨RX10, "far", "(I)I"⟩
abbrev cX10_between : ByteArray := prog_12_method_56_code
def yX10_between : MethodName := ⟨RX10, "between", "(II)I"⟩
abbrev cX10_query : ByteArray := prog_12_method_57_code
def yX10_query : MethodName := ⟨RX10, "query", "(III)V"⟩
abbrev cX10_exclude : ByteArray := prog_12_method_58_code
def yX10_exclude : MethodName := ⟨RX10, "exclude", "(IZ)Z"⟩
abbrev cX10_distance : ByteArray := prog_12_method_59_code
def yX10_distance : MethodName := ⟨RX10, "distance", "(I)I"⟩
abbrev cX10_beside : ByteArray := prog_12_method_60_code
def yX10_beside : MethodName := ⟨RX10, "beside", "(II)I"⟩
abbrev cX10_boxDistance : ByteArray := prog_12_method_61_code
def yX10_boxDistance : MethodName := ⟨RX10, "boxDistance", "(I)I"⟩
abbrev cX10_ahead : ByteArray := prog_12_method_62_code
def yX10_ahead : MethodName := ⟨RX10, "ahead", "(I)I"⟩
abbrev cX10_nearest : ByteArray := prog_12_method_63_code
def yX10_nearest : MethodName := ⟨RX10, "nearest", "(I)I"⟩
abbrev cX10_farthest : ByteArray := prog_12_method_64_code
def yX10_farthest : MethodName := ⟨RX10, "farthest", "()I"⟩
abbrev cX10_within : ByteArray := prog_12_method_65_code
def yX10_within : MethodName := ⟨RX10, "within", "(I)I"⟩
abbrev cX10_influence : ByteArray := prog_12_method_66_code
def yX10_influence : MethodName := ⟨RX10, "influence", "(I)D"⟩
abbrev cX10_closestPair : ByteArray := prog_12_method_67_code
def yX10_closestPair : MethodName := ⟨RX10, "closestPair", "(I)I"⟩
abbrev cX10_closestTo : ByteArray := prog_12_method_68_code
def yX10_closestTo : MethodName := ⟨RX10, "closestTo", "(I)I"⟩
abbrev cX10_followers : ByteArray := prog_12_method_69_code
def yX10_followers : MethodName := ⟨RX10, "followers", "(I)I"⟩
abbrev cX10_clustersBy : ByteArray := prog_12_method_70_code
def yX10_clustersBy : MethodName := ⟨RX10, "clustersBy", "(I)I"⟩
abbrev cX10_clusters : ByteArray := prog_12_method_71_code
def yX10_clusters : MethodName := ⟨RX10, "clusters", "(I)I"⟩
abbrev cX10_clusterOf : ByteArray := prog_12_method_72_code
def yX10_clusterOf : MethodName := ⟨RX10, "clusterOf", "(II)I"⟩
abbrev cX10_corner : ByteArray := prog_12_method_73_code
def yX10_corner : MethodName := ⟨RX10, "corner", "(IIII)V"⟩
abbrev cX10_isInBox : ByteArray := prog_12_method_74_code
def yX10_isInBox : MethodName := ⟨RX10, "isInBox", "(I)Z"⟩
abbrev cX10_boxed : ByteArray := prog_12_method_75_code
def yX10_boxed : MethodName := ⟨RX10, "boxed", "(I)I"⟩
abbrev cX10_inBox : ByteArray := prog_12_method_76_code
def yX10_inBox : MethodName := ⟨RX10, "inBox", "()I"⟩
abbrev cX10_boxPoint : ByteArray := prog_12_method_77_code
def yX10_boxPoint : MethodName := ⟨RX10, "boxPoint", "(I)I"⟩
abbrev cX10_weightInBox : ByteArray := prog_12_method_78_code
def yX10_weightInBox : MethodName := ⟨RX10, "weightInBox", "()I"⟩
abbrev cX10_boxWeight : ByteArray := prog_12_method_79_code
def yX10_boxWeight : MethodName := ⟨RX10, "boxWeight", "()I"⟩
abbrev cX10_center : ByteArray := prog_12_method_80_code
def yX10_center : MethodName := ⟨RX10, "center", "(I)D"⟩
abbrev cX10_meetsBox : ByteArray := prog_12_method_81_code
def yX10_meetsBox : MethodName := ⟨RX10, "meetsBox", "(I)Z"⟩
abbrev cX10_visitsFrom : ByteArray := prog_12_method_82_code
def yX10_visitsFrom : MethodName := ⟨RX10, "visitsFrom", "(I)I"⟩
abbrev cX10_visits : ByteArray := prog_12_method_83_code
def yX10_visits : MethodName := ⟨RX10, "visits", "()I"⟩
abbrev cX10_takes : ByteArray := prog_12_method_84_code
def yX10_takes : MethodName := ⟨RX10, "takes", "(I)V"⟩
abbrev cX10_goesBefore : ByteArray := prog_12_method_85_code
def yX10_goesBefore : MethodName := ⟨RX10, "goesBefore", "(I)V"⟩
abbrev cX10_goesBetween : ByteArray := prog_12_method_86_code
def yX10_goesBetween : MethodName := ⟨RX10, "goesBetween", "(I)V"⟩
abbrev cX10_goesLevel : ByteArray := prog_12_method_87_code
def yX10_goesLevel : MethodName := ⟨RX10, "goesLevel", "(II)V"⟩
abbrev cX10_open : ByteArray := prog_12_method_88_code
def yX10_open : MethodName := ⟨RX10, "open", "(I)I"⟩
abbrev cX10_hasNext : ByteArray := prog_12_method_89_code
def yX10_hasNext : MethodName := ⟨RX10, "hasNext", "()Z"⟩
abbrev cX10_next_ : ByteArray := prog_12_method_90_code
def yX10_next_ : MethodName := ⟨RX10, "next", "()I"⟩
abbrev cX10_append : ByteArray := prog_12_method_91_code
def yX10_append : MethodName := ⟨RX10, "append", "(C)V"⟩
abbrev cX10_here : ByteArray := prog_12_method_92_code
def yX10_here : MethodName := ⟨RX10, "here", "()I"⟩
abbrev cX10_skips : ByteArray := prog_12_method_93_code
def yX10_skips : MethodName := ⟨RX10, "skips", "(I)Z"⟩
abbrev cX10_isDigit : ByteArray := prog_12_method_94_code
def yX10_isDigit : MethodName := ⟨RX10, "isDigit", "()Z"⟩
abbrev cX10_digits : ByteArray := prog_12_method_95_code
def yX10_digits : MethodName := ⟨RX10, "digits", "(I)Z"⟩
abbrev cX10_coordinates : ByteArray := prog_12_method_96_code
def yX10_coordinates : MethodName := ⟨RX10, "coordinates", "()Z"⟩
abbrev cX10_describes : ByteArray := prog_12_method_97_code
def yX10_describes : MethodName := ⟨RX10, "describes", "()Z"⟩
abbrev cX10_faultOf : ByteArray := prog_12_method_98_code
def yX10_faultOf : MethodName := ⟨RX10, "faultOf", "()I"⟩
abbrev cX10_areInvalid : ByteArray := prog_12_method_99_code
def yX10_areInvalid : MethodName := ⟨RX10, "areInvalid", "()Z"⟩
abbrev cX10_read : ByteArray := prog_12_method_100_code
def yX10_read : MethodName := ⟨RX10, "read", "()I"⟩
abbrev cX10_faultPosition : ByteArray := prog_12_method_101_code
def yX10_faultPosition : MethodName := ⟨RX10, "faultPosition", "()I"⟩
abbrev cX10_save : ByteArray := prog_12_method_102_code
def yX10_save : MethodName := ⟨RX10, "save", "()V"⟩
abbrev cX10_restore : ByteArray := prog_12_method_103_code
def yX10_restore : MethodName := ⟨RX10, "restore", "()V"⟩
def RJx145de : String := "java/io/Serializable"
def TJx145de : u_T := fun k => match k with
  | _ => ("", "", "", false)
def tyJx145de : Nat → FieldType := fun k => match k with
  | _ => .int
abbrev wsJx145de0 : List Cond := u_ws RJx145de TJx145de 0
theorem nmJx145de : ∀ a, a < 0 → ∀ b, b < 0 → a ≠ b → (TJx145de a).2.1 ≠ (TJx145de b).2.1 := by decide +kernel
theorem tyJx145de_ok : ∀ k, k < 0 → parseFieldDescriptor (TJx145de k).2.2.1 = some (tyJx145de k) := by decide +kernel
def RJx00060 : String := "java/lang/ArrayIndexOutOfBoundsException"
def TJx00060 : u_T := fun k => match k with
  | 0 => ("java/lang/Throwable", "backtrace", "Ljava/lang/Object;", false)
  | 1 => ("java/lang/Throwable", "detailMessage", "Ljava/lang/String;", false)
  | 2 => ("java/lang/Throwable", "cause", "Ljava/lang/Throwable;", false)
  | 3 => ("java/lang/Throwable", "stackTrace", "[Ljava/lang/StackTraceElement;", false)
  | 4 => ("java/lang/Throwable", "depth", "I", false)
  | _ => ("java/lang/Throwable", "suppressedExceptions", "Ljava/util/List;", false)
def tyJx00060 : Nat → FieldType := fun k => match k with
  | 0 => .object "java/lang/Object"
  | 1 => .object "java/lang/String"
  | 2 => .object "java/lang/Throwable"
  | 3 => .array (.object "java/lang/StackTraceElement")
  | 4 => .int
  | _ => .object "java/util/List"
abbrev wsJx000600 : List Cond := u_ws RJx00060 TJx00060 6
theorem nmJx00060 : ∀ a, a < 6 → ∀ b, b < 6 → a ≠ b → (TJx00060 a).2.1 ≠ (TJx00060 b).2.1 := by decide +kernel
theorem tyJx00060_ok : ∀ k, k < 6 → parseFieldDescriptor (TJx00060 k).2.2.1 = some (tyJx00060 k) := by decide +kernel
abbrev cJx00060_init_a7421 : ByteArray := prog_15_method_2_code
def yJx00060_init_a7421 : MethodName := ⟨RJx00060, "<init>", "(Ljava/lang/String;)V"⟩
def RJx8e188 : String := "java/lang/Cloneable"
def TJx8e188 : u_T := fun k => match k with
  | _ => ("", "", "", false)
def tyJx8e188 : Nat → FieldType := fun k => match k with
  | _ => .int
abbrev wsJx8e1880 : List Cond := u_ws RJx8e188 TJx8e188 0
theorem nmJx8e188 : ∀ a, a < 0 → ∀ b, b < 0 → a ≠ b → (TJx8e188 a).2.1 ≠ (TJx8e188 b).2.1 := by decide +kernel
theorem tyJx8e188_ok : ∀ k, k < 0 → parseFieldDescriptor (TJx8e188 k).2.2.1 = some (tyJx8e188 k) := by decide +kernel
def RJ9 : String := "java/lang/Math"
def TJ9 : u_T := fun k => match k with
  | _ => ("", "", "", false)
def tyJ9 : Nat → FieldType := fun k => match k with
  | _ => .int
abbrev wsJ90 : List Cond := u_ws RJ9 TJ9 0
theorem nmJ9 : ∀ a, a < 0 → ∀ b, b < 0 → a ≠ b → (TJ9 a).2.1 ≠ (TJ9 b).2.1 := by decide +kernel
theorem tyJ9_ok : ∀ k, k < 0 → parseFieldDescriptor (TJ9 k).2.2.1 = some (tyJ9 k) := by decide +kernel
abbrev cJ9_abs_0f7a4 : ByteArray := prog_21_method_59_code
def yJ9_abs_0f7a4 : MethodName := ⟨RJ9, "abs", "(I)I"⟩
abbrev cJ9_max_7cf53 : ByteArray := prog_21_method_65_code
def yJ9_max_7cf53 : MethodName := ⟨RJ9, "max", "(II)I"⟩
abbrev cJ9_min_7cf53 : ByteArray := prog_21_method_69_code
def yJ9_min_7cf53 : MethodName := ⟨RJ9, "min", "(II)I"⟩
def RJ0 : String := "java/lang/String"
def TJ0 : u_T := fun k => match k with
  | 0 => ("java/lang/String", "value", "[B", true)
  | _ => ("java/lang/String", "coder", "B", true)
def tyJ0 : Nat → FieldType := fun k => match k with
  | 0 => .array .byte
  | _ => .byte
abbrev wsJ00 : List Cond := u_ws RJ0 TJ0 2
theorem nmJ0 : ∀ a, a < 2 → ∀ b, b < 2 → a ≠ b → (TJ0 a).2.1 ≠ (TJ0 b).2.1 := by decide +kernel
theorem tyJ0_ok : ∀ k, k < 2 → parseFieldDescriptor (TJ0 k).2.2.1 = some (tyJ0 k) := by decide +kernel
def RJ10 : String := "java/lang/System"
def TJ10 : u_T := fun k => match k with
  | _ => ("", "", "", false)
def tyJ10 : Nat → FieldType := fun k => match k with
  | _ => .int
abbrev wsJ100 : List Cond := u_ws RJ10 TJ10 0
theorem nmJ10 : ∀ a, a < 0 → ∀ b, b < 0 → a ≠ b → (TJ10 a).2.1 ≠ (TJ10 b).2.1 := by decide +kernel
theorem tyJ10_ok : ∀ k, k < 0 → parseFieldDescriptor (TJ10 k).2.2.1 = some (tyJ10 k) := by decide +kernel
def RJ7 : String := "java/util/Arrays"
def TJ7 : u_T := fun k => match k with
  | _ => ("", "", "", false)
def tyJ7 : Nat → FieldType := fun k => match k with
  | _ => .int
abbrev wsJ70 : List Cond := u_ws RJ7 TJ7 0
theorem nmJ7 : ∀ a, a < 0 → ∀ b, b < 0 → a ≠ b → (TJ7 a).2.1 ≠ (TJ7 b).2.1 := by decide +kernel
theorem tyJ7_ok : ∀ k, k < 0 → parseFieldDescriptor (TJ7 k).2.2.1 = some (tyJ7 k) := by decide +kernel
abbrev cJ7_fill_53178 : ByteArray := prog_26_method_103_code
def yJ7_fill_53178 : MethodName := ⟨RJ7, "fill", "([II)V"⟩
def RL : String := "SpatialPointsLaw"
abbrev cL_insert : ByteArray := method_3_code
def yL_insert : MethodName := ⟨RL, "insert", "(LSpatialPoints;IIIII[J)I"⟩
abbrev cL_remove : ByteArray := method_4_code
def yL_remove : MethodName := ⟨RL, "remove", "(LSpatialPoints;I[J)I"⟩
abbrev cL_coordinate : ByteArray := method_5_code
def yL_coordinate : MethodName := ⟨RL, "coordinate", "(LSpatialPoints;II[J)I"⟩
abbrev cL_weight : ByteArray := method_6_code
def yL_weight : MethodName := ⟨RL, "weight", "(LSpatialPoints;I[J)I"⟩
abbrev cL_tag : ByteArray := method_7_code
def yL_tag : MethodName := ⟨RL, "tag", "(LSpatialPoints;I[J)I"⟩
abbrev cL_label : ByteArray := method_8_code
def yL_label : MethodName := ⟨RL, "label", "(LSpatialPoints;III[J)I"⟩
abbrev cL_shift : ByteArray := method_9_code
def yL_shift : MethodName := ⟨RL, "shift", "(LSpatialPoints;III[J)I"⟩
abbrev cL_root : ByteArray := method_10_code
def yL_root : MethodName := ⟨RL, "root", "(LSpatialPoints;[J)I"⟩
abbrev cL_child : ByteArray := method_11_code
def yL_child : MethodName := ⟨RL, "child", "(LSpatialPoints;II[J)I"⟩
abbrev cL_parent : ByteArray := method_12_code
def yL_parent : MethodName := ⟨RL, "parent", "(LSpatialPoints;I[J)I"⟩
abbrev cL_depth : ByteArray := method_13_code
def yL_depth : MethodName := ⟨RL, "depth", "(LSpatialPoints;I[J)I"⟩
abbrev cL_subtree : ByteArray := method_14_code
def yL_subtree : MethodName := ⟨RL, "subtree", "(LSpatialPoints;II[J)I"⟩
abbrev cL_count : ByteArray := method_15_code
def yL_count : MethodName := ⟨RL, "count", "(LSpatialPoints;I[J)I"⟩
abbrev cL_bound : ByteArray := method_16_code
def yL_bound : MethodName := ⟨RL, "bound", "(LSpatialPoints;III[J)I"⟩
abbrev cL_setOption : ByteArray := method_17_code
def yL_setOption : MethodName := ⟨RL, "setOption", "(LSpatialPoints;II[J)I"⟩
abbrev cL_rebuilds : ByteArray := method_18_code
def yL_rebuilds : MethodName := ⟨RL, "rebuilds", "(LSpatialPoints;I[J)I"⟩
abbrev cL_query : ByteArray := method_19_code
def yL_query : MethodName := ⟨RL, "query", "(LSpatialPoints;III)I"⟩
abbrev cL_exclude : ByteArray := method_20_code
def yL_exclude : MethodName := ⟨RL, "exclude", "(LSpatialPoints;IZ[J)I"⟩
abbrev cL_distance : ByteArray := method_21_code
def yL_distance : MethodName := ⟨RL, "distance", "(LSpatialPoints;I[J)I"⟩
abbrev cL_boxDistance : ByteArray := method_22_code
def yL_boxDistance : MethodName := ⟨RL, "boxDistance", "(LSpatialPoints;I[J)I"⟩
abbrev cL_nearest : ByteArray := method_23_code
def yL_nearest : MethodName := ⟨RL, "nearest", "(LSpatialPoints;I[J)I"⟩
abbrev cL_farthest : ByteArray := method_24_code
def yL_farthest : MethodName := ⟨RL, "farthest", "(LSpatialPoints;[J)I"⟩
abbrev cL_closestPair : ByteArray := method_25_code
def yL_closestPair : MethodName := ⟨RL, "closestPair", "(LSpatialPoints;I[J)I"⟩
abbrev cL_followers : ByteArray := method_26_code
def yL_followers : MethodName := ⟨RL, "followers", "(LSpatialPoints;I[J)I"⟩
abbrev cL_clusterOf : ByteArray := method_27_code
def yL_clusterOf : MethodName := ⟨RL, "clusterOf", "(LSpatialPoints;II[J)I"⟩
abbrev cL_corner : ByteArray := method_28_code
def yL_corner : MethodName := ⟨RL, "corner", "(LSpatialPoints;IIII)I"⟩
abbrev cL_boxPoint : ByteArray := method_29_code
def yL_boxPoint : MethodName := ⟨RL, "boxPoint", "(LSpatialPoints;I[J)I"⟩
abbrev cL_center : ByteArray := method_30_code
def yL_center : MethodName := ⟨RL, "center", "(LSpatialPoints;I[D)I"⟩
abbrev cL_open : ByteArray := method_31_code
def yL_open : MethodName := ⟨RL, "open", "(LSpatialPoints;I[J)I"⟩
abbrev cL_hasNext : ByteArray := method_32_code
def yL_hasNext : MethodName := ⟨RL, "hasNext", "(LSpatialPoints;[J)I"⟩
abbrev cL_next : ByteArray := method_33_code
def yL_next : MethodName := ⟨RL, "next", "(LSpatialPoints;[J)I"⟩
abbrev cL_append : ByteArray := method_34_code
def yL_append : MethodName := ⟨RL, "append", "(LSpatialPoints;C)I"⟩
abbrev cL_read : ByteArray := method_35_code
def yL_read : MethodName := ⟨RL, "read", "(LSpatialPoints;[J)I"⟩
abbrev cL_restore : ByteArray := method_36_code
def yL_restore : MethodName := ⟨RL, "restore", "(LSpatialPoints;)I"⟩
abbrev cL_law : ByteArray := code
def yL_law : MethodName := ⟨RL, "law", "([I)Z"⟩
def wsX1_init : List Cond := .code yX1_init cX1_init 1 none :: ([.methodLink RX1 3 objectInit, .instanceMethod objectInit, .code objectInit ⟨#[0xb1]⟩ 1 none, .arrayClass .int, .fieldLink RX1 9 "SpatialPoints$Numbers" "row" "[I", .fieldLink RX1 15 "SpatialPoints$Numbers" "count" "I"] ++ wsX10)
def wsX0_init : List Cond := .code yX0_init cX0_init 2 none :: ([.methodLink RX0 3 objectInit, .instanceMethod objectInit, .code objectInit ⟨#[0xb1]⟩ 1 none, .classLink RX0 9 RX1, .instantiable RX1 2, .initialized RX1, .fieldLink RX0 12 "SpatialPoints$Cursor" "ids" "LSpatialPoints$Numbers;", .fieldLink RX0 18 "SpatialPoints$Cursor" "waiting" "LSpatialPoints$Numbers;", .fieldLink RX0 21 "SpatialPoints$Cursor" "position" "I", .fieldLink RX0 25 "SpatialPoints$Cursor" "isValid" "Z", .fieldLink RX0 29 "SpatialPoints$Cursor" "tree" "LSpatialPoints$Tree;", .instanceMethod yX1_init, .code yX1_init cX1_init 1 none, .methodLink RX1 3 objectInit, .arrayClass .int, .fieldLink RX1 9 "SpatialPoints$Numbers" "row" "[I", .fieldLink RX1 15 "SpatialPoints$Numbers" "count" "I"] ++ wsX10 ++ wsX00)
def wsX0_invalidate : List Cond := .code yX0_invalidate cX0_invalidate 1 none :: ([.fieldLink RX0 25 "SpatialPoints$Cursor" "isValid" "Z"] ++ wsX00)
def wsX0_hasMore : List Cond := .code yX0_hasMore cX0_hasMore 1 (some .boolean) :: ([.fieldLink RX0 21 "SpatialPoints$Cursor" "position" "I", .fieldLink RX0 12 "SpatialPoints$Cursor" "ids" "LSpatialPoints$Numbers;", .fieldLink RX0 33 "SpatialPoints$Numbers" "count" "I"] ++ wsX00 ++ wsX10)
/-! ===== END printed: names ===== -/
end
section
/-! THE SMALL MACHINE: whole numbers, cells by number; a method's blocks; its runs as a function -/
abbrev mV : Type := Int ⊕ (Option Nat) ⊕ Int ⊕ UInt64 ⊕ Unit
abbrev vi (x : Int) : mV := .inl x
abbrev vr (k : Nat) : mV := .inr (.inl (some k))
abbrev vn : mV := .inr (.inl none)
abbrev vl (x : Int) : mV := .inr (.inr (.inl x))
abbrev vd (x : UInt64) : mV := .inr (.inr (.inr (.inl x)))
abbrev vj : mV := .inr (.inr (.inr (.inr ())))
/-- a cell's shape: kind (0 a thing of a made type, 1 ints, 2 chars, 3 longs, 4 doubles, 5 ints that nobody writes, 6 the script), number (of the type; length), fields (none: a number) -/
abbrev mSh : Type := Nat × Nat × List (Option (Option Nat))
abbrev mM : Type := Nat → Nat → Int
abbrev mS : Type := List mSh × mM
abbrev mSt : Type := List mV × List mV × mS
/-- kind, instruction, a, b, place of its word, more -/
abbrev mI : Type := Nat × Instr × Nat × Nat × Nat × List Nat
abbrev mB : Type := Nat × List Bool × List mI
abbrev mO : Type := Option mV ⊕ Nat
abbrev mR : Type := Option (mO × mS)
def wr (x : Int) : Int := Int.bmod x 4294967296
def mset (M : mM) (k j : Nat) (x : Int) : mM := fun a b => if a = k ∧ b = j then x else M a b
def c2 : mV → Bool
  | .inr (.inr (.inl _)) => true
  | .inr (.inr (.inr (.inl _))) => true
  | _ => false
def c2sum (S : List mV) : Nat := (S.map fun v => match c2 v with
  | true => 2
  | false => 1).sum
def c2at (L : List mV) (n : Nat) : Bool := match n with
  | 0 => false
  | k + 1 => match L[k]? with
    | some v => c2 v
    | none => false
def stI (L : List mV) (n : Nat) (v : mV) : Option (List mV) := match decide (n < L.length) && !(c2at L n) with
  | true => some (L.set n v)
  | false => none
def stD (L : List mV) (n : Nat) (v : mV) : Option (List mV) := match decide (n + 1 < L.length) && !(c2at L n) with
  | true => some ((L.set n v).set (n + 1) vj)
  | false => none
def ldn (L : List mV) (S : List mV) (σ : mS) (n : Nat) : Option mSt := match L[n]? with
  | some (.inl x) => some (L, vi x :: S, σ)
  | _ => none
def lda (L : List mV) (S : List mV) (σ : mS) (n : Nat) : Option mSt := match L[n]? with
  | some (.inr (.inl r)) => some (L, (.inr (.inl r)) :: S, σ)
  | _ => none
def ldd (L : List mV) (S : List mV) (σ : mS) (n : Nat) : Option mSt := match L[n]? with
  | some (.inr (.inr (.inr (.inl x)))) => some (L, vd x :: S, σ)
  | _ => none
def sti (L : List mV) (S : List mV) (σ : mS) (n : Nat) : Option mSt := match S with
  | .inl x :: r => (stI L n (vi x)).map fun L' => (L', r, σ)
  | _ => none
def sta (L : List mV) (S : List mV) (σ : mS) (n : Nat) : Option mSt := match S with
  | .inr (.inl t) :: r => (stI L n (.inr (.inl t))).map fun L' => (L', r, σ)
  | .inr (.inr (.inr (.inr ()))) :: r => (stI L n vj).map fun L' => (L', r, σ)
  | _ => none
def std (L : List mV) (S : List mV) (σ : mS) (n : Nat) : Option mSt := match S with
  | .inr (.inr (.inr (.inl x))) :: r => (stD L n (vd x)).map fun L' => (L', r, σ)
  | _ => none
def gtf (L : List mV) (S : List mV) (σ : mS) (a b : Nat) : Option mSt := match S with
  | .inr (.inl (some k)) :: r => match σ.1[k]? with
    | some (0, ci, fs) => match ci == a with
      | true => match fs[b]? with
        | some none => some (L, vi (σ.2 k b) :: r, σ)
        | some (some t) => some (L, (.inr (.inl t)) :: r, σ)
        | none => none
      | false => none
    | _ => none
  | _ => none
def bit? (x : Int) : Bool := decide (x = 0) || decide (x = 1)
/-- kd: 0 an int, 1 a boolean, 2 a reference -/
def ptf (L : List mV) (S : List mV) (σ : mS) (a b kd : Nat) : Option mSt := match S with
  | v :: .inr (.inl (some k)) :: r => match σ.1[k]? with
    | some (0, ci, fs) => match ci == a with
      | true => match fs[b]?, v, kd with
        | some none, .inl x, 0 => some (L, r, (σ.1, mset σ.2 k b x))
        | some none, .inl x, 1 => match bit? x with
          | true => some (L, r, (σ.1, mset σ.2 k b x))
          | false => none
        | some (some _), .inr (.inl t), 2 => some (L, r, (σ.1.set k (0, ci, fs.set b (some t)), σ.2))
        | _, _, _ => none
      | false => none
    | _ => none
  | _ => none
def ar2 (L : List mV) (S : List mV) (σ : mS) (f : Int → Int → Int) : Option mSt := match S with
  | .inl y :: .inl x :: r => some (L, vi (f x y) :: r, σ)
  | _ => none
def arp (L : List mV) (S : List mV) (σ : mS) (f : Int → Int → Int) : Option mSt := match S with
  | .inl y :: .inl x :: r => match decide (0 < y) with
    | true => some (L, vi (f x y) :: r, σ)
    | false => none
  | _ => none
def cmpL (x y : Int) : Int := if x < y then -1 else if x = y then 0 else 1
/-- the straight instructions -/
def sem (i : Instr) (a b kd : Nat) (L S : List mV) (σ : mS) : Option mSt := match i with
  | .iconst n => some (L, vi n :: S, σ)
  | .bipush n => some (L, vi n :: S, σ)
  | .sipush n => some (L, vi n :: S, σ)
  | .lconst n => some (L, vl (n.val : Int) :: S, σ)
  | .dconst n => match n with
    | 0 => some (L, vd FP.dconst0 :: S, σ)
    | _ => none
  | .iload_n n => ldn L S σ n.val
  | .iload n => ldn L S σ n
  | .aload_n n => lda L S σ n.val
  | .aload n => lda L S σ n
  | .dload_n n => ldd L S σ n.val
  | .dload n => ldd L S σ n
  | .istore_n n => sti L S σ n.val
  | .istore n => sti L S σ n
  | .astore_n n => sta L S σ n.val
  | .astore n => sta L S σ n
  | .dstore_n n => std L S σ n.val
  | .dstore n => std L S σ n
  | .iinc n k => match L[n]? with
    | some (.inl x) => (stI L n (vi (wr (x + k)))).map fun L' => (L', S, σ)
    | _ => none
  | .iadd => ar2 L S σ fun x y => wr (x + y)
  | .isub => ar2 L S σ fun x y => wr (x - y)
  | .imul => ar2 L S σ fun x y => wr (x * y)
  | .ineg => match S with
    | .inl x :: r => some (L, vi (wr (-x)) :: r, σ)
    | _ => none
  | .irem => arp L S σ Int.tmod
  | .idiv => arp L S σ Int.tdiv
  | .iand => match S with
    | .inl y :: .inl x :: r => match decide (y = 63) with
      | true => some (L, vi (x % 64) :: r, σ)
      | false => none
    | _ => none
  | .i2l => match S with
    | .inl x :: r => some (L, vl x :: r, σ)
    | _ => none
  | .i2c => match S with
    | .inl x :: r => some (L, vi (x % 65536) :: r, σ)
    | _ => none
  | .i2d => match S with
    | .inl x :: r => some (L, vd (FP.i2d (Int32.ofInt x)) :: r, σ)
    | _ => none
  | .lcmp => match S with
    | .inr (.inr (.inl y)) :: .inr (.inr (.inl x)) :: r => some (L, vi (cmpL x y) :: r, σ)
    | _ => none
  | .dcmp op => match S with
    | .inr (.inr (.inr (.inl y))) :: .inr (.inr (.inr (.inl x))) :: r => some (L, vi (Op.cmpValue (FP.dcmp x y) op).toInt :: r, σ)
    | _ => none
  | .dup => match S with
    | v :: r => match c2 v with
      | false => some (L, v :: v :: r, σ)
      | true => none
    | _ => none
  | .pop => match S with
    | v :: r => match c2 v with
      | false => some (L, r, σ)
      | true => none
    | _ => none
  | .dup2 => match S with
    | v :: w :: r => match c2 v || c2 w with
      | false => some (L, v :: w :: v :: w :: r, σ)
      | true => none
    | _ => none
  | .dup_x1 => match S with
    | v :: w :: r => match c2 v || c2 w with
      | false => some (L, v :: w :: v :: r, σ)
      | true => none
    | _ => none
  | .getfield _ => gtf L S σ a b
  | .putfield _ => ptf L S σ a b kd
  | .getstatic _ => some (L, vr a :: S, σ)
  | .invokestatic _ => match decide (S.length ≤ 20), a with
    | true, 1 => ar2 L S σ fun x y => if x < y then y else x
    | true, 2 => ar2 L S σ fun x y => if y < x then y else x
    | true, 3 => match S with
      | .inl x :: r => some (L, vi (wr (x.natAbs : Int)) :: r, σ)
      | _ => none
    | _, _ => none
  | .invokespecial _ => match decide (S.length ≤ 20), S with
    | true, .inr (.inl (some _)) :: r => some (L, r, σ)
    | _, _ => none
  | _ => none
def runS : List mI → mSt → Option (mSt × mI)
  | [], _ => none
  | i :: r, st => match i.1 with
    | 0 => match sem i.2.1 i.2.2.1 i.2.2.2.1 (i.2.2.2.2.2.headD 0) st.1 st.2.1 st.2.2 with
      | some st' => runS r st'
      | none => none
    | _ => some (st, i)
/-- an array that is read by iaload: its length; else 0 -/
def alI (σ : mS) (k : Nat) : Int := match σ.1[k]? with
  | some (1, n, _) => n
  | some (5, n, _) => n
  | _ => 0
def alK (σ : mS) (kd k : Nat) : Int := match σ.1[k]? with
  | some (q, n, _) => if q = kd then n else 0
  | _ => 0
def isScr (k : Nat) : Bool := k == 3
def cmpI (c : ClassFile.Cond) (x y : Int) : Prop := match c with
  | .eq => x = y
  | .ne => x ≠ y
  | .lt => x < y
  | .ge => y ≤ x
  | .gt => y < x
  | .le => x ≤ y
def msk : List Bool → List mV → List mV
  | b :: bs, v :: vs => (match b with | true => v | false => vj) :: msk bs vs
  | _, _ => []
def swT (lo : Int) (ts : List Nat) (df : Nat) (x : Int) : Nat := if x < lo then df else ts.getD (x - lo).toNat df
def alA (σ : mS) (k : Nat) : Int := match σ.1[k]? with
  | some (0, _, _) => 0
  | some (6, _, _) => 0
  | some (_, n, _) => n
  | none => 0
def psh (v : Option mV) (r : List mV) : List mV := match v with
  | none => r
  | some x => x :: r
def nj : mV → Bool
  | .inr (.inr _) => false
  | _ => true
def rcvOk (σ : mS) (as : List mV) (rc : Nat) : Bool := match rc, as with
  | 0, _ => true
  | ci + 1, .inr (.inl (some k)) :: _ => match σ.1[k]? with
    | some (0, c, _) => c == ci
    | _ => false
  | _, _ => false
def callK (r : mR) (k : Option mV → mS → mR) (x : Nat → mS → mR) : mR := match r with
  | none => none
  | some (.inl v, σ) => k v σ
  | some (.inr e, σ) => x e σ
def mcpy (M : mM) (ks kd n : Nat) : mM := fun a j => if a = kd ∧ j < n then M ks j else M a j
def mzero (M : mM) (k : Nat) : mM := fun a j => if a = k then 0 else M a j
def mclone (M : mM) (ks k : Nat) : mM := fun a j => if a = k then M ks j else M a j
def nn64 (r : UInt64) : Bool := decide (r &&& 0x7fffffffffffffff ≤ 0x7ff0000000000000)
abbrev mJ : Type := Nat → Nat → List mV → List mV → mS → mR
abbrev mC : Type := Nat → List mV → mS → mR
def goCmp (J : mJ) (u a b : Nat) (L r : List mV) (σ : mS) (c : ClassFile.Cond) (x y : Int) : mR := match c with
  | .eq => if x = y then J u a L r σ else J u b L r σ
  | .ne => if x = y then J u b L r σ else J u a L r σ
  | .lt => if x < y then J u a L r σ else J u b L r σ
  | .ge => if x < y then J u b L r σ else J u a L r σ
  | .gt => if y < x then J u a L r σ else J u b L r σ
  | .le => if y < x then J u b L r σ else J u a L r σ
def goRet (S : List mV) (σ : mS) (rt : Nat) : mR := match rt, S with
  | 0, [] => some (.inl none, σ)
  | 1, [.inl x] => some (.inl (some (vi x)), σ)
  | 2, [.inl x] => if bit? x = true then some (.inl (some (vi x)), σ) else none
  | 3, [.inr (.inr (.inr (.inl x)))] => some (.inl (some (vd x)), σ)
  | _, _ => none
def goRd (J : mJ) (u a : Nat) (L S : List mV) (σ : mS) (i : Instr) (scr : Nat) : mR := match i, S with
  | .iaload, .inl x :: .inr (.inl (some k)) :: r => match scr with
    | 0 => if 0 ≤ x ∧ x < alI σ k then J u a L (vi (σ.2 k x.toNat) :: r) σ else none
    | _ => match k with
      | 3 => if 0 ≤ x ∧ x < σ.2 4 0 then J u a L (vi (σ.2 3 x.toNat) :: r) σ else none
      | _ => none
  | .caload, .inl x :: .inr (.inl (some k)) :: r => if 0 ≤ x ∧ x < alK σ 2 k then J u a L (vi (σ.2 k x.toNat) :: r) σ else none
  | .laload, .inl x :: .inr (.inl (some k)) :: r => if 0 ≤ x ∧ x < alK σ 3 k then J u a L (vl (σ.2 k x.toNat) :: r) σ else none
  | .daload, .inl x :: .inr (.inl (some k)) :: r => if 0 ≤ x ∧ x < alK σ 4 k then J u a L (vd (UInt64.ofNat (σ.2 k x.toNat).toNat) :: r) σ else none
  | .arraylength, .inr (.inl (some k)) :: r => match scr with
    | 0 => if 0 < alA σ k then J u a L (vi (alA σ k) :: r) σ else none
    | _ => match k with
      | 3 => J u a L (vi (σ.2 4 0) :: r) σ
      | _ => none
  | .dadd, .inr (.inr (.inr (.inl y))) :: .inr (.inr (.inr (.inl x))) :: r => if nn64 (FP.dadd x y) = true then J u a L (vd (FP.dadd x y) :: r) σ else none
  | .ddiv, .inr (.inr (.inr (.inl y))) :: .inr (.inr (.inr (.inl x))) :: r => if nn64 (FP.ddiv x y) = true then J u a L (vd (FP.ddiv x y) :: r) σ else none
  | _, _ => none
def goWr (J : mJ) (u a : Nat) (L S : List mV) (σ : mS) (i : Instr) : mR := match i, S with
  | .iastore, .inl v :: .inl x :: .inr (.inl (some k)) :: r => if 0 ≤ x ∧ x < alK σ 1 k then J u a L r (σ.1, mset σ.2 k x.toNat v) else none
  | .castore, .inl v :: .inl x :: .inr (.inl (some k)) :: r => if (0 ≤ x ∧ x < alK σ 2 k) ∧ 0 ≤ v ∧ v < 65536 then J u a L r (σ.1, mset σ.2 k x.toNat v) else none
  | .lastore, .inr (.inr (.inl v)) :: .inl x :: .inr (.inl (some k)) :: r => if 0 ≤ x ∧ x < alK σ 3 k then J u a L r (σ.1, mset σ.2 k x.toNat v) else none
  | .dastore, .inr (.inr (.inr (.inl v))) :: .inl x :: .inr (.inl (some k)) :: r => if 0 ≤ x ∧ x < alK σ 4 k then J u a L r (σ.1, mset σ.2 k x.toNat (v.toNat : Int)) else none
  | .invokestatic _, .inl n :: .inl dp :: .inr (.inl (some kd)) :: .inl sp :: .inr (.inl (some ks)) :: r => if (sp = 0 ∧ dp = 0 ∧ r.length ≤ 20) ∧ 0 < n ∧ n ≤ alK σ 1 ks ∧ n ≤ alK σ 1 kd then J u a L r (σ.1, mcpy σ.2 ks kd n.toNat) else none
  | _, _ => none
def goNw (J : mJ) (u a b : Nat) (L S : List mV) (σ : mS) (i : Instr) (cm q : Nat) (fs : List Nat) : mR := match i, S with
  | .new _, S => match decide (u + 1 ≤ cm) with
    | true => J (u + 1) a L (vr σ.1.length :: S) (σ.1 ++ [(0, b, fs.map fun z => match z with | 0 => none | _ => some none)], mzero σ.2 σ.1.length)
    | false => none
  | .newarray _, .inl n :: r => match decide (u + 1 ≤ cm) && (decide (0 ≤ n) && decide (n ≤ 2100)) with
    | true => J (u + 1) a L (vr σ.1.length :: r) (σ.1 ++ [(q, n.toNat, [])], mzero σ.2 σ.1.length)
    | false => none
  | .invokevirtual _, .inr (.inl (some k)) :: r => match decide (u + 1 ≤ cm) && decide (r.length ≤ 20), σ.1[k]? with
    | true, some (5, n, _) => J (u + 1) a L (vr σ.1.length :: r) (σ.1 ++ [(1, n, [])], mclone σ.2 k σ.1.length)
    | _, _ => none
  | _, _ => none
/-- behind a block's straight part -/
def goT (J : mJ) (C : mC) (u : Nat) (L S : List mV) (σ : mS) (i : mI) : mR := match i.1 with
  | 1 => J u i.2.2.1 L S σ
  | 2 => J u i.2.2.1 L S σ
  | 3 => match i.2.1, S with
    | .ifCond c _, .inl x :: r => goCmp J u i.2.2.1 i.2.2.2.1 L r σ c x 0
    | .if_icmp c _, .inl y :: .inl x :: r => goCmp J u i.2.2.1 i.2.2.2.1 L r σ c x y
    | _, _ => none
  | 4 => match S with
    | .inl x :: r => J u (swT i.2.2.2.1 i.2.2.2.2.2 i.2.2.1 x) L r σ
    | _ => none
  | 5 => goRet S σ i.2.2.1
  | 6 => match i.2.2.2.2.2 with
    | n :: cc :: cm :: rc :: hs => match ((decide (n ≤ S.length) && decide (c2sum (S.drop n) ≤ 8)) && decide (u + cc ≤ cm)) && ((S.take n).all nj && rcvOk σ (S.take n).reverse rc) with
      | true => callK (C i.2.2.1 (S.take n).reverse σ) (fun v σ1 => J (u + cc) i.2.2.2.1 L (psh v (S.drop n)) σ1) (fun e σ1 => match hs.getD e 1 with
        | 0 => some (.inr e, σ1)
        | 1 => none
        | t + 2 => J (u + cc) t L [vj] σ1)
      | false => none
    | _ => none
  | 7 => match i.2.2.2.2.2 with
    | cm :: _ => match decide (u + 1 ≤ cm) && decide (S.length ≤ 20) with
      | true => some (.inr i.2.2.1, σ)
      | false => none
    | _ => none
  | 8 => goRd J u i.2.2.1 L S σ i.2.1 i.2.2.2.1
  | 9 => goWr J u i.2.2.1 L S σ i.2.1
  | 10 => match i.2.2.2.2.2 with
    | cm :: q :: fs => goNw J u i.2.2.1 i.2.2.2.1 L S σ i.2.1 cm q fs
    | _ => none
  | _ => none
/-- a method: its name, bytes, locals, answer's type, cost, arguments, handlers; its blocks -/
abbrev mMt : Type := (MethodName × ByteArray × Nat × Option FieldType × Nat × Nat × List (Nat × Nat × Nat × Nat)) × List mB
abbrev mP : Type := Nat → mMt
def pMask (P : mP) (m b : Nat) : List Bool := match (P m).2[b]? with
  | some q => q.2.1
  | none => []
def pPad (P : mP) (m : Nat) (as : List mV) : List mV := as ++ List.replicate ((P m).1.2.2.1 - as.length) vj
def goB (J : mJ) (C : mC) (u : Nat) (code : List mI) (st : mSt) : mR := match runS code st with
  | none => none
  | some (st', i) => goT J C u st'.1 st'.2.1 st'.2.2 i
def goP (P : mP) (m : Nat) (J : mJ) (C : mC) (u b : Nat) (L S : List mV) (σ : mS) : mR := match (P m).2[b]? with
  | none => none
  | some q => goB (fun u' b' L1 S1 σ1 => J u' b' (msk (pMask P m b') L1) S1 σ1) C u q.2.2 (L, S, σ)
def dcas (d : Nat) (f : Nat → mC) : mC := match d with
  | 0 => fun _ _ _ => none
  | d' + 1 => f d'
def exec (P : mP) : Nat → Nat → Nat → mJ
  | 0, _, _ => fun _ _ _ _ _ => none
  | n + 1, d, m => fun u b L S σ => goP P m (exec P n d m) (dcas d fun d' a as σ1 => exec P n d' a 0 0 (pPad P a as) [] σ1) u b L S σ
noncomputable def ev (P : mP) (d m : Nat) : mJ := fun u b L S σ =>
  @dite mR (∃ n, (exec P n d m u b L S σ).isSome = true) (Classical.propDecidable _) (fun h => exec P (Classical.choose h) d m u b L S σ) (fun _ => none)
noncomputable def run (P : mP) (d m : Nat) (as : List mV) (σ : mS) : mR := ev P d m 0 0 (pPad P m as) [] σ
noncomputable def evC (P : mP) (d : Nat) : mC := dcas d fun d' a as σ => run P d' a as σ
/-! its laws -/
def leR (x y : mR) : Prop := ∀ r, x = some r → y = some r
theorem leR.rf (x : mR) : leR x x := fun _ h => h
theorem leR.none (x : mR) : leR none x := fun _ h => by cases h
theorem leR.ite {c : Prop} [Decidable c] {a a' b b' : mR} (h1 : leR a a') (h2 : leR b b') : leR (if c then a else b) (if c then a' else b') := by
  by_cases h : c
  · rw [if_pos h, if_pos h]; exact h1
  · rw [if_neg h, if_neg h]; exact h2
def leJ (J J' : mJ) : Prop := ∀ u b L S σ, leR (J u b L S σ) (J' u b L S σ)
def leC (C C' : mC) : Prop := ∀ a as σ, leR (C a as σ) (C' a as σ)
theorem callK_mono {x x' : mR} {k k' : Option mV → mS → mR} {z z' : Nat → mS → mR} (h : leR x x') (hk : ∀ v σ, leR (k v σ) (k' v σ)) (hz : ∀ e σ, leR (z e σ) (z' e σ)) : leR (callK x k z) (callK x' k' z') := by
  intro r hr
  cases x with
  | none => cases hr
  | some q =>
    have e := h q rfl
    rw [e]
    obtain ⟨o, σ⟩ := q
    cases o with
    | inl v => exact hk v σ r hr
    | inr v => exact hz v σ r hr
theorem goT_mono {J J' : mJ} {C C' : mC} (hJ : leJ J J') (hC : leC C C') (u : Nat) (L S : List mV) (σ : mS) (i : mI) : leR (goT J C u L S σ i) (goT J' C' u L S σ i) := by
  unfold goT
  split
  · exact hJ _ _ _ _ _
  · exact hJ _ _ _ _ _
  · split
    · unfold goCmp; split <;> exact leR.ite (hJ _ _ _ _ _) (hJ _ _ _ _ _)
    · unfold goCmp; split <;> exact leR.ite (hJ _ _ _ _ _) (hJ _ _ _ _ _)
    · exact leR.none _
  · split
    · exact hJ _ _ _ _ _
    · exact leR.none _
  · exact leR.rf _
  · split
    · split
      · refine callK_mono (hC _ _ _) (fun v σ => hJ _ _ _ _ _) (fun e σ => ?_)
        split
        · exact leR.rf _
        · exact leR.none _
        · exact hJ _ _ _ _ _
      · exact leR.none _
    · exact leR.none _
  · exact leR.rf _
  · unfold goRd
    split
    all_goals first
      | exact leR.none _
      | exact leR.ite (hJ _ _ _ _ _) (leR.none _)
      | (split <;> first
          | exact leR.ite (hJ _ _ _ _ _) (leR.none _)
          | exact hJ _ _ _ _ _
          | exact leR.none _
          | (split <;> first
              | exact leR.ite (hJ _ _ _ _ _) (leR.none _)
              | exact hJ _ _ _ _ _
              | exact leR.none _))
  · unfold goWr
    split
    all_goals first
      | exact leR.none _
      | exact leR.ite (hJ _ _ _ _ _) (leR.none _)
  · split
    · unfold goNw
      split
      all_goals first
        | exact leR.none _
        | (split <;> first
            | exact hJ _ _ _ _ _
            | exact leR.none _)
    · exact leR.none _
  · exact leR.none _
end
section
theorem goB_mono {J J' : mJ} {C C' : mC} (hJ : leJ J J') (hC : leC C C') (u : Nat) (code : List mI) (st : mSt) : leR (goB J C u code st) (goB J' C' u code st) := by
  unfold goB
  split
  · exact leR.none _
  · exact goT_mono hJ hC _ _ _ _ _
theorem goP_mono {P : mP} {m : Nat} {J J' : mJ} {C C' : mC} (hJ : leJ J J') (hC : leC C C') : leJ (goP P m J C) (goP P m J' C') := by
  intro u b L S σ
  unfold goP
  split
  · exact leR.none _
  · exact goB_mono (fun u' b' L1 S1 σ1 => hJ _ _ _ _ _) hC _ _ _
theorem exec_step (P : mP) : ∀ n d m, leJ (exec P n d m) (exec P (n + 1) d m) := by
  intro n
  induction n with
  | zero => intro d m u b L S σ; exact leR.none _
  | succ n ih =>
    intro d m
    show leJ (goP P m (exec P n d m) _) (goP P m (exec P (n + 1) d m) _)
    refine goP_mono (ih d m) ?_
    cases d with
    | zero => intro a as σ; exact leR.rf _
    | succ d => intro a as σ; exact ih d a _ _ _ _ _
theorem exec_le (P : mP) {n k : Nat} (h : n ≤ k) (d m : Nat) : leJ (exec P n d m) (exec P k d m) := by
  induction h with
  | refl => intro u b L S σ; exact leR.rf _
  | step _ ih => intro u b L S σ r hr; exact exec_step P _ d m u b L S σ r (ih u b L S σ r hr)
theorem ev_of {P : mP} {n d m u b : Nat} {L S : List mV} {σ : mS} {r : mO × mS} (h : exec P n d m u b L S σ = some r) : ev P d m u b L S σ = some r := by
  have hx : ∃ n, (exec P n d m u b L S σ).isSome = true := ⟨n, by rw [h]; rfl⟩
  have h1 : ev P d m u b L S σ = exec P (Classical.choose hx) d m u b L S σ := by
    show @dite mR _ (Classical.propDecidable _) _ _ = _
    rw [dif_pos hx]
  rw [h1]
  obtain ⟨q, hq⟩ := Option.isSome_iff_exists.mp (Classical.choose_spec hx)
  have e1 := exec_le P (Nat.le_max_left n (Classical.choose hx)) d m u b L S σ r h
  have e2 := exec_le P (Nat.le_max_right n (Classical.choose hx)) d m u b L S σ q hq
  rw [hq, ← e2, e1]
theorem ev_ex {P : mP} {d m u b : Nat} {L S : List mV} {σ : mS} {r : mO × mS} (h : ev P d m u b L S σ = some r) : ∃ n, exec P n d m u b L S σ = some r := by
  by_cases hx : ∃ n, (exec P n d m u b L S σ).isSome = true
  · have h1 : ev P d m u b L S σ = exec P (Classical.choose hx) d m u b L S σ := by
      show @dite mR _ (Classical.propDecidable _) _ _ = _
      rw [dif_pos hx]
    exact ⟨_, h1.symm.trans h⟩
  · have h1 : ev P d m u b L S σ = none := by
      show @dite mR _ (Classical.propDecidable _) _ _ = _
      rw [dif_neg hx]
    rw [h1] at h
    cases h
theorem goT_lim {J : mJ} {C : mC} (Jn : Nat → mJ) (Cn : Nat → mC) (mJn : ∀ n k, n ≤ k → leJ (Jn n) (Jn k)) (mCn : ∀ n k, n ≤ k → leC (Cn n) (Cn k))
    (hJ : ∀ u b L S σ r, J u b L S σ = some r → ∃ n, Jn n u b L S σ = some r) (hC : ∀ a as σ r, C a as σ = some r → ∃ n, Cn n a as σ = some r)
    (u : Nat) (L S : List mV) (σ : mS) (i : mI) (r : mO × mS) (h : goT J C u L S σ i = some r) : ∃ n, goT (Jn n) (Cn n) u L S σ i = some r := by
  have ite1 : ∀ {c : Prop} [Decidable c] {a b : mR} {f g : Nat → mR}, (if c then a else b) = some r → (a = some r → ∃ n, f n = some r) → (b = some r → ∃ n, g n = some r) → ∃ n, (if c then f n else g n) = some r := by
    intro c _ a b f g h ha hb
    by_cases hc : c
    · rw [if_pos hc] at h; obtain ⟨n, hn⟩ := ha h; exact ⟨n, by rw [if_pos hc]; exact hn⟩
    · rw [if_neg hc] at h; obtain ⟨n, hn⟩ := hb h; exact ⟨n, by rw [if_neg hc]; exact hn⟩
  have cmp : ∀ (c : ClassFile.Cond) (a b : Nat) (r1 : List mV) (x y : Int), goCmp J u a b L r1 σ c x y = some r → ∃ n, goCmp (Jn n) u a b L r1 σ c x y = some r := by
    intro c a b r1 x y h
    unfold goCmp at h ⊢
    cases c <;> exact ite1 h (hJ _ _ _ _ _ _) (hJ _ _ _ _ _ _)
  have nn : ∀ {f : Nat → mR}, (none : mR) = some r → ∃ n, f n = some r := fun h => by cases h
  unfold goT at h ⊢
  split at h
  · exact hJ _ _ _ _ _ _ h
  · exact hJ _ _ _ _ _ _ h
  · split at h
    · exact cmp _ _ _ _ _ _ h
    · exact cmp _ _ _ _ _ _ h
    · cases h
  · split at h
    · exact hJ _ _ _ _ _ _ h
    · cases h
  · exact ⟨0, h⟩
  · split at h
    · split at h
      · rename_i n cc cm rc hs _ _ hd
        cases hc : C i.2.2.1 (S.take n).reverse σ with
        | none => rw [hc] at h; cases h
        | some q =>
          obtain ⟨n1, h1⟩ := hC _ _ _ _ hc
          rw [hc] at h
          obtain ⟨o, σ1⟩ := q
          cases o with
          | inl v =>
            obtain ⟨n2, h2⟩ := hJ _ _ _ _ _ _ (show J _ _ _ _ _ = some r from h)
            refine ⟨max n1 n2, ?_⟩
            show callK (Cn (max n1 n2) _ _ _) _ _ = _
            rw [mCn _ _ (Nat.le_max_left n1 n2) _ _ _ _ h1]
            exact mJn _ _ (Nat.le_max_right n1 n2) _ _ _ _ _ _ h2
          | inr e =>
            have h' : (match hs.getD e 1 with
              | 0 => (some (.inr e, σ1) : mR)
              | 1 => none
              | t + 2 => J (u + cc) t L [vj] σ1) = some r := h
            cases ht : hs.getD e 1 with
            | zero =>
              rw [ht] at h'
              refine ⟨n1, ?_⟩
              show callK (Cn n1 _ _ _) _ _ = _
              rw [h1]
              show (match hs.getD e 1 with
              | 0 => (some (.inr e, σ1) : mR)
              | 1 => none
              | t + 2 => Jn n1 (u + cc) t L [vj] σ1) = some r
              rw [ht]
              exact h'
            | succ t =>
              rw [ht] at h'
              cases t with
              | zero => cases h'
              | succ t =>
              obtain ⟨n2, h2⟩ := hJ _ _ _ _ _ _ h'
              refine ⟨max n1 n2, ?_⟩
              show callK (Cn (max n1 n2) _ _ _) _ _ = _
              rw [mCn _ _ (Nat.le_max_left n1 n2) _ _ _ _ h1]
              show (match hs.getD e 1 with
              | 0 => (some (.inr e, σ1) : mR)
              | 1 => none
              | t + 2 => Jn (max n1 n2) (u + cc) t L [vj] σ1) = some r
              rw [ht]
              exact mJn _ _ (Nat.le_max_right n1 n2) _ _ _ _ _ _ h2
      · cases h
    · cases h
  · exact ⟨0, h⟩
  · unfold goRd at h ⊢
    split at h
    all_goals first
      | cases h; done
      | exact ite1 h (hJ _ _ _ _ _ _) nn
      | (split at h <;> first
          | exact ite1 h (hJ _ _ _ _ _ _) nn
          | exact hJ _ _ _ _ _ _ h
          | (cases h; done)
          | (split at h <;> first
              | exact ite1 h (hJ _ _ _ _ _ _) nn
              | exact hJ _ _ _ _ _ _ h
              | (cases h; done)))
  · unfold goWr at h ⊢
    split at h
    all_goals first
      | (cases h; done)
      | exact ite1 h (hJ _ _ _ _ _ _) nn
  · split at h
    · unfold goNw at h ⊢
      split at h
      all_goals first
        | (cases h; done)
        | (split at h <;> first
            | exact hJ _ _ _ _ _ _ h
            | (cases h; done))
    · cases h
  · cases h
theorem goP_lim {P : mP} {m : Nat} {J : mJ} {C : mC} (Jn : Nat → mJ) (Cn : Nat → mC) (mJn : ∀ n k, n ≤ k → leJ (Jn n) (Jn k)) (mCn : ∀ n k, n ≤ k → leC (Cn n) (Cn k))
    (hJ : ∀ u b L S σ r, J u b L S σ = some r → ∃ n, Jn n u b L S σ = some r) (hC : ∀ a as σ r, C a as σ = some r → ∃ n, Cn n a as σ = some r)
    (u b : Nat) (L S : List mV) (σ : mS) (r : mO × mS) (h : goP P m J C u b L S σ = some r) : ∃ n, goP P m (Jn n) (Cn n) u b L S σ = some r := by
  unfold goP at h ⊢
  split at h
  · cases h
  · unfold goB at h ⊢
    split at h
    · cases h
    · exact goT_lim (fun n u' b' L1 S1 σ1 => Jn n u' b' (msk (pMask P m b') L1) S1 σ1) Cn (fun n k h u b L S σ => mJn n k h _ _ _ _ _) mCn (fun u b L S σ r h => hJ _ _ _ _ _ _ h) hC _ _ _ _ _ _ h
theorem ev_eq (P : mP) (d m u b : Nat) (L S : List mV) (σ : mS) : ev P d m u b L S σ = goP P m (ev P d m) (evC P d) u b L S σ := by
  have h1 : leR (ev P d m u b L S σ) (goP P m (ev P d m) (evC P d) u b L S σ) := by
    intro r hr
    obtain ⟨n, hn⟩ := ev_ex hr
    cases n with
    | zero => cases hn
    | succ n =>
      refine goP_mono (J := exec P n d m) (fun u b L S σ r h => ev_of h) ?_ u b L S σ r hn
      cases d with
      | zero => intro a as σ; exact leR.none _
      | succ d => intro a as σ r h; exact ev_of h
  have h2 : leR (goP P m (ev P d m) (evC P d) u b L S σ) (ev P d m u b L S σ) := by
    intro r hr
    obtain ⟨n, hn⟩ := goP_lim (fun n => exec P n d m) (fun n => dcas d fun d' a as σ1 => exec P n d' a 0 0 (pPad P a as) [] σ1) (fun n k h => exec_le P h d m) (fun n k h => by
        cases d with
        | zero => intro a as σ; exact leR.rf _
        | succ d => intro a as σ; exact exec_le P h d a _ _ _ _ _) (fun u b L S σ r h => ev_ex h) (fun a as σ r h => by
        cases d with
        | zero => cases h
        | succ d => exact ev_ex h) u b L S σ r hr
    exact ev_of (n := n + 1) hn
  cases ha : ev P d m u b L S σ with
  | some r => exact (h1 r ha).symm
  | none =>
    cases hb : goP P m (ev P d m) (evC P d) u b L S σ with
    | none => rfl
    | some r => rw [h2 r hb] at ha; cases ha
end
section
def inR (x : Int) : Prop := -2147483648 ≤ x ∧ x < 2147483648
theorem wr_toInt (x : Int) : (Int32.ofInt x).toInt = wr x := by
  rw [Int32.toInt_ofInt]; rfl
theorem wr_inR (x : Int) : inR (wr x) := by
  unfold wr inR
  have h1 := @Int.le_bmod x 4294967296 (by decide)
  have h2 := @Int.bmod_lt x 4294967296 (by decide)
  exact ⟨by omega, by omega⟩
theorem wr_id {x : Int} (h : inR x) : wr x = x := by
  unfold wr inR at *
  rw [Int.bmod_eq_of_le] <;> omega
theorem ofI_toInt {x : Int} (h : inR x) : (Int32.ofInt x).toInt = x := by rw [wr_toInt, wr_id h]
theorem ofI_wr (x : Int) : Int32.ofInt (wr x) = Int32.ofInt x := by
  apply Int32.toInt_inj.mp
  rw [wr_toInt, wr_toInt, wr_id (wr_inR x)]
theorem toI_inR (x : Int32) : inR x.toInt := ⟨Int32.le_toInt x, Int32.toInt_lt x⟩
theorem ofI_of (x : Int32) : Int32.ofInt x.toInt = x := Int32.ofInt_toInt x
theorem ofI_add (x y : Int) : Int32.ofInt x + Int32.ofInt y = Int32.ofInt (wr (x + y)) := by rw [ofI_wr, Int32.ofInt_add]
theorem ofI_sub (x y : Int) : Int32.ofInt x - Int32.ofInt y = Int32.ofInt (wr (x - y)) := by rw [ofI_wr, Int32.ofInt_sub]
theorem ofI_mul (x y : Int) : Int32.ofInt x * Int32.ofInt y = Int32.ofInt (wr (x * y)) := by rw [ofI_wr, Int32.ofInt_mul]
theorem ofI_neg (x : Int) : -Int32.ofInt x = Int32.ofInt (wr (-x)) := by rw [ofI_wr, Int32.ofInt_neg]
theorem ofI_lt {x y : Int} (hx : inR x) (hy : inR y) : Int32.ofInt x < Int32.ofInt y ↔ x < y := by
  rw [Int32.lt_iff_toInt_lt, ofI_toInt hx, ofI_toInt hy]
theorem ofI_le {x y : Int} (hx : inR x) (hy : inR y) : Int32.ofInt x ≤ Int32.ofInt y ↔ x ≤ y := by
  rw [Int32.le_iff_toInt_le, ofI_toInt hx, ofI_toInt hy]
theorem ofI_eq {x y : Int} (hx : inR x) (hy : inR y) : Int32.ofInt x = Int32.ofInt y ↔ x = y := by
  rw [← Int32.toInt_inj, ofI_toInt hx, ofI_toInt hy]
theorem inR_0 : inR 0 := by unfold inR; omega
theorem ofI_0 : Int32.ofInt 0 = 0 := rfl
theorem ofI_clamp {x : Int} (h : inR x) : (Int32.ofInt x).toNatClampNeg = x.toNat := by
  show (Int32.ofInt x).toInt.toNat = _
  rw [ofI_toInt h]
theorem ofI_in {x : Int} {n : Nat} (h : inR x) (h0 : 0 ≤ x) (hn : x < n) : vp_in (Int32.ofInt x) n := by
  rw [vp_in_iff, ofI_toInt h]
  exact ⟨h0, hn⟩
theorem ofI_tdiv {x y : Int} (hx : inR x) (hy : inR y) (h0 : 0 < y) : Int32.ofInt x / Int32.ofInt y = Int32.ofInt (x.tdiv y) := by
  apply Int32.toInt_inj.mp
  have h2 : inR (x.tdiv y) := by
    have h3 := Int.natAbs_tdiv_le_natAbs x y
    by_cases hx0 : 0 ≤ x
    · have := Int.tdiv_nonneg hx0 (Int.le_of_lt h0)
      unfold inR at *; omega
    · have h5 : x.tdiv y ≤ 0 := by
        have h6 : 0 ≤ (-x).tdiv y := Int.tdiv_nonneg (by omega) (Int.le_of_lt h0)
        rw [Int.neg_tdiv] at h6
        omega
      unfold inR at *; omega
  rw [Int32.toInt_div, ofI_toInt hx, ofI_toInt hy, ofI_toInt h2]
  exact wr_id h2
theorem tdiv_inR {x y : Int} (hx : inR x) (h0 : 0 < y) : inR (x.tdiv y) := by
  have h3 := Int.natAbs_tdiv_le_natAbs x y
  by_cases hx0 : 0 ≤ x
  · have := Int.tdiv_nonneg hx0 (Int.le_of_lt h0)
    unfold inR at *; omega
  · have h5 : x.tdiv y ≤ 0 := by
      have h6 : 0 ≤ (-x).tdiv y := Int.tdiv_nonneg (by omega) (Int.le_of_lt h0)
      rw [Int.neg_tdiv] at h6
      omega
    unfold inR at *; omega
theorem tmod_inR {x y : Int} (hy : inR y) (h0 : 0 < y) : inR (x.tmod y) := by
  have h := tmod_bounds (a := x) h0
  unfold inR at *; omega
theorem ofI_tmod {x y : Int} (hx : inR x) (hy : inR y) (h0 : 0 < y) : Int32.ofInt x - Int32.ofInt x / Int32.ofInt y * Int32.ofInt y = Int32.ofInt (x.tmod y) := by
  rw [ofI_tdiv hx hy h0, ofI_mul, ofI_sub, ofI_wr]
  apply Int32.toInt_inj.mp
  rw [wr_toInt, wr_toInt]
  have h1 := Int.mul_tdiv_add_tmod x y
  have h2 : x - wr (x.tdiv y * y) = x.tmod y + (x.tdiv y * y - wr (x.tdiv y * y)) := by
    rw [Int.mul_comm] at h1
    omega
  rw [h2]
  unfold wr
  rw [show x.tmod y + (x.tdiv y * y - (x.tdiv y * y).bmod 4294967296) = x.tmod y + x.tdiv y * y - (x.tdiv y * y).bmod 4294967296 by omega]
  rw [Int.sub_bmod_bmod]
  congr 1
  omega
theorem ofI_max {x y : Int} (hx : inR x) (hy : inR y) : (if Int32.ofInt x < Int32.ofInt y then Int32.ofInt y else Int32.ofInt x) = Int32.ofInt (if x < y then y else x) := by
  by_cases h : x < y
  · rw [if_pos h, if_pos ((ofI_lt hx hy).mpr h)]
  · rw [if_neg h, if_neg (fun q => h ((ofI_lt hx hy).mp q))]
theorem ofI_min {x y : Int} (hx : inR x) (hy : inR y) : (if Int32.ofInt y < Int32.ofInt x then Int32.ofInt y else Int32.ofInt x) = Int32.ofInt (if y < x then y else x) := by
  by_cases h : y < x
  · rw [if_pos h, if_pos ((ofI_lt hy hx).mpr h)]
  · rw [if_neg h, if_neg (fun q => h ((ofI_lt hy hx).mp q))]
theorem ofI_abs {x : Int} (hx : inR x) : (if 0 ≤ Int32.ofInt x then Int32.ofInt x else 0 - Int32.ofInt x) = Int32.ofInt (wr (x.natAbs : Int)) := by
  have h0 : (0 ≤ Int32.ofInt x) ↔ 0 ≤ x := ofI_le (x := 0) inR_0 hx
  by_cases h : 0 ≤ x
  · rw [if_pos (h0.mpr h), ofI_wr]
    congr 1
    omega
  · rw [if_neg (fun q => h (h0.mp q)), show (0 : Int32) = Int32.ofInt 0 from rfl, ofI_sub, ofI_wr, ofI_wr]
    congr 1
    omega
theorem ofL_toInt {x : Int} (hx : inR x) : (Int64.ofInt x).toInt = x := by
  rw [Int64.toInt_ofInt]
  unfold inR at hx
  show Int.bmod x 18446744073709551616 = x
  rw [Int.bmod_eq_of_le] <;> omega
theorem ofI_i2l {x : Int} (hx : inR x) : (Int32.ofInt x).toInt64 = Int64.ofInt x := by
  apply Int64.toInt_inj.mp
  rw [Int32.toInt_toInt64, ofI_toInt hx, ofL_toInt hx]
theorem cmpL_inR (x y : Int) : inR (cmpL x y) := by
  unfold cmpL inR
  split
  · omega
  · split <;> omega
theorem ofL_cmp {x y : Int} (hx : inR x) (hy : inR y) : lg_cmp (Int64.ofInt x) (Int64.ofInt y) = Int32.ofInt (cmpL x y) := by
  unfold lg_cmp cmpL
  simp only [Int64.lt_iff_toInt_lt, ← Int64.toInt_inj, ofL_toInt hx, ofL_toInt hy]
  by_cases h1 : x < y
  · have h2 : ¬ y < x := by omega
    have h3 : ¬ x = y := by omega
    rw [if_neg h2, if_neg h3, if_pos h1]
    rfl
  · by_cases h2 : x = y
    · simp [h2]
    · have h3 : y < x := by omega
      simp [h1, h2, h3]
theorem bv_mod (X : Int32) : ∃ q : Int, X.toInt = (X.toBitVec.toNat : Int) + 4294967296 * q := by
  have h : X.toInt = X.toBitVec.toInt := rfl
  rw [h, BitVec.toInt_eq_toNat_cond]
  split
  · exact ⟨0, by omega⟩
  · exact ⟨-1, by omega⟩
theorem ofI_and63 {x : Int} (hx : inR x) : Int32.ofInt x &&& Int32.ofInt 63 = Int32.ofInt (x % 64) := by
  rw [pk_and (Int32.ofInt x) (m := Int32.ofInt 63) 6 (by decide)]
  obtain ⟨q, hq⟩ := bv_mod (Int32.ofInt x)
  rw [ofI_toInt hx] at hq
  show Int32.ofNat _ = _
  rw [← Int32.ofInt_eq_ofNat]
  congr 1
  omega
theorem ofI_i2c {x : Int} (hx : inR x) : ((Int32.ofInt x).toUInt32 % 65536).toInt32 = Int32.ofInt (x % 65536) := by
  rw [pk_char]
  obtain ⟨q, hq⟩ := bv_mod (Int32.ofInt x)
  rw [ofI_toInt hx] at hq
  show Int32.ofNat _ = _
  rw [← Int32.ofInt_eq_ofNat]
  congr 1
  omega
end
section
/-! THE SMALL MACHINE'S STATE IN THE HEAP -/
abbrev mcl : List vw_C := [(RX0, TX0, 5), (RX1, TX1, 2), (RX2, TX2, 6), (RX3, TX3, 9), (RX4, TX4, 10), (RX5, TX5, 5), (RX6, TX6, 4), (RX7, TX7, 7), (RX8, TX8, 12), (RX9, TX9, 6), (RX10, TX10, 19)]
def mty (k : Nat) : Nat → FieldType := match k with
  | 0 => tyX0
  | 1 => tyX1
  | 2 => tyX2
  | 3 => tyX3
  | 4 => tyX4
  | 5 => tyX5
  | 6 => tyX6
  | 7 => tyX7
  | 8 => tyX8
  | 9 => tyX9
  | _ => tyX10
def lw_gd : List Cond := lw_tbl.filter goodWord
def mNg (w : Cond) : Bool := match w with
  | .methodLinkNest .. => true
  | .fieldLinkNest .. => true
  | .declares .. => true
  | .castable .. => true
  | _ => false
def lw_ng : List Cond := lw_tbl.filter mNg
theorem gd_mem {w : Cond} {i : Nat} (h : lw_tbl[i]? = some w) (hg : goodWord w = true) : w ∈ lw_gd := List.mem_filter.mpr ⟨List.mem_of_getElem? h, hg⟩
theorem ng_mem {w : Cond} {i : Nat} (h : lw_tbl[i]? = some w) (hg : mNg w = true) : w ∈ lw_ng := List.mem_filter.mpr ⟨List.mem_of_getElem? h, hg⟩
theorem gd_good : ∀ w ∈ lw_gd, goodWord w = true := fun w h => (List.mem_filter.mp h).2
theorem gd_all {ws : List Cond} (h : ws.all (fun w => decide (w ∈ lw_tbl) && goodWord w) = true) : ∀ w ∈ ws, w ∈ lw_gd := fun w hw => by
  have h1 := List.all_eq_true.mp h w hw
  simp only [Bool.and_eq_true, decide_eq_true_eq] at h1
  exact List.mem_filter.mpr h1
theorem mcl_ws : ∀ (c : Nat) (q : vw_C), mcl[c]? = some q → ∀ w ∈ u_ws q.1 q.2.1 q.2.2, w ∈ lw_gd := by
  intro c q hq
  match c, hq with
  | 0, hq => cases hq; exact gd_all (by decide +kernel)
  | 1, hq => cases hq; exact gd_all (by decide +kernel)
  | 2, hq => cases hq; exact gd_all (by decide +kernel)
  | 3, hq => cases hq; exact gd_all (by decide +kernel)
  | 4, hq => cases hq; exact gd_all (by decide +kernel)
  | 5, hq => cases hq; exact gd_all (by decide +kernel)
  | 6, hq => cases hq; exact gd_all (by decide +kernel)
  | 7, hq => cases hq; exact gd_all (by decide +kernel)
  | 8, hq => cases hq; exact gd_all (by decide +kernel)
  | 9, hq => cases hq; exact gd_all (by decide +kernel)
  | 10, hq => cases hq; exact gd_all (by decide +kernel)
  | k + 11, hq => simp [mcl] at hq
theorem mcl_ty : ∀ (c : Nat) (q : vw_C), mcl[c]? = some q → (∀ k, k < q.2.2 → parseFieldDescriptor (q.2.1 k).2.2.1 = some (mty c k)) ∧ (∀ a, a < q.2.2 → ∀ b, b < q.2.2 → a ≠ b → (q.2.1 a).2.1 ≠ (q.2.1 b).2.1) := by
  intro c q hq
  match c, hq with
  | 0, hq => cases hq; exact ⟨tyX0_ok, nmX0⟩
  | 1, hq => cases hq; exact ⟨tyX1_ok, nmX1⟩
  | 2, hq => cases hq; exact ⟨tyX2_ok, nmX2⟩
  | 3, hq => cases hq; exact ⟨tyX3_ok, nmX3⟩
  | 4, hq => cases hq; exact ⟨tyX4_ok, nmX4⟩
  | 5, hq => cases hq; exact ⟨tyX5_ok, nmX5⟩
  | 6, hq => cases hq; exact ⟨tyX6_ok, nmX6⟩
  | 7, hq => cases hq; exact ⟨tyX7_ok, nmX7⟩
  | 8, hq => cases hq; exact ⟨tyX8_ok, nmX8⟩
  | 9, hq => cases hq; exact ⟨tyX9_ok, nmX9⟩
  | 10, hq => cases hq; exact ⟨tyX10_ok, nmX10⟩
  | k + 11, hq => simp [mcl] at hq
def vv (ad : Nat → Nat) : mV → Value
  | .inl x => .int (Int32.ofInt x)
  | .inr (.inl none) => .null
  | .inr (.inl (some k)) => .ref (ad k)
  | .inr (.inr (.inl x)) => .long (Int64.ofInt x)
  | .inr (.inr (.inr (.inl x))) => .double x
  | .inr (.inr (.inr (.inr ()))) => .null
def okV (n : Nat) : mV → Prop
  | .inl x => inR x
  | .inr (.inl (some k)) => k < n
  | .inr (.inr (.inl x)) => inR x
  | _ => True
theorem vv_cat (ad : Nat → Nat) (v : mV) : (vv ad v).category = match c2 v with
  | true => 2
  | false => 1 := by
  rcases v with x | (_ | k) | x | x | u <;> rfl
/-- on the stack: what isn't known is some reference -/
def sv (ad : Nat → Nat) (v : mV) (x : Value) : Prop := x = vv ad v ∨ (v = vj ∧ ∃ q, x = .ref q)
theorem sv_cat {ad : Nat → Nat} {v : mV} {x : Value} (h : sv ad v x) : x.category = match c2 v with
  | true => 2
  | false => 1 := by
  rcases h with h | ⟨h, q, hq⟩
  · rw [h]; exact vv_cat ad v
  · rw [h, hq]; rfl
def sR (ad : Nat → Nat) (n : Nat) : List mV → List Value → Prop
  | [], [] => True
  | v :: S, x :: st => (sv ad v x ∧ okV n v) ∧ sR ad n S st
  | _, _ => False
def lR (ad : Nat → Nat) (n : Nat) (L : List mV) (ls : Array Slot) (nL : Nat) : Prop :=
  L.length ≤ nL ∧ ∃ lv, lv_has ls nL lv ∧ ∀ (i : Nat) (v : mV), L[i]? = some v → v ≠ vj → okV n v ∧ (i, vv ad v) ∈ lv
def mE (aC : FieldType → ClassId) (ad : Nat → Nat) (sh : mSh) (f : Nat → Int) : va_E := match sh with
  | (0, ci, fs) => .inr (ci, (List.range fs.length).map fun j => match fs[j]? with
    | some (some t) => vv ad (.inr (.inl t))
    | _ => .int (Int32.ofInt (f j)))
  | (1, n, _) => .inl (aC .int, n, .inl fun j => Int32.ofInt (f j))
  | (2, n, _) => .inl (aC .char, n, .inl fun j => Int32.ofInt (f j))
  | (3, n, _) => .inl (aC .long, n, .inr (.inl fun j => Int64.ofInt (f j)))
  | (_, n, _) => .inl (aC .double, n, .inr (.inr (.inr (.inl fun j => UInt64.ofNat (f j).toNat))))
def mws (aC : FieldType → ClassId) (ad : Nat → Nat) (σ : mS) : va_W := (List.range (σ.1.length - 5)).map fun i => (ad (i + 5), mE aC ad (σ.1.getD (i + 5) (9, 0, [])) (σ.2 (i + 5)))
def mRo : List mSh := [(5, 6, []), (5, 6, []), (5, 6, []), (6, 0, []), (7, 0, [])]
def mShOk (n : Nat) (sh : mSh) : Prop := match sh with
  | (0, ci, fs) => (∃ q : vw_C, mcl[ci]? = some q ∧ q.2.2 = fs.length) ∧ ∀ t, some (some t) ∈ fs → t < n
  | (k, q, _) => k ≤ 4 ∧ q ≤ 2100
def mWf (σ : mS) : Prop := 5 ≤ σ.1.length ∧ σ.1.take 5 = mRo ∧ ∀ k sh, 5 ≤ k → σ.1[k]? = some sh → mShOk σ.1.length sh
def mRg (σ : mS) : Prop := ∀ k j, (∀ sh, σ.1[k]? = some sh → sh.1 ≠ 4) → inR (σ.2 k j)
def mWd (D : va_G) (aC : FieldType → ClassId) (ad : Nat → Nat) (σ : mS) (A : Nat → Prop) (H : Heap) : Prop :=
  va_P D mcl (mws aC ad σ) H ∧ va_D A (mws aC ad σ) ∧ mWf σ ∧ mRg σ
def mTy (aC : FieldType → ClassId) : List (ClassId × FieldType) := [(aC .int, .int), (aC .char, .char), (aC .long, .long), (aC .double, .double)]
/-- the five kinds of exceptions -/
def exN (e : Nat) : String := match e with
  | 0 => "java/lang/IllegalArgumentException"
  | 1 => "java/lang/IllegalStateException"
  | 2 => "java/util/NoSuchElementException"
  | 3 => "java/lang/IndexOutOfBoundsException"
  | _ => "java/lang/ArithmeticException"
def mKn (D : va_G) (aC : FieldType → ClassId) (U : State) : Prop :=
  va_K D mcl (mTy aC) U ∧ (∀ w ∈ lw_ng, va_Nw w U) ∧ (∀ own k tx, Cond.stringRef own k tx ∈ lw_tbl → ∃ a, vk_R own k tx a U) ∧ ∀ i j, i < 5 → j < 5 → i ≠ j → va_Nc (exN i) (exN j) U
/-- an array that nobody writes, as the Statement has it -/
def mT (t : Nat) (f : Nat → Int) (A : Nat → Prop) (U : State) (H : Heap) : Prop := va_T .int t 6 (fun j => .int (Int32.ofInt (f j))) A U H ∧ ∃ cell : Cell, H[t]? = some cell ∧ cell.slots.size = 6 ∧ U.vm.findClass "[I" = some cell.cls
def mSt0 (A : Nat → Prop) (ad : Nat → Nat) (M : mM) (U : State) (H : Heap) : Prop :=
  va_Z "SpatialPoints" "FIRST_VALUES" "[I" (.ref (ad 0)) A U H ∧ va_Z "SpatialPoints" "LEAST_VALUES" "[I" (.ref (ad 1)) A U H ∧ va_Z "SpatialPoints" "GREATEST_VALUES" "[I" (.ref (ad 2)) A U H ∧
  (∀ k, k < 3 → mT (ad k) (M k) A U H) ∧ vx_Zq Bundle.tN "UNASSIGNED_STACK" Bundle.steD A U H ∧ vx_Zq Bundle.tN "SUPPRESSED_SENTINEL" Bundle.listD A U H
end
section
theorem mws_of {aC : FieldType → ClassId} {ad : Nat → Nat} {σ : mS} {i : Nat} {q : Nat × va_E} (h : (mws aC ad σ)[i]? = some q) : ∃ sh, σ.1[i + 5]? = some sh ∧ q = (ad (i + 5), mE aC ad sh (σ.2 (i + 5))) := by
  unfold mws at h
  rw [List.getElem?_map] at h
  cases hr : (List.range (σ.1.length - 5))[i]? with
  | none => rw [hr] at h; cases h
  | some j =>
    rw [hr] at h
    have hi : i < σ.1.length - 5 := by
      have h1 := (List.getElem?_eq_some_iff.mp hr).1
      rwa [List.length_range] at h1
    rw [List.getElem?_range hi] at hr
    cases hr
    have h2 : i + 5 < σ.1.length := by omega
    refine ⟨σ.1[i + 5], List.getElem?_eq_getElem h2, ?_⟩
    have h3 : σ.1.getD (i + 5) (9, 0, []) = σ.1[i + 5] := by rw [List.getD_eq_getElem?_getD, List.getElem?_eq_getElem h2]; rfl
    have h : some (ad (i + 5), mE aC ad (σ.1.getD (i + 5) (9, 0, [])) (σ.2 (i + 5))) = some q := h
    rw [h3] at h
    exact (Option.some.inj h).symm
theorem mws_get {aC : FieldType → ClassId} {ad : Nat → Nat} {σ : mS} {k : Nat} {sh : mSh} (h : σ.1[k]? = some sh) (hk : 5 ≤ k) : (mws aC ad σ)[k - 5]? = some (ad k, mE aC ad sh (σ.2 k)) := by
  have hl := (List.getElem?_eq_some_iff.mp h).1
  unfold mws
  rw [List.getElem?_map, List.getElem?_range (by omega)]
  have h3 : σ.1.getD k (9, 0, []) = sh := by rw [List.getD_eq_getElem?_getD, h]; rfl
  show some (ad (k - 5 + 5), mE aC ad (σ.1.getD (k - 5 + 5) (9, 0, [])) (σ.2 (k - 5 + 5))) = _
  rw [show k - 5 + 5 = k by omega, h3]
theorem mws_len {aC : FieldType → ClassId} {ad : Nat → Nat} {σ : mS} : (mws aC ad σ).length = σ.1.length - 5 := by simp [mws]
theorem mws_none {aC : FieldType → ClassId} {ad : Nat → Nat} {σ : mS} {i : Nat} (h : σ.1[i + 5]? = none) : (mws aC ad σ)[i]? = none := by
  cases hx : (mws aC ad σ)[i]? with
  | none => rfl
  | some q =>
    obtain ⟨sh, h1, -⟩ := mws_of hx
    rw [h] at h1; cases h1
theorem mws_set {aC : FieldType → ClassId} {ad : Nat → Nat} {σ σ' : mS} {k : Nat} {sh : mSh} {E : va_E} (hk : 5 ≤ k) (hl : k < σ.1.length) (h : σ'.1[k]? = some sh) (hE : E = mE aC ad sh (σ'.2 k)) (hn : σ'.1.length = σ.1.length) (ho : ∀ j, j ≠ k → σ'.1[j]? = σ.1[j]?) (hM : ∀ j, j ≠ k → σ'.2 j = σ.2 j) :
    (mws aC ad σ).set (k - 5) (ad k, E) = mws aC ad σ' := by
  subst hE
  apply List.ext_getElem?
  intro i
  by_cases hi : i = k - 5
  · subst hi
    rw [List.getElem?_set_self (by rw [mws_len]; omega), mws_get h hk]
  · rw [List.getElem?_set_ne (Ne.symm hi)]
    have hne : i + 5 ≠ k := by omega
    cases hx : σ'.1[i + 5]? with
    | none => rw [mws_none hx, mws_none ((ho _ hne) ▸ hx)]
    | some sh2 =>
      have h1 := mws_get (aC := aC) (ad := ad) hx (by omega)
      have h2 := mws_get (aC := aC) (ad := ad) (σ := σ) ((ho _ hne) ▸ hx) (by omega)
      rw [show i + 5 - 5 = i by omega] at h1 h2
      rw [h1, h2, hM _ hne]
theorem mE_ad {aC : FieldType → ClassId} {ad ad' : Nat → Nat} {n : Nat} {sh : mSh} {f : Nat → Int} (h : mShOk n sh) (ha : ∀ k, k < n → ad' k = ad k) : mE aC ad' sh f = mE aC ad sh f := by
  obtain ⟨k, q, fs⟩ := sh
  cases k with
  | zero =>
    show (Sum.inr _ : va_E) = Sum.inr _
    congr 2
    apply List.map_congr_left
    intro j hj
    cases hx : fs[j]? with
    | none => rfl
    | some x =>
      cases x with
      | none => rfl
      | some t =>
        cases t with
        | none => rfl
        | some t =>
          show Value.ref (ad' t) = Value.ref (ad t)
          rw [ha t (h.2 t (List.mem_of_getElem? hx))]
  | succ k => rcases k with _ | _ | _ | k <;> rfl
theorem mws_ad {aC : FieldType → ClassId} {ad ad' : Nat → Nat} {σ : mS} (hw : mWf σ) (ha : ∀ k, k < σ.1.length → ad' k = ad k) : mws aC ad' σ = mws aC ad σ := by
  apply List.ext_getElem?
  intro i
  cases hx : σ.1[i + 5]? with
  | none => rw [mws_none hx, mws_none hx]
  | some sh =>
    have h1 := mws_get (aC := aC) (ad := ad) hx (by omega)
    have h2 := mws_get (aC := aC) (ad := ad') hx (by omega)
    rw [show i + 5 - 5 = i by omega] at h1 h2
    rw [h1, h2, mE_ad (hw.2.2 _ _ (by omega) hx) ha, ha _ (List.getElem?_eq_some_iff.mp hx).1]
/-- a new cell -/
theorem mws_push {aC : FieldType → ClassId} {ad : Nat → Nat} {σ : mS} {sh : mSh} {M' : mM} {q : Nat} (hw : mWf σ) (hM : ∀ j, j ≠ σ.1.length → M' j = σ.2 j) :
    mws aC ad σ ++ [(q, mE aC (fun j => if j = σ.1.length then q else ad j) sh (M' σ.1.length))] = mws aC (fun j => if j = σ.1.length then q else ad j) (σ.1 ++ [sh], M') := by
  have ha : ∀ k, k < σ.1.length → (fun j => if j = σ.1.length then q else ad j) k = ad k := fun k hk => if_neg (Nat.ne_of_lt hk)
  have h5 := hw.1
  rw [← mws_ad hw ha]
  apply List.ext_getElem?
  intro i
  by_cases hi : i < σ.1.length - 5
  · have hi5 : i + 5 < σ.1.length := by omega
    rw [List.getElem?_append_left (by rw [mws_len]; omega)]
    have e1 : (σ.1 ++ [sh])[i + 5]? = some σ.1[i + 5] := by rw [List.getElem?_append_left hi5, List.getElem?_eq_getElem hi5]
    have h1 := mws_get (aC := aC) (ad := fun j => if j = σ.1.length then q else ad j) (σ := (σ.1 ++ [sh], M')) e1 (by omega)
    have h2 := mws_get (aC := aC) (ad := fun j => if j = σ.1.length then q else ad j) (σ := σ) (List.getElem?_eq_getElem hi5) (by omega)
    rw [show i + 5 - 5 = i by omega] at h1 h2
    rw [h1, h2]
    show some (_, mE _ _ _ (σ.2 (i + 5))) = some (_, mE _ _ _ (M' (i + 5)))
    rw [hM _ (Nat.ne_of_lt hi5)]
  · rw [List.getElem?_append_right (by rw [mws_len]; omega), mws_len]
    by_cases he : i = σ.1.length - 5
    · have e1 : (σ.1 ++ [sh])[i + 5]? = some sh := by rw [he, show σ.1.length - 5 + 5 = σ.1.length by omega]; simp
      have h1 := mws_get (aC := aC) (ad := fun j => if j = σ.1.length then q else ad j) (σ := (σ.1 ++ [sh], M')) e1 (by omega)
      rw [show i + 5 - 5 = i by omega] at h1
      rw [h1, he, Nat.sub_self, show σ.1.length - 5 + 5 = σ.1.length by omega]
      simp
    · rw [mws_none (i := i) (by simp; omega)]
      rw [List.getElem?_eq_none (by simp; omega)]
theorem sR_ad {ad ad' : Nat → Nat} {n n' : Nat} (ha : ∀ k, k < n → ad' k = ad k) (hn : n ≤ n') : ∀ {S : List mV} {st : List Value}, sR ad n S st → sR ad' n' S st
  | [], [], _ => trivial
  | [], _ :: _, h => h.elim
  | _ :: _, [], h => h.elim
  | v :: S, x :: st, h => by
    refine ⟨?_, sR_ad ha hn h.2⟩
    obtain ⟨h1, h2⟩ := h.1
    rcases v with y | (_ | k) | y | y | u
    · exact ⟨h1, h2⟩
    · exact ⟨h1, h2⟩
    · have h2 : k < n := h2
      refine ⟨?_, (Nat.lt_of_lt_of_le h2 hn : k < n')⟩
      rcases h1 with h1 | h1
      · left
        rw [h1]
        show Value.ref (ad k) = Value.ref (ad' k)
        rw [ha k h2]
      · cases h1.1
    · exact ⟨h1, h2⟩
    · exact ⟨h1, h2⟩
    · exact ⟨h1, h2⟩
theorem okV_le {n n' : Nat} (hn : n ≤ n') {v : mV} (h : okV n v) : okV n' v := by
  rcases v with y | (_ | k) | y | y | u
  · exact h
  · exact h
  · exact Nat.lt_of_lt_of_le (h : k < n) hn
  · exact h
  · exact h
  · exact h
theorem vv_ad {ad ad' : Nat → Nat} {n : Nat} (ha : ∀ k, k < n → ad' k = ad k) {v : mV} (h : okV n v) : vv ad' v = vv ad v := by
  rcases v with y | (_ | k) | y | y | u
  · rfl
  · rfl
  · show Value.ref (ad' k) = Value.ref (ad k)
    rw [ha k h]
  · rfl
  · rfl
  · rfl
theorem lR_ad {ad ad' : Nat → Nat} {n n' nL : Nat} {L : List mV} {ls : Array Slot} (ha : ∀ k, k < n → ad' k = ad k) (hn : n ≤ n') (h : lR ad n L ls nL) : lR ad' n' L ls nL := by
  obtain ⟨h1, lv, h2, h3⟩ := h
  refine ⟨h1, lv, h2, fun i v hi hv => ?_⟩
  obtain ⟨g1, g2⟩ := h3 i v hi hv
  exact ⟨okV_le hn g1, by rw [vv_ad ha g1]; exact g2⟩
theorem msk_cons (b : Bool) (bs : List Bool) (v : mV) (vs : List mV) : msk (b :: bs) (v :: vs) = (match b with
  | true => v
  | false => vj) :: msk bs vs := rfl
theorem lR_msk {ad : Nat → Nat} {n nL : Nat} {ls : Array Slot} (bs : List Bool) {L : List mV} (h : lR ad n L ls nL) : lR ad n (msk bs L) ls nL := by
  obtain ⟨h1, lv, h2, h3⟩ := h
  have key : ∀ (bs : List Bool) (L : List mV), (msk bs L).length ≤ L.length ∧ ∀ (i : Nat) (v : mV), (msk bs L)[i]? = some v → v ≠ vj → L[i]? = some v := by
    intro bs
    induction bs with
    | nil => intro L; exact ⟨by cases L <;> simp [msk], fun i v h => by cases L <;> simp [msk] at h⟩
    | cons b bs ih =>
      intro L
      cases L with
      | nil => exact ⟨by simp [msk], fun i v h => by simp [msk] at h⟩
      | cons x L =>
        obtain ⟨g1, g2⟩ := ih L
        refine ⟨by simp only [msk, List.length_cons]; omega, fun i v h hv => ?_⟩
        cases i with
        | zero =>
          rw [msk_cons, List.getElem?_cons_zero] at h
          cases b with
          | true => rw [List.getElem?_cons_zero]; exact h
          | false => exact absurd (Option.some.inj h).symm hv
        | succ i =>
          rw [msk_cons, List.getElem?_cons_succ] at h
          rw [List.getElem?_cons_succ]
          exact g2 i v h hv
  exact ⟨Nat.le_trans (key bs L).1 h1, lv, h2, fun i v hi hv => h3 i v ((key bs L).2 i v hi hv) hv⟩
theorem sR_len {ad : Nat → Nat} {n : Nat} : ∀ {S : List mV} {st : List Value}, sR ad n S st → st.length = S.length
  | [], [], _ => rfl
  | [], _ :: _, h => h.elim
  | _ :: _, [], h => h.elim
  | _ :: _, _ :: _, h => by rw [List.length_cons, List.length_cons, sR_len h.2]
theorem sR_sum {ad : Nat → Nat} {n : Nat} : ∀ {S : List mV} {st : List Value}, sR ad n S st → (st.map fun v => v.category).sum = c2sum S
  | [], [], _ => rfl
  | [], _ :: _, h => h.elim
  | _ :: _, [], h => h.elim
  | v :: S, x :: st, h => by
    show x.category + (st.map fun v => v.category).sum = _ + c2sum S
    rw [sR_sum h.2, sv_cat h.1.1]
    rfl
theorem c2sum_le : ∀ (S : List mV), c2sum S ≤ 2 * S.length
  | [] => Nat.le_refl _
  | v :: S => by
    have h1 := c2sum_le S
    have h2 : (match c2 v with
      | true => 2
      | false => 1) ≤ 2 := by cases c2 v <;> decide
    show (match c2 v with
      | true => 2
      | false => 1) + c2sum S ≤ 2 * (S.length + 1)
    omega
theorem mNg_warm {w : Cond} (h : mNg w = true) {s U : State} (hW : s.WarmedH U.vm) (hZ : va_Nw w s) : va_Nw w U := by
  unfold mNg at h
  split at h
  · exact va_Nw.warmM hW hZ
  · exact va_Nw.warmF hW hZ
  · exact va_Nw.warmD hW hZ
  · exact va_Nw.warmC hW hZ
  · cases h
theorem mKn.warm {D : va_G} {aC : FieldType → ClassId} {s U : State} (hW : s.WarmedH U.vm) (h : mKn D aC s) : mKn D aC U :=
  ⟨va_K.moved hW.alike h.1, fun w hw => mNg_warm (List.mem_filter.mp hw).2 hW (h.2.1 w hw), fun own k tx hm => by
    obtain ⟨a, ha⟩ := h.2.2.1 own k tx hm
    exact ⟨a, vk_R.warm hW ha⟩, fun i j hi hj hij => va_Nc.moved hW.alike (h.2.2.2 i j hi hj hij)⟩
theorem mKn.same {D : va_G} {aC : FieldType → ClassId} {s U : State} (hv : U.vm = s.vm) (h : mKn D aC s) : mKn D aC U := mKn.warm (by rw [hv]; exact State.WarmedH.refl s) h
theorem mT.moved {t : Nat} {f : Nat → Int} {A : Nat → Prop} {u U : State} {H : Heap} (hvm : u.vm.Alike U.vm) (h : mT t f A u H) : mT t f A U H := by
  obtain ⟨h1, cell, h2, h3, h4⟩ := h
  exact ⟨va_T.moved hvm h1, cell, h2, h3, by rw [hvm.findClass]; exact h4⟩
theorem mT.kept {t : Nat} {f : Nat → Int} {A : Nat → Prop} {U : State} {H H1 : Heap} (h : mT t f A U H) (hq : ∀ a : Nat, a < H.size → ¬ A a → H1[a]? = H[a]?) : mT t f A U H1 := by
  obtain ⟨h1, cell, h2, h3, h4⟩ := h
  have hn : ¬ A t := by
    obtain ⟨_, _, _, _, _, _, _, h⟩ := h1
    exact h
  exact ⟨h1.kept hq, cell, by rw [hq t (Array.getElem?_eq_some_iff.mp h2).1 hn]; exact h2, h3, h4⟩
theorem mT.narrow {t : Nat} {f : Nat → Int} {A B : Nat → Prop} {U : State} {H : Heap} (h : mT t f A U H) (hAB : ∀ q, B q → A q) : mT t f B U H := ⟨h.1.narrow hAB, h.2⟩
theorem mSt0.moved {A : Nat → Prop} {ad : Nat → Nat} {M : mM} {u U : State} {H : Heap} (hvm : u.vm.Alike U.vm) (h : mSt0 A ad M u H) : mSt0 A ad M U H :=
  ⟨va_Z.moved hvm h.1, va_Z.moved hvm h.2.1, va_Z.moved hvm h.2.2.1, fun k hk => mT.moved hvm (h.2.2.2.1 k hk), vx_Zq.moved hvm h.2.2.2.2.1, vx_Zq.moved hvm h.2.2.2.2.2⟩
theorem mSt0.kept {A : Nat → Prop} {ad : Nat → Nat} {M : mM} {U : State} {H H1 : Heap} (h : mSt0 A ad M U H) (hq : ∀ a : Nat, a < H.size → ¬ A a → H1[a]? = H[a]?) : mSt0 A ad M U H1 :=
  ⟨h.1.kept hq, h.2.1.kept hq, h.2.2.1.kept hq, fun k hk => (h.2.2.2.1 k hk).kept hq, h.2.2.2.2.1.kept hq, h.2.2.2.2.2.kept hq⟩
theorem mSt0.narrow {A B : Nat → Prop} {ad : Nat → Nat} {M : mM} {U : State} {H : Heap} (h : mSt0 A ad M U H) (hAB : ∀ q, B q → A q) : mSt0 B ad M U H :=
  ⟨h.1.narrow hAB, h.2.1.narrow hAB, h.2.2.1.narrow hAB, fun k hk => (h.2.2.2.1 k hk).narrow hAB, h.2.2.2.2.1.narrow hAB, h.2.2.2.2.2.narrow hAB⟩
theorem mSt0.to {A : Nat → Prop} {ad ad' : Nat → Nat} {M M' : mM} {U : State} {H : Heap} (h : mSt0 A ad M U H) (ha : ∀ k, k < 5 → ad' k = ad k) (hM : ∀ k, k < 5 → M' k = M k) : mSt0 A ad' M' U H :=
  ⟨by rw [ha 0 (by decide)]; exact h.1, by rw [ha 1 (by decide)]; exact h.2.1, by rw [ha 2 (by decide)]; exact h.2.2.1, fun k hk => by rw [ha k (by omega), hM k (by omega)]; exact h.2.2.2.1 k hk, h.2.2.2.2.1, h.2.2.2.2.2⟩
end
section
/-! A FRAME OF THE SMALL MACHINE OVER THE REAL ONE -/
def mScr (A : Nat → Prop) (ad : Nat → Nat) (M : mM) (s : State) : Prop := ∃ (L : Nat) (xs : Nat → Int32), va_X (ad 3) L xs s s.heap ∧ ad 3 < s.heap.size ∧ ¬ A (ad 3) ∧ M 4 0 = L ∧ L < 2147483648 ∧ ∀ j, j < L → M 3 j = (xs j).toInt
def Fx (P : mP) (m d : Nat) (sc : Bool) (p : Program) (l : Launch) (e : Env) (R : Room) (s : State) (mid : MethodId) (args : Array Value) (below : List Frame) (meth : Method) (c : Code) (D : va_G) (aC : FieldType → ClassId) (ad0 : Nat → Nat) (n0 : Nat) (M0 : mM) (A : Nat → Prop) : Prop :=
  p.tables.exec = Jvm.exec ∧ c.code = (P m).1.2.1 ∧ c.maxLocals = (P m).1.2.2.1 ∧ s.vm.findClass (P m).1.1.cls = some mid.cls ∧ (∀ w ∈ lw_gd, w.before args s = true) ∧ meth.locks = false ∧ mKn D aC s ∧ mSt0 A ad0 M0 s s.heap ∧
  (∀ q, s.heap.size ≤ q → A q) ∧ (d + 10 ≤ R.frames ∧ 40 * d + 300 ≤ R.locals) ∧ ((P m).1.2.2.2.2.1 ≤ R.cells ∧ 2100 * (P m).1.2.2.2.2.1 ≤ R.slots) ∧ c.exceptionTable.toList = tableOf (P m).1.2.2.2.2.2.2 ∧ (sc = true → mScr A ad0 M0 s) ∧ meth.name = (P m).1.1.name ∧ 5 ≤ n0 ∧ l.stackTraces = false ∧ meth.sig.returnType = (P m).1.2.2.2.1
def WG (P : mP) (m : Nat) (p : Program) (l : Launch) (e : Env) (R : Room) (s : State) (mid : MethodId) (args : Array Value) (below : List Frame) (meth : Method) (c : Code) (D : va_G) (aC : FieldType → ClassId) (ad0 : Nat → Nat) (n0 : Nat) (M0 : mM) (A : Nat → Prop) (Q : State → Prop) (pc u : Nat) (L S : List mV) (σ : mS) : Prop :=
  ∀ (ad : Nat → Nat) (H : Heap) (locs : List Loc) (ls : Array Slot) (st : List Value), n0 ≤ σ.1.length → (∀ k, k < n0 → ad k = ad0 k) → mWd D aC ad σ A H → (∀ k, k < 5 → σ.2 k = M0 k) → va_S A s.heap H locs → lR ad σ.1.length L ls (P m).1.2.2.1 → sR ad σ.1.length S st →
    W p l e R s mid args below meth c H locs u (2100 * u) Q (F0 mid pc ls st)
section FR
variable {P : mP} {m d : Nat} {sc : Bool} {p : Program} {l : Launch} {e : Env} {R : Room} {s : State} {mid : MethodId} {args : Array Value} {below : List Frame} {meth : Method} {c : Code} {D : va_G} {aC : FieldType → ClassId} {ad0 : Nat → Nat} {n0 : Nat} {M0 : mM} {A : Nat → Prop} {Q : State → Prop}
variable {pc u : Nat} {L S : List mV} {σ : mS}
theorem Fx.exec (F : Fx P m d sc p l e R s mid args below meth c D aC ad0 n0 M0 A) : p.tables.exec = Jvm.exec := F.1
theorem Fx.code (F : Fx P m d sc p l e R s mid args below meth c D aC ad0 n0 M0 A) : c.code = (P m).1.2.1 := F.2.1
theorem Fx.maxL (F : Fx P m d sc p l e R s mid args below meth c D aC ad0 n0 M0 A) : c.maxLocals = (P m).1.2.2.1 := F.2.2.1
theorem Fx.own (F : Fx P m d sc p l e R s mid args below meth c D aC ad0 n0 M0 A) : s.vm.findClass (P m).1.1.cls = some mid.cls := F.2.2.2.1
theorem Fx.ts (F : Fx P m d sc p l e R s mid args below meth c D aC ad0 n0 M0 A) : ∀ w ∈ lw_gd, w.before args s = true := F.2.2.2.2.1
theorem Fx.locks (F : Fx P m d sc p l e R s mid args below meth c D aC ad0 n0 M0 A) : meth.locks = false := F.2.2.2.2.2.1
theorem Fx.kn (F : Fx P m d sc p l e R s mid args below meth c D aC ad0 n0 M0 A) : mKn D aC s := F.2.2.2.2.2.2.1
theorem Fx.st0 (F : Fx P m d sc p l e R s mid args below meth c D aC ad0 n0 M0 A) : mSt0 A ad0 M0 s s.heap := F.2.2.2.2.2.2.2.1
theorem Fx.hA (F : Fx P m d sc p l e R s mid args below meth c D aC ad0 n0 M0 A) : ∀ q, s.heap.size ≤ q → A q := F.2.2.2.2.2.2.2.2.1
theorem Fx.rm (F : Fx P m d sc p l e R s mid args below meth c D aC ad0 n0 M0 A) : d + 10 ≤ R.frames ∧ 40 * d + 300 ≤ R.locals := F.2.2.2.2.2.2.2.2.2.1
theorem Fx.bd (F : Fx P m d sc p l e R s mid args below meth c D aC ad0 n0 M0 A) : (P m).1.2.2.2.2.1 ≤ R.cells ∧ 2100 * (P m).1.2.2.2.2.1 ≤ R.slots := F.2.2.2.2.2.2.2.2.2.2.1
theorem Fx.tab (F : Fx P m d sc p l e R s mid args below meth c D aC ad0 n0 M0 A) : c.exceptionTable.toList = tableOf (P m).1.2.2.2.2.2.2 := F.2.2.2.2.2.2.2.2.2.2.2.1
theorem Fx.scr (F : Fx P m d sc p l e R s mid args below meth c D aC ad0 n0 M0 A) : sc = true → mScr A ad0 M0 s := F.2.2.2.2.2.2.2.2.2.2.2.2.1
theorem Fx.nm (F : Fx P m d sc p l e R s mid args below meth c D aC ad0 n0 M0 A) : meth.name = (P m).1.1.name := F.2.2.2.2.2.2.2.2.2.2.2.2.2.1
theorem Fx.n5 (F : Fx P m d sc p l e R s mid args below meth c D aC ad0 n0 M0 A) : 5 ≤ n0 := F.2.2.2.2.2.2.2.2.2.2.2.2.2.2.1
theorem Fx.ntr (F : Fx P m d sc p l e R s mid args below meth c D aC ad0 n0 M0 A) : l.stackTraces = false := F.2.2.2.2.2.2.2.2.2.2.2.2.2.2.2.1
theorem Fx.ret (F : Fx P m d sc p l e R s mid args below meth c D aC ad0 n0 M0 A) : meth.sig.returnType = (P m).1.2.2.2.1 := F.2.2.2.2.2.2.2.2.2.2.2.2.2.2.2.2
theorem gd_at (F : Fx P m d sc p l e R s mid args below meth c D aC ad0 n0 M0 A) {w : Cond} {i : Nat} (h : lw_tbl[i]? = some w) (hg : goodWord w = true) : w.before args s = true := F.ts w (gd_mem h hg)
theorem lR_at {ad : Nat → Nat} {n nL i : Nat} {v : mV} {ls : Array Slot} (h : lR ad n L ls nL) (hi : L[i]? = some v) (hv : v ≠ vj) : okV n v ∧ ls[i]? = some (.val (vv ad v)) := by
  obtain ⟨h1, lv, h2, h3⟩ := h
  obtain ⟨g1, g2⟩ := h3 i v hi hv
  exact ⟨g1, h2.2.2 _ g2⟩
theorem stI_some {n : Nat} {v : mV} {L' : List mV} (h : stI L n v = some L') : n < L.length ∧ c2at L n = false ∧ L' = L.set n v := by
  unfold stI at h
  split at h
  · rename_i hd
    simp only [Bool.and_eq_true, decide_eq_true_eq, Bool.not_eq_true'] at hd
    exact ⟨hd.1, hd.2, (Option.some.inj h).symm⟩
  · cases h
theorem stD_some {n : Nat} {v : mV} {L' : List mV} (h : stD L n v = some L') : n + 1 < L.length ∧ c2at L n = false ∧ L' = (L.set n v).set (n + 1) vj := by
  unfold stD at h
  split at h
  · rename_i hd
    simp only [Bool.and_eq_true, decide_eq_true_eq, Bool.not_eq_true'] at hd
    exact ⟨hd.1, hd.2, (Option.some.inj h).symm⟩
  · cases h
theorem c2at_no {n j : Nat} {v : mV} (h : c2at L n = false) (hj : j + 1 = n) (hv : L[j]? = some v) : c2 v = false := by
  subst hj
  have h1 : (match L[j]? with
    | some v => c2 v
    | none => false) = false := h
  rw [hv] at h1
  exact h1
/-- a store of one word: the list of what is known -/
theorem lR_st {ad : Nat → Nat} {n nL i : Nat} {v : mV} {x : Value} {L' : List mV} {ls : Array Slot} (h : lR ad n L ls nL) (hs : stI L i v = some L') (ho : okV n v) (hx : sv ad v x) :
    ∃ lv, lv_has ls nL lv ∧ i < nL ∧ ∀ ls', lv_has ls' nL ((i, x) :: lv.filter (fun q => !(q.1 == i) && !(q.1 + 1 == i && q.2.category == 2))) → lR ad n L' ls' nL := by
  obtain ⟨h1, lv, h2, h3⟩ := h
  obtain ⟨s1, s2, s3⟩ := stI_some hs
  refine ⟨lv, h2, by omega, fun ls' h' => ⟨by rw [s3, List.length_set]; exact h1, _, h', fun j w hj hw => ?_⟩⟩
  rw [s3] at hj
  by_cases hji : j = i
  · subst hji
    rw [List.getElem?_set_self s1] at hj
    cases hj
    refine ⟨ho, ?_⟩
    rcases hx with hx | hx
    · rw [hx]; exact List.mem_cons_self
    · exact absurd hx.1 hw
  · rw [List.getElem?_set_ne (Ne.symm hji)] at hj
    obtain ⟨k1, k2⟩ := h3 j w hj hw
    refine ⟨k1, List.mem_cons_of_mem _ (List.mem_filter.mpr ⟨k2, ?_⟩)⟩
    simp only [Bool.and_eq_true, Bool.not_eq_true', beq_eq_false_iff_ne, Bool.and_eq_false_iff]
    refine ⟨hji, ?_⟩
    by_cases hj1 : j + 1 = i
    · right
      have := c2at_no s2 hj1 hj
      rw [vv_cat, this]
      decide
    · left; exact hj1
theorem lR_std {ad : Nat → Nat} {n nL i : Nat} {v : mV} {x : Value} {L' : List mV} {ls : Array Slot} (h : lR ad n L ls nL) (hs : stD L i v = some L') (ho : okV n v) (hx : x = vv ad v) :
    ∃ lv, lv_has ls nL lv ∧ i + 1 < nL ∧ ∀ ls', lv_has ls' nL ((i, x) :: lv.filter (fun q => !(q.1 == i) && (!(q.1 == i + 1) && !(q.1 + 1 == i && q.2.category == 2)))) → lR ad n L' ls' nL := by
  obtain ⟨h1, lv, h2, h3⟩ := h
  obtain ⟨s1, s2, s3⟩ := stD_some hs
  refine ⟨lv, h2, by omega, fun ls' h' => ⟨by rw [s3, List.length_set, List.length_set]; exact h1, _, h', fun j w hj hw => ?_⟩⟩
  rw [s3] at hj
  by_cases hj2 : j = i + 1
  · subst hj2
    rw [List.getElem?_set_self (by rw [List.length_set]; exact s1)] at hj
    cases hj
    exact absurd rfl hw
  · rw [List.getElem?_set_ne (Ne.symm hj2)] at hj
    by_cases hji : j = i
    · subst hji
      rw [List.getElem?_set_self (by omega)] at hj
      cases hj
      exact ⟨ho, by rw [hx]; exact List.mem_cons_self⟩
    · rw [List.getElem?_set_ne (Ne.symm hji)] at hj
      obtain ⟨k1, k2⟩ := h3 j w hj hw
      refine ⟨k1, List.mem_cons_of_mem _ (List.mem_filter.mpr ⟨k2, ?_⟩)⟩
      simp only [Bool.and_eq_true, Bool.not_eq_true', beq_eq_false_iff_ne, Bool.and_eq_false_iff]
      refine ⟨hji, hj2, ?_⟩
      by_cases hj1 : j + 1 = i
      · right
        have := c2at_no s2 hj1 hj
        rw [vv_cat, this]
        decide
      · left; exact hj1
/-- the straight instructions, a row each -/
theorem s_iconst (F : Fx P m d sc p l e R s mid args below meth c D aC ad0 n0 M0 A) {n : Int} (hd : decode (P m).1.2.1 pc = .ok (.iconst n, 1)) (hn : inR n) (k : WG P m p l e R s mid args below meth c D aC ad0 n0 M0 A Q (pc + 1) u L (vi n :: S) σ) : WG P m p l e R s mid args below meth c D aC ad0 n0 M0 A Q pc u L S σ := by
  intro ad H locs ls st g0 g1 hW g2 hS hL hT
  exact lv_iconst F.exec F.code hd rfl (k ad H locs ls _ g0 g1 hW g2 hS hL ⟨⟨Or.inl rfl, hn⟩, hT⟩)
theorem s_bipush (F : Fx P m d sc p l e R s mid args below meth c D aC ad0 n0 M0 A) {n : Int} (hd : decode (P m).1.2.1 pc = .ok (.bipush n, 2)) (hv : (Int8.ofInt n).toInt32 = Int32.ofInt n) (hn : inR n) (k : WG P m p l e R s mid args below meth c D aC ad0 n0 M0 A Q (pc + 2) u L (vi n :: S) σ) : WG P m p l e R s mid args below meth c D aC ad0 n0 M0 A Q pc u L S σ := by
  intro ad H locs ls st g0 g1 hW g2 hS hL hT
  exact lv_bipush F.exec F.code hd hv (k ad H locs ls _ g0 g1 hW g2 hS hL ⟨⟨Or.inl rfl, hn⟩, hT⟩)
theorem s_sipush (F : Fx P m d sc p l e R s mid args below meth c D aC ad0 n0 M0 A) {n : Int} (hd : decode (P m).1.2.1 pc = .ok (.sipush n, 3)) (hv : (Int16.ofInt n).toInt32 = Int32.ofInt n) (hn : inR n) (k : WG P m p l e R s mid args below meth c D aC ad0 n0 M0 A Q (pc + 3) u L (vi n :: S) σ) : WG P m p l e R s mid args below meth c D aC ad0 n0 M0 A Q pc u L S σ := by
  intro ad H locs ls st g0 g1 hW g2 hS hL hT
  exact lv_sipush F.exec F.code hd hv (k ad H locs ls _ g0 g1 hW g2 hS hL ⟨⟨Or.inl rfl, hn⟩, hT⟩)
theorem s_lconst (F : Fx P m d sc p l e R s mid args below meth c D aC ad0 n0 M0 A) {n : Fin 2} (hd : decode (P m).1.2.1 pc = .ok (.lconst n, 1)) (k : WG P m p l e R s mid args below meth c D aC ad0 n0 M0 A Q (pc + 1) u L (vl (n.val : Int) :: S) σ) : WG P m p l e R s mid args below meth c D aC ad0 n0 M0 A Q pc u L S σ := by
  intro ad H locs ls st g0 g1 hW g2 hS hL hT
  have hn : inR (n.val : Int) := by have := n.isLt; unfold inR; omega
  refine lv_lconst F.exec F.code hd (v := Int64.ofInt (n.val : Int)) ?_ (k ad H locs ls _ g0 g1 hW g2 hS hL ⟨⟨Or.inl rfl, hn⟩, hT⟩)
  rcases n with ⟨n, hn⟩
  rcases (show n = 0 ∨ n = 1 by omega) with rfl | rfl <;> rfl
theorem s_dconst (F : Fx P m d sc p l e R s mid args below meth c D aC ad0 n0 M0 A) (hd : decode (P m).1.2.1 pc = .ok (.dconst 0, 1)) (k : WG P m p l e R s mid args below meth c D aC ad0 n0 M0 A Q (pc + 1) u L (vd FP.dconst0 :: S) σ) : WG P m p l e R s mid args below meth c D aC ad0 n0 M0 A Q pc u L S σ := by
  intro ad H locs ls st g0 g1 hW g2 hS hL hT
  exact lv_dconst0 F.exec F.code hd (k ad H locs ls _ g0 g1 hW g2 hS hL ⟨⟨Or.inl rfl, trivial⟩, hT⟩)
theorem s_iload_n (F : Fx P m d sc p l e R s mid args below meth c D aC ad0 n0 M0 A) {n : Fin 4} {x : Int} (hd : decode (P m).1.2.1 pc = .ok (.iload_n n, 1)) (h : L[n.val]? = some (vi x)) (k : WG P m p l e R s mid args below meth c D aC ad0 n0 M0 A Q (pc + 1) u L (vi x :: S) σ) : WG P m p l e R s mid args below meth c D aC ad0 n0 M0 A Q pc u L S σ := by
  intro ad H locs ls st g0 g1 hW g2 hS hL hT
  obtain ⟨h1, h2⟩ := lR_at hL h (fun q => by cases q)
  exact lv_iload_n F.exec F.code hd rfl h2 (k ad H locs ls _ g0 g1 hW g2 hS hL ⟨⟨Or.inl rfl, h1⟩, hT⟩)
theorem s_iload (F : Fx P m d sc p l e R s mid args below meth c D aC ad0 n0 M0 A) {n : Nat} {x : Int} (hd : decode (P m).1.2.1 pc = .ok (.iload n, 2)) (h : L[n]? = some (vi x)) (k : WG P m p l e R s mid args below meth c D aC ad0 n0 M0 A Q (pc + 2) u L (vi x :: S) σ) : WG P m p l e R s mid args below meth c D aC ad0 n0 M0 A Q pc u L S σ := by
  intro ad H locs ls st g0 g1 hW g2 hS hL hT
  obtain ⟨h1, h2⟩ := lR_at hL h (fun q => by cases q)
  exact lv_iload F.exec F.code hd h2 (k ad H locs ls _ g0 g1 hW g2 hS hL ⟨⟨Or.inl rfl, h1⟩, hT⟩)
theorem s_aload_n (F : Fx P m d sc p l e R s mid args below meth c D aC ad0 n0 M0 A) {n : Fin 4} {x : Option Nat} (hd : decode (P m).1.2.1 pc = .ok (.aload_n n, 1)) (h : L[n.val]? = some (.inr (.inl x))) (k : WG P m p l e R s mid args below meth c D aC ad0 n0 M0 A Q (pc + 1) u L ((.inr (.inl x)) :: S) σ) : WG P m p l e R s mid args below meth c D aC ad0 n0 M0 A Q pc u L S σ := by
  intro ad H locs ls st g0 g1 hW g2 hS hL hT
  obtain ⟨h1, h2⟩ := lR_at hL h (fun q => by cases q)
  cases x with
  | none => exact lv_aload_nN F.exec F.code hd rfl h2 (k ad H locs ls _ g0 g1 hW g2 hS hL ⟨⟨Or.inl rfl, h1⟩, hT⟩)
  | some x => exact lv_aload_n F.exec F.code hd rfl h2 (k ad H locs ls _ g0 g1 hW g2 hS hL ⟨⟨Or.inl rfl, h1⟩, hT⟩)
theorem s_aload (F : Fx P m d sc p l e R s mid args below meth c D aC ad0 n0 M0 A) {n : Nat} {x : Option Nat} (hd : decode (P m).1.2.1 pc = .ok (.aload n, 2)) (h : L[n]? = some (.inr (.inl x))) (k : WG P m p l e R s mid args below meth c D aC ad0 n0 M0 A Q (pc + 2) u L ((.inr (.inl x)) :: S) σ) : WG P m p l e R s mid args below meth c D aC ad0 n0 M0 A Q pc u L S σ := by
  intro ad H locs ls st g0 g1 hW g2 hS hL hT
  obtain ⟨h1, h2⟩ := lR_at hL h (fun q => by cases q)
  cases x with
  | none => exact lv_aloadN F.exec F.code hd h2 (k ad H locs ls _ g0 g1 hW g2 hS hL ⟨⟨Or.inl rfl, h1⟩, hT⟩)
  | some x => exact lv_aload F.exec F.code hd h2 (k ad H locs ls _ g0 g1 hW g2 hS hL ⟨⟨Or.inl rfl, h1⟩, hT⟩)
theorem s_dload_n (F : Fx P m d sc p l e R s mid args below meth c D aC ad0 n0 M0 A) {n : Fin 4} {x : UInt64} (hd : decode (P m).1.2.1 pc = .ok (.dload_n n, 1)) (h : L[n.val]? = some (vd x)) (k : WG P m p l e R s mid args below meth c D aC ad0 n0 M0 A Q (pc + 1) u L (vd x :: S) σ) : WG P m p l e R s mid args below meth c D aC ad0 n0 M0 A Q pc u L S σ := by
  intro ad H locs ls st g0 g1 hW g2 hS hL hT
  obtain ⟨h1, h2⟩ := lR_at hL h (fun q => by cases q)
  exact lv_dload_n F.exec F.code hd rfl h2 (k ad H locs ls _ g0 g1 hW g2 hS hL ⟨⟨Or.inl rfl, h1⟩, hT⟩)
theorem s_dload (F : Fx P m d sc p l e R s mid args below meth c D aC ad0 n0 M0 A) {n : Nat} {x : UInt64} (hd : decode (P m).1.2.1 pc = .ok (.dload n, 2)) (h : L[n]? = some (vd x)) (k : WG P m p l e R s mid args below meth c D aC ad0 n0 M0 A Q (pc + 2) u L (vd x :: S) σ) : WG P m p l e R s mid args below meth c D aC ad0 n0 M0 A Q pc u L S σ := by
  intro ad H locs ls st g0 g1 hW g2 hS hL hT
  obtain ⟨h1, h2⟩ := lR_at hL h (fun q => by cases q)
  exact lv_dload F.exec F.code hd h2 (k ad H locs ls _ g0 g1 hW g2 hS hL ⟨⟨Or.inl rfl, h1⟩, hT⟩)
theorem sR_cons {ad : Nat → Nat} {n : Nat} {v : mV} {r : List mV} {st : List Value} (h : sR ad n (v :: r) st) : ∃ x st', st = x :: st' ∧ sv ad v x ∧ okV n v ∧ sR ad n r st' := by
  cases st with
  | nil => exact h.elim
  | cons x st => exact ⟨x, st, rfl, h.1.1, h.1.2, h.2⟩
theorem sv_i {ad : Nat → Nat} {x : Int} {y : Value} (h : sv ad (vi x) y) : y = .int (Int32.ofInt x) := by
  rcases h with h | h
  · exact h
  · cases h.1
theorem sv_r {ad : Nat → Nat} {x : Option Nat} {y : Value} (h : sv ad (.inr (.inl x)) y) : y = vv ad (.inr (.inl x)) := by
  rcases h with h | h
  · exact h
  · cases h.1
theorem sv_l {ad : Nat → Nat} {x : Int} {y : Value} (h : sv ad (vl x) y) : y = .long (Int64.ofInt x) := by
  rcases h with h | h
  · exact h
  · cases h.1
theorem sv_d {ad : Nat → Nat} {x : UInt64} {y : Value} (h : sv ad (vd x) y) : y = .double x := by
  rcases h with h | h
  · exact h
  · cases h.1
theorem sv_j {ad : Nat → Nat} {y : Value} (h : sv ad vj y) : y = .null ∨ ∃ q, y = .ref q := by
  rcases h with h | h
  · exact Or.inl h
  · exact Or.inr h.2
theorem s_istore_n (F : Fx P m d sc p l e R s mid args below meth c D aC ad0 n0 M0 A) {n : Fin 4} {x : Int} {r L' : List mV} (hd : decode (P m).1.2.1 pc = .ok (.istore_n n, 1)) (h : stI L n.val (vi x) = some L') (k : WG P m p l e R s mid args below meth c D aC ad0 n0 M0 A Q (pc + 1) u L' r σ) : WG P m p l e R s mid args below meth c D aC ad0 n0 M0 A Q pc u L (vi x :: r) σ := by
  intro ad H locs ls st g0 g1 hW g2 hS hL hT
  obtain ⟨y, st', rfl, h1, h2, h3⟩ := sR_cons hT
  obtain ⟨lv, e1, e2, e3⟩ := lR_st hL h h2 h1
  cases sv_i h1
  exact lv_istore_n F.exec F.code hd rfl e1 e2 rfl fun ls' h' => k ad H locs ls' _ g0 g1 hW g2 hS (e3 ls' h') h3
theorem s_istore (F : Fx P m d sc p l e R s mid args below meth c D aC ad0 n0 M0 A) {n : Nat} {x : Int} {r L' : List mV} (hd : decode (P m).1.2.1 pc = .ok (.istore n, 2)) (h : stI L n (vi x) = some L') (k : WG P m p l e R s mid args below meth c D aC ad0 n0 M0 A Q (pc + 2) u L' r σ) : WG P m p l e R s mid args below meth c D aC ad0 n0 M0 A Q pc u L (vi x :: r) σ := by
  intro ad H locs ls st g0 g1 hW g2 hS hL hT
  obtain ⟨y, st', rfl, h1, h2, h3⟩ := sR_cons hT
  obtain ⟨lv, e1, e2, e3⟩ := lR_st hL h h2 h1
  cases sv_i h1
  exact lv_istore F.exec F.code hd e1 e2 rfl fun ls' h' => k ad H locs ls' _ g0 g1 hW g2 hS (e3 ls' h') h3
theorem s_astore_n (F : Fx P m d sc p l e R s mid args below meth c D aC ad0 n0 M0 A) {n : Fin 4} {v : mV} {r L' : List mV} (hv : v = vj ∨ ∃ x, v = .inr (.inl x)) (hd : decode (P m).1.2.1 pc = .ok (.astore_n n, 1)) (h : stI L n.val v = some L') (k : WG P m p l e R s mid args below meth c D aC ad0 n0 M0 A Q (pc + 1) u L' r σ) : WG P m p l e R s mid args below meth c D aC ad0 n0 M0 A Q pc u L (v :: r) σ := by
  intro ad H locs ls st g0 g1 hW g2 hS hL hT
  obtain ⟨y, st', rfl, h1, h2, h3⟩ := sR_cons hT
  obtain ⟨lv, e1, e2, e3⟩ := lR_st hL h h2 h1
  have hy : y = .null ∨ ∃ q, y = .ref q := by
    rcases hv with rfl | ⟨x, rfl⟩
    · exact sv_j h1
    · have := sv_r h1
      cases x with
      | none => exact Or.inl this
      | some x => exact Or.inr ⟨_, this⟩
  rcases hy with rfl | ⟨q, rfl⟩
  · exact lv_astore_nN F.exec F.code hd rfl e1 e2 rfl fun ls' h' => k ad H locs ls' _ g0 g1 hW g2 hS (e3 ls' h') h3
  · exact lv_astore_n F.exec F.code hd rfl e1 e2 rfl fun ls' h' => k ad H locs ls' _ g0 g1 hW g2 hS (e3 ls' h') h3
theorem s_astore (F : Fx P m d sc p l e R s mid args below meth c D aC ad0 n0 M0 A) {n : Nat} {v : mV} {r L' : List mV} (hv : v = vj ∨ ∃ x, v = .inr (.inl x)) (hd : decode (P m).1.2.1 pc = .ok (.astore n, 2)) (h : stI L n v = some L') (k : WG P m p l e R s mid args below meth c D aC ad0 n0 M0 A Q (pc + 2) u L' r σ) : WG P m p l e R s mid args below meth c D aC ad0 n0 M0 A Q pc u L (v :: r) σ := by
  intro ad H locs ls st g0 g1 hW g2 hS hL hT
  obtain ⟨y, st', rfl, h1, h2, h3⟩ := sR_cons hT
  obtain ⟨lv, e1, e2, e3⟩ := lR_st hL h h2 h1
  have hy : y = .null ∨ ∃ q, y = .ref q := by
    rcases hv with rfl | ⟨x, rfl⟩
    · exact sv_j h1
    · have := sv_r h1
      cases x with
      | none => exact Or.inl this
      | some x => exact Or.inr ⟨_, this⟩
  rcases hy with rfl | ⟨q, rfl⟩
  · exact lv_astoreN F.exec F.code hd e1 e2 rfl fun ls' h' => k ad H locs ls' _ g0 g1 hW g2 hS (e3 ls' h') h3
  · exact lv_astore F.exec F.code hd e1 e2 rfl fun ls' h' => k ad H locs ls' _ g0 g1 hW g2 hS (e3 ls' h') h3
theorem s_dstore_n (F : Fx P m d sc p l e R s mid args below meth c D aC ad0 n0 M0 A) {n : Fin 4} {x : UInt64} {r L' : List mV} (hd : decode (P m).1.2.1 pc = .ok (.dstore_n n, 1)) (h : stD L n.val (vd x) = some L') (k : WG P m p l e R s mid args below meth c D aC ad0 n0 M0 A Q (pc + 1) u L' r σ) : WG P m p l e R s mid args below meth c D aC ad0 n0 M0 A Q pc u L (vd x :: r) σ := by
  intro ad H locs ls st g0 g1 hW g2 hS hL hT
  obtain ⟨y, st', rfl, h1, h2, h3⟩ := sR_cons hT
  cases sv_d h1
  obtain ⟨lv, e1, e2, e3⟩ := lR_std hL h h2 rfl
  exact lv_dstore_n F.exec F.code hd rfl e1 e2 rfl fun ls' h' => k ad H locs ls' _ g0 g1 hW g2 hS (e3 ls' h') h3
theorem s_dstore (F : Fx P m d sc p l e R s mid args below meth c D aC ad0 n0 M0 A) {n : Nat} {x : UInt64} {r L' : List mV} (hd : decode (P m).1.2.1 pc = .ok (.dstore n, 2)) (h : stD L n (vd x) = some L') (k : WG P m p l e R s mid args below meth c D aC ad0 n0 M0 A Q (pc + 2) u L' r σ) : WG P m p l e R s mid args below meth c D aC ad0 n0 M0 A Q pc u L (vd x :: r) σ := by
  intro ad H locs ls st g0 g1 hW g2 hS hL hT
  obtain ⟨y, st', rfl, h1, h2, h3⟩ := sR_cons hT
  cases sv_d h1
  obtain ⟨lv, e1, e2, e3⟩ := lR_std hL h h2 rfl
  exact lv_dstore F.exec F.code hd e1 e2 rfl fun ls' h' => k ad H locs ls' _ g0 g1 hW g2 hS (e3 ls' h') h3
theorem s_iinc (F : Fx P m d sc p l e R s mid args below meth c D aC ad0 n0 M0 A) {n : Nat} {q x : Int} {L' : List mV} (hd : decode (P m).1.2.1 pc = .ok (.iinc n q, 3)) (h0 : L[n]? = some (vi x)) (h : stI L n (vi (wr (x + q))) = some L') (k : WG P m p l e R s mid args below meth c D aC ad0 n0 M0 A Q (pc + 3) u L' S σ) : WG P m p l e R s mid args below meth c D aC ad0 n0 M0 A Q pc u L S σ := by
  intro ad H locs ls st g0 g1 hW g2 hS hL hT
  obtain ⟨h1, h2⟩ := lR_at hL h0 (fun q => by cases q)
  obtain ⟨lv, e1, e2, e3⟩ := lR_st (x := .int (Int32.ofInt (wr (x + q)))) hL h (wr_inR _) (Or.inl rfl)
  have e4 : lv_has ls (P m).1.2.2.1 ((n, .int (Int32.ofInt x)) :: lv) := ⟨e1.1, e1.2.1, fun z hz => (List.mem_cons.mp hz).elim (fun e => by rw [e]; exact h2) (e1.2.2 z)⟩
  refine lv_iinc (k := 0) F.exec F.code hd e4 rfl (ofI_add x q) e2 rfl fun ls' h' => k ad H locs ls' _ g0 g1 hW g2 hS (e3 ls' ?_) hT
  refine ⟨h'.1, h'.2.1, fun z hz => h'.2.2 z ?_⟩
  rcases List.mem_cons.mp hz with hz | hz
  · rw [hz]; exact List.mem_cons_self
  · obtain ⟨f1, f2⟩ := List.mem_filter.mp hz
    exact List.mem_cons_of_mem _ (List.mem_filter.mpr ⟨List.mem_cons_of_mem _ f1, f2⟩)
end FR
end
section
section AR
variable {P : mP} {m d : Nat} {sc : Bool} {p : Program} {l : Launch} {e : Env} {R : Room} {s : State} {mid : MethodId} {args : Array Value} {below : List Frame} {meth : Method} {c : Code} {D : va_G} {aC : FieldType → ClassId} {ad0 : Nat → Nat} {n0 : Nat} {M0 : mM} {A : Nat → Prop} {Q : State → Prop}
variable {pc u : Nat} {L S : List mV} {σ : mS}
theorem sR_2 {ad : Nat → Nat} {n : Nat} {v w : mV} {r : List mV} {st : List Value} (h : sR ad n (v :: w :: r) st) : ∃ x y st', st = x :: y :: st' ∧ sv ad v x ∧ okV n v ∧ sv ad w y ∧ okV n w ∧ sR ad n r st' := by
  obtain ⟨x, s1, rfl, a1, a2, h1⟩ := sR_cons h
  obtain ⟨y, s2, rfl, b1, b2, h2⟩ := sR_cons h1
  exact ⟨x, y, s2, rfl, a1, a2, b1, b2, h2⟩
theorem s_iadd (F : Fx P m d sc p l e R s mid args below meth c D aC ad0 n0 M0 A) {x y : Int} {r : List mV} (hd : decode (P m).1.2.1 pc = .ok (.iadd, 1)) (k : WG P m p l e R s mid args below meth c D aC ad0 n0 M0 A Q (pc + 1) u L (vi (wr (x + y)) :: r) σ) : WG P m p l e R s mid args below meth c D aC ad0 n0 M0 A Q pc u L (vi y :: vi x :: r) σ := by
  intro ad H locs ls st g0 g1 hW g2 hS hL hT
  obtain ⟨_, _, st', rfl, h1, h2, h3, h4, h5⟩ := sR_2 hT
  cases sv_i h1; cases sv_i h3
  refine lv_iadd F.exec F.code hd ?_
  rw [ofI_add]
  exact k ad H locs ls _ g0 g1 hW g2 hS hL ⟨⟨Or.inl rfl, wr_inR _⟩, h5⟩
theorem s_isub (F : Fx P m d sc p l e R s mid args below meth c D aC ad0 n0 M0 A) {x y : Int} {r : List mV} (hd : decode (P m).1.2.1 pc = .ok (.isub, 1)) (k : WG P m p l e R s mid args below meth c D aC ad0 n0 M0 A Q (pc + 1) u L (vi (wr (x - y)) :: r) σ) : WG P m p l e R s mid args below meth c D aC ad0 n0 M0 A Q pc u L (vi y :: vi x :: r) σ := by
  intro ad H locs ls st g0 g1 hW g2 hS hL hT
  obtain ⟨_, _, st', rfl, h1, h2, h3, h4, h5⟩ := sR_2 hT
  cases sv_i h1; cases sv_i h3
  refine lv_isub F.exec F.code hd ?_
  rw [ofI_sub]
  exact k ad H locs ls _ g0 g1 hW g2 hS hL ⟨⟨Or.inl rfl, wr_inR _⟩, h5⟩
theorem s_imul (F : Fx P m d sc p l e R s mid args below meth c D aC ad0 n0 M0 A) {x y : Int} {r : List mV} (hd : decode (P m).1.2.1 pc = .ok (.imul, 1)) (k : WG P m p l e R s mid args below meth c D aC ad0 n0 M0 A Q (pc + 1) u L (vi (wr (x * y)) :: r) σ) : WG P m p l e R s mid args below meth c D aC ad0 n0 M0 A Q pc u L (vi y :: vi x :: r) σ := by
  intro ad H locs ls st g0 g1 hW g2 hS hL hT
  obtain ⟨_, _, st', rfl, h1, h2, h3, h4, h5⟩ := sR_2 hT
  cases sv_i h1; cases sv_i h3
  refine lv_imul F.exec F.code hd ?_
  rw [ofI_mul]
  exact k ad H locs ls _ g0 g1 hW g2 hS hL ⟨⟨Or.inl rfl, wr_inR _⟩, h5⟩
theorem s_ineg (F : Fx P m d sc p l e R s mid args below meth c D aC ad0 n0 M0 A) {x : Int} {r : List mV} (hd : decode (P m).1.2.1 pc = .ok (.ineg, 1)) (k : WG P m p l e R s mid args below meth c D aC ad0 n0 M0 A Q (pc + 1) u L (vi (wr (-x)) :: r) σ) : WG P m p l e R s mid args below meth c D aC ad0 n0 M0 A Q pc u L (vi x :: r) σ := by
  intro ad H locs ls st g0 g1 hW g2 hS hL hT
  obtain ⟨_, st', rfl, h1, h2, h3⟩ := sR_cons hT
  cases sv_i h1
  refine lv_ineg F.exec F.code hd ?_
  rw [ofI_neg]
  exact k ad H locs ls _ g0 g1 hW g2 hS hL ⟨⟨Or.inl rfl, wr_inR _⟩, h3⟩
theorem ofI_ne0 {y : Int} (hy : inR y) (h : 0 < y) : ¬ Int32.ofInt y = 0 := fun q => by
  have := (ofI_eq hy inR_0).mp q
  omega
theorem s_irem (F : Fx P m d sc p l e R s mid args below meth c D aC ad0 n0 M0 A) {x y : Int} {r : List mV} (hy0 : 0 < y) (hd : decode (P m).1.2.1 pc = .ok (.irem, 1)) (k : WG P m p l e R s mid args below meth c D aC ad0 n0 M0 A Q (pc + 1) u L (vi (x.tmod y) :: r) σ) : WG P m p l e R s mid args below meth c D aC ad0 n0 M0 A Q pc u L (vi y :: vi x :: r) σ := by
  intro ad H locs ls st g0 g1 hW g2 hS hL hT
  obtain ⟨_, _, st', rfl, h1, h2, h3, h4, h5⟩ := sR_2 hT
  cases sv_i h1; cases sv_i h3
  refine lv_irem F.exec F.code hd (ofI_ne0 h2 hy0) ?_
  rw [ofI_tmod h4 h2 hy0]
  exact k ad H locs ls _ g0 g1 hW g2 hS hL ⟨⟨Or.inl rfl, tmod_inR h2 hy0⟩, h5⟩
theorem s_idiv (F : Fx P m d sc p l e R s mid args below meth c D aC ad0 n0 M0 A) {x y : Int} {r : List mV} (hy0 : 0 < y) (hd : decode (P m).1.2.1 pc = .ok (.idiv, 1)) (k : WG P m p l e R s mid args below meth c D aC ad0 n0 M0 A Q (pc + 1) u L (vi (x.tdiv y) :: r) σ) : WG P m p l e R s mid args below meth c D aC ad0 n0 M0 A Q pc u L (vi y :: vi x :: r) σ := by
  intro ad H locs ls st g0 g1 hW g2 hS hL hT
  obtain ⟨_, _, st', rfl, h1, h2, h3, h4, h5⟩ := sR_2 hT
  cases sv_i h1; cases sv_i h3
  refine lv_idiv F.exec F.code hd (ofI_ne0 h2 hy0) ?_
  rw [ofI_tdiv h4 h2 hy0]
  exact k ad H locs ls _ g0 g1 hW g2 hS hL ⟨⟨Or.inl rfl, tdiv_inR h4 hy0⟩, h5⟩
theorem s_iand (F : Fx P m d sc p l e R s mid args below meth c D aC ad0 n0 M0 A) {x : Int} {r : List mV} (hd : decode (P m).1.2.1 pc = .ok (.iand, 1)) (k : WG P m p l e R s mid args below meth c D aC ad0 n0 M0 A Q (pc + 1) u L (vi (x % 64) :: r) σ) : WG P m p l e R s mid args below meth c D aC ad0 n0 M0 A Q pc u L (vi 63 :: vi x :: r) σ := by
  intro ad H locs ls st g0 g1 hW g2 hS hL hT
  obtain ⟨_, _, st', rfl, h1, h2, h3, h4, h5⟩ := sR_2 hT
  cases sv_i h1; cases sv_i h3
  refine lv_iand F.exec F.code hd ?_
  rw [ofI_and63 h4]
  exact k ad H locs ls _ g0 g1 hW g2 hS hL ⟨⟨Or.inl rfl, (show inR (x % 64) by unfold inR; omega)⟩, h5⟩
theorem s_i2l (F : Fx P m d sc p l e R s mid args below meth c D aC ad0 n0 M0 A) {x : Int} {r : List mV} (hd : decode (P m).1.2.1 pc = .ok (.i2l, 1)) (k : WG P m p l e R s mid args below meth c D aC ad0 n0 M0 A Q (pc + 1) u L (vl x :: r) σ) : WG P m p l e R s mid args below meth c D aC ad0 n0 M0 A Q pc u L (vi x :: r) σ := by
  intro ad H locs ls st g0 g1 hW g2 hS hL hT
  obtain ⟨_, st', rfl, h1, h2, h3⟩ := sR_cons hT
  cases sv_i h1
  exact lv_i2l F.exec F.code hd (ofI_i2l h2) (k ad H locs ls _ g0 g1 hW g2 hS hL ⟨⟨Or.inl rfl, h2⟩, h3⟩)
theorem s_i2c (F : Fx P m d sc p l e R s mid args below meth c D aC ad0 n0 M0 A) {x : Int} {r : List mV} (hd : decode (P m).1.2.1 pc = .ok (.i2c, 1)) (k : WG P m p l e R s mid args below meth c D aC ad0 n0 M0 A Q (pc + 1) u L (vi (x % 65536) :: r) σ) : WG P m p l e R s mid args below meth c D aC ad0 n0 M0 A Q pc u L (vi x :: r) σ := by
  intro ad H locs ls st g0 g1 hW g2 hS hL hT
  obtain ⟨_, st', rfl, h1, h2, h3⟩ := sR_cons hT
  cases sv_i h1
  exact lv_i2c F.exec F.code hd (ofI_i2c h2) (k ad H locs ls _ g0 g1 hW g2 hS hL ⟨⟨Or.inl rfl, (show inR (x % 65536) by unfold inR; omega)⟩, h3⟩)
theorem s_i2d (F : Fx P m d sc p l e R s mid args below meth c D aC ad0 n0 M0 A) {x : Int} {r : List mV} (hd : decode (P m).1.2.1 pc = .ok (.i2d, 1)) (k : WG P m p l e R s mid args below meth c D aC ad0 n0 M0 A Q (pc + 1) u L (vd (FP.i2d (Int32.ofInt x)) :: r) σ) : WG P m p l e R s mid args below meth c D aC ad0 n0 M0 A Q pc u L (vi x :: r) σ := by
  intro ad H locs ls st g0 g1 hW g2 hS hL hT
  obtain ⟨_, st', rfl, h1, h2, h3⟩ := sR_cons hT
  cases sv_i h1
  exact lv_i2d F.exec F.code hd (k ad H locs ls _ g0 g1 hW g2 hS hL ⟨⟨Or.inl rfl, trivial⟩, h3⟩)
theorem s_lcmp (F : Fx P m d sc p l e R s mid args below meth c D aC ad0 n0 M0 A) {x y : Int} {r : List mV} (hd : decode (P m).1.2.1 pc = .ok (.lcmp, 1)) (k : WG P m p l e R s mid args below meth c D aC ad0 n0 M0 A Q (pc + 1) u L (vi (cmpL x y) :: r) σ) : WG P m p l e R s mid args below meth c D aC ad0 n0 M0 A Q pc u L (vl y :: vl x :: r) σ := by
  intro ad H locs ls st g0 g1 hW g2 hS hL hT
  obtain ⟨_, _, st', rfl, h1, h2, h3, h4, h5⟩ := sR_2 hT
  cases sv_l h1; cases sv_l h3
  refine W.lcmp F.exec F.code hd ?_
  rw [ofL_cmp h4 h2]
  exact k ad H locs ls _ g0 g1 hW g2 hS hL ⟨⟨Or.inl rfl, cmpL_inR _ _⟩, h5⟩
theorem s_dcmp (F : Fx P m d sc p l e R s mid args below meth c D aC ad0 n0 M0 A) {x y : UInt64} {op : CmpOp} {r : List mV} (hd : decode (P m).1.2.1 pc = .ok (.dcmp op, 1)) (k : WG P m p l e R s mid args below meth c D aC ad0 n0 M0 A Q (pc + 1) u L (vi (Op.cmpValue (FP.dcmp x y) op).toInt :: r) σ) : WG P m p l e R s mid args below meth c D aC ad0 n0 M0 A Q pc u L (vd y :: vd x :: r) σ := by
  intro ad H locs ls st g0 g1 hW g2 hS hL hT
  obtain ⟨_, _, st', rfl, h1, h2, h3, h4, h5⟩ := sR_2 hT
  cases sv_d h1; cases sv_d h3
  refine lv_dcmp F.exec F.code hd ?_
  refine k ad H locs ls _ g0 g1 hW g2 hS hL ⟨⟨Or.inl ?_, toI_inR _⟩, h5⟩
  show Value.int _ = Value.int (Int32.ofInt _)
  rw [ofI_of]
theorem s_dadd (F : Fx P m d sc p l e R s mid args below meth c D aC ad0 n0 M0 A) {x y : UInt64} {r : List mV} (hn : nn64 (FP.dadd x y) = true) (hd : decode (P m).1.2.1 pc = .ok (.dadd, 1)) (k : WG P m p l e R s mid args below meth c D aC ad0 n0 M0 A Q (pc + 1) u L (vd (FP.dadd x y) :: r) σ) : WG P m p l e R s mid args below meth c D aC ad0 n0 M0 A Q pc u L (vd y :: vd x :: r) σ := by
  intro ad H locs ls st g0 g1 hW g2 hS hL hT
  obtain ⟨_, _, st', rfl, h1, h2, h3, h4, h5⟩ := sR_2 hT
  cases sv_d h1; cases sv_d h3
  exact lv_dadd F.exec F.code hd (show vf_n64 _ from by unfold vf_n64; exact of_decide_eq_true hn) (k ad H locs ls _ g0 g1 hW g2 hS hL ⟨⟨Or.inl rfl, trivial⟩, h5⟩)
theorem s_ddiv (F : Fx P m d sc p l e R s mid args below meth c D aC ad0 n0 M0 A) {x y : UInt64} {r : List mV} (hn : nn64 (FP.ddiv x y) = true) (hd : decode (P m).1.2.1 pc = .ok (.ddiv, 1)) (k : WG P m p l e R s mid args below meth c D aC ad0 n0 M0 A Q (pc + 1) u L (vd (FP.ddiv x y) :: r) σ) : WG P m p l e R s mid args below meth c D aC ad0 n0 M0 A Q pc u L (vd y :: vd x :: r) σ := by
  intro ad H locs ls st g0 g1 hW g2 hS hL hT
  obtain ⟨_, _, st', rfl, h1, h2, h3, h4, h5⟩ := sR_2 hT
  cases sv_d h1; cases sv_d h3
  exact lv_ddiv F.exec F.code hd (show vf_n64 _ from by unfold vf_n64; exact of_decide_eq_true hn) (k ad H locs ls _ g0 g1 hW g2 hS hL ⟨⟨Or.inl rfl, trivial⟩, h5⟩)
theorem sv_c1 {ad : Nat → Nat} {v : mV} {x : Value} (h : sv ad v x) (hc : c2 v = false) : x.category = 1 := by
  rw [sv_cat h, hc]
theorem s_dup (F : Fx P m d sc p l e R s mid args below meth c D aC ad0 n0 M0 A) {v : mV} {r : List mV} (hc : c2 v = false) (hd : decode (P m).1.2.1 pc = .ok (.dup, 1)) (k : WG P m p l e R s mid args below meth c D aC ad0 n0 M0 A Q (pc + 1) u L (v :: v :: r) σ) : WG P m p l e R s mid args below meth c D aC ad0 n0 M0 A Q pc u L (v :: r) σ := by
  intro ad H locs ls st g0 g1 hW g2 hS hL hT
  obtain ⟨x, st', rfl, h1, h2, h3⟩ := sR_cons hT
  exact lv_dup F.exec F.code hd (sv_c1 h1 hc) (k ad H locs ls _ g0 g1 hW g2 hS hL ⟨⟨h1, h2⟩, ⟨h1, h2⟩, h3⟩)
theorem s_pop (F : Fx P m d sc p l e R s mid args below meth c D aC ad0 n0 M0 A) {v : mV} {r : List mV} (hc : c2 v = false) (hd : decode (P m).1.2.1 pc = .ok (.pop, 1)) (k : WG P m p l e R s mid args below meth c D aC ad0 n0 M0 A Q (pc + 1) u L r σ) : WG P m p l e R s mid args below meth c D aC ad0 n0 M0 A Q pc u L (v :: r) σ := by
  intro ad H locs ls st g0 g1 hW g2 hS hL hT
  obtain ⟨x, st', rfl, h1, h2, h3⟩ := sR_cons hT
  exact lv_pop F.exec F.code hd (sv_c1 h1 hc) (k ad H locs ls _ g0 g1 hW g2 hS hL h3)
theorem s_dup2 (F : Fx P m d sc p l e R s mid args below meth c D aC ad0 n0 M0 A) {v w : mV} {r : List mV} (hc : c2 v = false) (hc2 : c2 w = false) (hd : decode (P m).1.2.1 pc = .ok (.dup2, 1)) (k : WG P m p l e R s mid args below meth c D aC ad0 n0 M0 A Q (pc + 1) u L (v :: w :: v :: w :: r) σ) : WG P m p l e R s mid args below meth c D aC ad0 n0 M0 A Q pc u L (v :: w :: r) σ := by
  intro ad H locs ls st g0 g1 hW g2 hS hL hT
  obtain ⟨x, y, st', rfl, h1, h2, h3, h4, h5⟩ := sR_2 hT
  exact lv_dup2_11 F.exec F.code hd (sv_c1 h1 hc) (sv_c1 h3 hc2) (k ad H locs ls _ g0 g1 hW g2 hS hL ⟨⟨h1, h2⟩, ⟨h3, h4⟩, ⟨h1, h2⟩, ⟨h3, h4⟩, h5⟩)
theorem s_dup_x1 (F : Fx P m d sc p l e R s mid args below meth c D aC ad0 n0 M0 A) {v w : mV} {r : List mV} (hc : c2 v = false) (hc2 : c2 w = false) (hd : decode (P m).1.2.1 pc = .ok (.dup_x1, 1)) (k : WG P m p l e R s mid args below meth c D aC ad0 n0 M0 A Q (pc + 1) u L (v :: w :: v :: r) σ) : WG P m p l e R s mid args below meth c D aC ad0 n0 M0 A Q pc u L (v :: w :: r) σ := by
  intro ad H locs ls st g0 g1 hW g2 hS hL hT
  obtain ⟨x, y, st', rfl, h1, h2, h3, h4, h5⟩ := sR_2 hT
  exact lv_dup_x1 F.exec F.code hd (sv_c1 h1 hc) (sv_c1 h3 hc2) (k ad H locs ls _ g0 g1 hW g2 hS hL ⟨⟨h1, h2⟩, ⟨h3, h4⟩, ⟨h1, h2⟩, h5⟩)
/-! branches -/
theorem s_goto (F : Fx P m d sc p l e R s mid args below meth c D aC ad0 n0 M0 A) {off : Int} {tgt : Nat} (hd : decode (P m).1.2.1 pc = .ok (.goto off, 3)) (ht : (pc : Int) + off = tgt) (k : WG P m p l e R s mid args below meth c D aC ad0 n0 M0 A Q tgt u L S σ) : WG P m p l e R s mid args below meth c D aC ad0 n0 M0 A Q pc u L S σ := by
  intro ad H locs ls st g0 g1 hW g2 hS hL hT
  exact lv_goto F.exec F.code hd ht (k ad H locs ls _ g0 g1 hW g2 hS hL hT)
theorem s_icmp (F : Fx P m d sc p l e R s mid args below meth c D aC ad0 n0 M0 A) {cc : ClassFile.Cond} {x y off : Int} {tgt : Nat} {r : List mV} (hd : decode (P m).1.2.1 pc = .ok (.if_icmp cc off, 3)) (ht : (pc : Int) + off = tgt) (kt : cmpI cc x y → WG P m p l e R s mid args below meth c D aC ad0 n0 M0 A Q tgt u L r σ) (kf : ¬ cmpI cc x y → WG P m p l e R s mid args below meth c D aC ad0 n0 M0 A Q (pc + 3) u L r σ) : WG P m p l e R s mid args below meth c D aC ad0 n0 M0 A Q pc u L (vi y :: vi x :: r) σ := by
  intro ad H locs ls st g0 g1 hW g2 hS hL hT
  obtain ⟨_, _, st', rfl, h1, h2, h3, h4, h5⟩ := sR_2 hT
  cases sv_i h1; cases sv_i h3
  have k1 := fun q => kt q ad H locs ls _ g0 g1 hW g2 hS hL h5
  have k2 := fun q => kf q ad H locs ls _ g0 g1 hW g2 hS hL h5
  have e := ofI_eq h4 h2
  have a1 := ofI_lt h4 h2
  have a2 := ofI_lt h2 h4
  have b1 := ofI_le h4 h2
  have b2 := ofI_le h2 h4
  cases cc with
  | eq => exact lv_icmp_eq F.exec F.code hd ht (fun q => k1 (e.mp q)) (fun q => k2 (fun z => q (e.mpr z)))
  | ne => exact lv_icmp_ne F.exec F.code hd ht (fun q => k1 (fun z => q (e.mpr z))) (fun q => k2 (fun z => z (e.mp q)))
  | lt => exact lv_icmp_lt F.exec F.code hd ht (fun q => k1 (a1.mp q)) (fun q => k2 (fun z => q (a1.mpr z)))
  | ge => exact lv_icmp_ge F.exec F.code hd ht (fun q => k1 (b2.mp q)) (fun q => k2 (fun z => q (b2.mpr z)))
  | gt => exact lv_icmp_gt F.exec F.code hd ht (fun q => k1 (a2.mp q)) (fun q => k2 (fun z => q (a2.mpr z)))
  | le => exact lv_icmp_le F.exec F.code hd ht (fun q => k1 (b1.mp q)) (fun q => k2 (fun z => q (b1.mpr z)))
theorem s_if (F : Fx P m d sc p l e R s mid args below meth c D aC ad0 n0 M0 A) {cc : ClassFile.Cond} {x off : Int} {tgt : Nat} {r : List mV} (hd : decode (P m).1.2.1 pc = .ok (.ifCond cc off, 3)) (ht : (pc : Int) + off = tgt) (kt : cmpI cc x 0 → WG P m p l e R s mid args below meth c D aC ad0 n0 M0 A Q tgt u L r σ) (kf : ¬ cmpI cc x 0 → WG P m p l e R s mid args below meth c D aC ad0 n0 M0 A Q (pc + 3) u L r σ) : WG P m p l e R s mid args below meth c D aC ad0 n0 M0 A Q pc u L (vi x :: r) σ := by
  intro ad H locs ls st g0 g1 hW g2 hS hL hT
  obtain ⟨_, st', rfl, h1, h2, h5⟩ := sR_cons hT
  cases sv_i h1
  have k1 := fun q => kt q ad H locs ls _ g0 g1 hW g2 hS hL h5
  have k2 := fun q => kf q ad H locs ls _ g0 g1 hW g2 hS hL h5
  have e := ofI_eq h2 inR_0
  have a1 := ofI_lt h2 inR_0
  have a2 := ofI_lt inR_0 h2
  have b1 := ofI_le h2 inR_0
  have b2 := ofI_le inR_0 h2
  cases cc with
  | eq => exact lv_if_eq F.exec F.code hd ht (fun q => k1 (e.mp q)) (fun q => k2 (fun z => q (e.mpr z)))
  | ne => exact lv_if_ne F.exec F.code hd ht (fun q => k1 (fun z => q (e.mpr z))) (fun q => k2 (fun z => z (e.mp q)))
  | lt => exact lv_if_lt F.exec F.code hd ht (fun q => k1 (a1.mp q)) (fun q => k2 (fun z => q (a1.mpr z)))
  | ge => exact lv_if_ge F.exec F.code hd ht (fun q => k1 (b2.mp q)) (fun q => k2 (fun z => q (b2.mpr z)))
  | gt => exact lv_if_gt F.exec F.code hd ht (fun q => k1 (a2.mp q)) (fun q => k2 (fun z => q (a2.mpr z)))
  | le => exact lv_if_le F.exec F.code hd ht (fun q => k1 (b1.mp q)) (fun q => k2 (fun z => q (b1.mpr z)))
theorem s_table (F : Fx P m d sc p l e R s mid args below meth c D aC ad0 n0 M0 A) {dflt lo hi : Int} {offs : Array Int} {len : Nat} {x : Int} {r : List mV} {ts : List Nat} {df : Nat} {pcs : Nat → Nat} (hd : decode (P m).1.2.1 pc = .ok (.tableswitch dflt lo hi offs, len)) (hlo : ts.length = offs.size) (hhi : hi = lo + ts.length - 1)
    (hdf : (pc : Int) + dflt = pcs df) (hts : ∀ i, i < ts.length → ∃ off, offs[i]? = some off ∧ (pc : Int) + off = pcs (ts.getD i df)) (k : WG P m p l e R s mid args below meth c D aC ad0 n0 M0 A Q (pcs (swT lo ts df x)) u L r σ) : WG P m p l e R s mid args below meth c D aC ad0 n0 M0 A Q pc u L (vi x :: r) σ := by
  intro ad H locs ls st g0 g1 hW g2 hS hL hT
  obtain ⟨_, st', rfl, h1, h2, h5⟩ := sR_cons hT
  cases sv_i h1
  have k1 := k ad H locs ls _ g0 g1 hW g2 hS hL h5
  by_cases c1 : x < lo
  · rw [swT, if_pos c1] at k1
    exact lv_tableOut F.exec F.code hd (Or.inl (by rw [ofI_toInt h2]; exact c1)) hdf k1
  · rw [swT, if_neg c1] at k1
    by_cases c2 : hi < x
    · have e : ts.getD (x - lo).toNat df = df := by
        rw [List.getD_eq_getElem?_getD, List.getElem?_eq_none (by omega)]
        rfl
      rw [e] at k1
      exact lv_tableOut F.exec F.code hd (Or.inr (by rw [ofI_toInt h2]; exact c2)) hdf k1
    · obtain ⟨off, o1, o2⟩ := hts (x - lo).toNat (by omega)
      exact lv_tableIn F.exec F.code hd (by rw [ofI_toInt h2]; exact c1) (by rw [ofI_toInt h2]; exact c2) (by rw [ofI_toInt h2]; exact o1) o2 k1
end AR
end
section
section HP
variable {P : mP} {m d : Nat} {sc : Bool} {p : Program} {l : Launch} {e : Env} {R : Room} {s : State} {mid : MethodId} {args : Array Value} {below : List Frame} {meth : Method} {c : Code} {D : va_G} {aC : FieldType → ClassId} {ad0 : Nat → Nat} {n0 : Nat} {M0 : mM} {A : Nat → Prop} {Q : State → Prop}
variable {pc u : Nat} {L S : List mV} {σ : mS}
theorem mset_ne {M : mM} {k j k' : Nat} {x : Int} (h : k' ≠ k) : mset M k j x k' = M k' := by
  funext b
  unfold mset
  rw [if_neg (fun q => h q.1)]
theorem mset_inR {sh : List mSh} {M : mM} {k j : Nat} {x : Int} (hx : (∀ q, sh[k]? = some q → q.1 ≠ 4) → inR x) (h : mRg (sh, M)) : mRg (sh, mset M k j x) := by
  intro a b hab
  show inR (mset M k j x a b)
  unfold mset
  by_cases hc : a = k ∧ b = j
  · rw [if_pos hc]
    rw [hc.1] at hab
    exact hx hab
  · rw [if_neg hc]; exact h a b hab
theorem mWf.ge {σ : mS} (h : mWf σ) {k : Nat} {sh : mSh} (hk : σ.1[k]? = some sh) (h4 : sh.1 ≤ 4) : 5 ≤ k := by
  rcases Nat.lt_or_ge k 5 with h5 | h5
  · exfalso
    have e : (σ.1.take 5)[k]? = σ.1[k]? := by rw [List.getElem?_take, if_pos h5]
    rw [h.2.1, hk] at e
    rcases (show k = 0 ∨ k = 1 ∨ k = 2 ∨ k = 3 ∨ k = 4 by omega) with rfl | rfl | rfl | rfl | rfl <;> (cases e; revert h4; decide)
  · exact h5
theorem mWf.ro {σ : mS} (h : mWf σ) {k n : Nat} {fs : List (Option (Option Nat))} (hk : σ.1[k]? = some (5, n, fs)) : k < 3 ∧ n = 6 := by
  rcases Nat.lt_or_ge k 5 with h5 | h5
  · have e : (σ.1.take 5)[k]? = σ.1[k]? := by rw [List.getElem?_take, if_pos h5]
    rw [h.2.1, hk] at e
    rcases (show k = 0 ∨ k = 1 ∨ k = 2 ∨ k = 3 ∨ k = 4 by omega) with rfl | rfl | rfl | rfl | rfl <;> (cases e <;> decide)
  · have := (h.2.2 k _ h5 hk)
    exact absurd this.1 (by decide)
/-- one cell written anew -/
theorem mWd.set {ad : Nat → Nat} {σ' : mS} {k : Nat} {sh sh' : mSh} {E : va_E} {H1 : Heap} (hW : mWf σ) (h : σ.1[k]? = some sh) (h4 : sh.1 ≤ 4) (h' : σ'.1[k]? = some sh') (hE : E = mE aC ad sh' (σ'.2 k)) (hn : σ'.1.length = σ.1.length) (ho : ∀ j, j ≠ k → σ'.1[j]? = σ.1[j]?) (hM : ∀ j, j ≠ k → σ'.2 j = σ.2 j)
    (hok : mShOk σ.1.length sh') (h4' : sh'.1 ≤ 4) (hr : mRg σ') (hP : va_P D mcl ((mws aC ad σ).set (k - 5) (ad k, E)) H1) (hD : va_D A ((mws aC ad σ).set (k - 5) (ad k, E))) : mWd D aC ad σ' A H1 := by
  have h5 := hW.ge h h4
  have e := mws_set (aC := aC) (ad := ad) h5 (List.getElem?_eq_some_iff.mp h).1 h' hE hn ho hM
  rw [e] at hP hD
  refine ⟨hP, hD, ⟨by rw [hn]; exact hW.1, ?_, fun j q hj hq => ?_⟩, hr⟩
  · rw [← hW.2.1]
    apply List.ext_getElem?
    intro i
    rw [List.getElem?_take, List.getElem?_take]
    by_cases hi : i < 5
    · rw [if_pos hi, if_pos hi, ho i (by omega)]
    · rw [if_neg hi, if_neg hi]
  · rw [hn]
    by_cases hjk : j = k
    · subst hjk
      rw [h'] at hq
      cases hq
      exact hok
    · rw [ho j hjk] at hq
      exact hW.2.2 j q hj hq
theorem mE_obj {ad : Nat → Nat} {ci : Nat} {fs : List (Option (Option Nat))} {f : Nat → Int} {b : Nat} (hb : b < fs.length) : ((List.range fs.length).map fun j => match fs[j]? with
    | some (some t) => vv ad (.inr (.inl t))
    | _ => Value.int (Int32.ofInt (f j)))[b]? = some (match fs[b]? with
    | some (some t) => vv ad (.inr (.inl t))
    | _ => Value.int (Int32.ofInt (f b))) := by
  rw [List.getElem?_map, List.getElem?_range hb]
  rfl
theorem s_getf (F : Fx P m d sc p l e R s mid args below meth c D aC ad0 n0 M0 A) {k ci b i idx : Nat} {fs : List (Option (Option Nat))} {q : vw_C} {r : List mV} {v : mV} (hk : σ.1[k]? = some (0, ci, fs)) (hq : mcl[ci]? = some q) (hl : lw_tbl[i]? = some (.fieldLink (P m).1.1.cls idx (q.2.1 b).1 (q.2.1 b).2.1 (q.2.1 b).2.2.1)) (hd : decode (P m).1.2.1 pc = .ok (.getfield idx, 3))
    (hv : (fs[b]? = some none ∧ v = vi (σ.2 k b)) ∨ ∃ t, fs[b]? = some (some t) ∧ v = .inr (.inl t)) (kk : WG P m p l e R s mid args below meth c D aC ad0 n0 M0 A Q (pc + 3) u L (v :: r) σ) : WG P m p l e R s mid args below meth c D aC ad0 n0 M0 A Q pc u L (vr k :: r) σ := by
  intro ad H locs ls st g0 g1 hW g2 hS hL hT
  obtain ⟨_, st', rfl, h1, h2, h3⟩ := sR_cons hT
  cases sv_r h1
  have h5 := hW.2.2.1.ge hk (Nat.zero_le 4)
  have hok := hW.2.2.1.2.2 k _ h5 hk
  obtain ⟨⟨q', hq', hlen⟩, hrefs⟩ := hok
  cases Option.some.inj (hq.symm.trans hq')
  have hb : b < fs.length := by
    rcases hv with ⟨h, -⟩ | ⟨t, h, -⟩ <;> exact (List.getElem?_eq_some_iff.mp h).1
  have hval : (match fs[b]? with
    | some (some t) => vv ad (.inr (.inl t))
    | _ => Value.int (Int32.ofInt (σ.2 k b))) = vv ad v := by
    rcases hv with ⟨h, rfl⟩ | ⟨t, h, rfl⟩ <;> rw [h] <;> rfl
  have hov : okV σ.1.length v := by
    rcases hv with ⟨h, rfl⟩ | ⟨t, h, rfl⟩
    · exact hW.2.2.2 k b (fun sh hsh => by rw [hk] at hsh; cases hsh; exact (show (0:Nat) ≠ 4 by decide))
    · cases t with
      | none => trivial
      | some t => exact hrefs t (List.mem_of_getElem? h)
  refine va_get (D := D) (T := q.2.1) (N := q.2.2) (C := q.1) (ref := (q.2.1 b).1) F.exec F.code F.ts (mcl_ws ci q hq) F.own F.kn.1 hW.1 (k - 5) (mws_get hk h5) hq b (by omega) (gd_at F hl rfl) (fun _ h9 => h9) (mE_obj (ci := ci) hb) hd ?_
  rw [hval]
  exact kk ad H locs ls _ g0 g1 hW g2 hS hL ⟨⟨Or.inl rfl, hov⟩, h3⟩
theorem range_set {α : Type} {n b : Nat} {F G : Nat → α} {v : α} (hb : b < n) (hv : G b = v) (ho : ∀ j, j ≠ b → G j = F j) : ((List.range n).map F).set b v = (List.range n).map G := by
  apply List.ext_getElem?
  intro i
  by_cases hi : i = b
  · subst hi
    rw [List.getElem?_set_self (by simp; exact hb), List.getElem?_map, List.getElem?_range hb]
    exact congrArg some hv.symm
  · rw [List.getElem?_set_ne (Ne.symm hi), List.getElem?_map, List.getElem?_map]
    cases hx : (List.range n)[i]? with
    | none => rfl
    | some j =>
      have hin : i < n := by
        have h1 := (List.getElem?_eq_some_iff.mp hx).1
        rwa [List.length_range] at h1
      rw [List.getElem?_range hin] at hx
      cases hx
      exact congrArg some (ho i hi).symm
/-- a number into a field -/
theorem s_putf (F : Fx P m d sc p l e R s mid args below meth c D aC ad0 n0 M0 A) {k ci b i idx : Nat} {x : Int} {fs : List (Option (Option Nat))} {q : vw_C} {r : List mV} (hk : σ.1[k]? = some (0, ci, fs)) (hq : mcl[ci]? = some q) (hl : lw_tbl[i]? = some (.fieldLink (P m).1.1.cls idx (q.2.1 b).1 (q.2.1 b).2.1 (q.2.1 b).2.2.1)) (hd : decode (P m).1.2.1 pc = .ok (.putfield idx, 3))
    (hb : fs[b]? = some none) (hf : (q.2.1 b).2.2.2 = false) (ht : mty ci b = .int ∨ (mty ci b = .boolean ∧ bit? x = true)) (kk : WG P m p l e R s mid args below meth c D aC ad0 n0 M0 A Q (pc + 3) u L r (σ.1, mset σ.2 k b x)) : WG P m p l e R s mid args below meth c D aC ad0 n0 M0 A Q pc u L (vi x :: vr k :: r) σ := by
  intro ad H locs ls st g0 g1 hW g2 hS hL hT
  obtain ⟨_, _, st', rfl, h1, h2, h3, h4, h5⟩ := sR_2 hT
  cases sv_i h1; cases sv_r h3
  have hk5 := hW.2.2.1.ge hk (Nat.zero_le 4)
  have hok := hW.2.2.1.2.2 k _ hk5 hk
  have hok' := hok
  obtain ⟨⟨q', hq', hlen⟩, hrefs⟩ := hok
  cases Option.some.inj (hq.symm.trans hq')
  have hbl : b < fs.length := (List.getElem?_eq_some_iff.mp hb).1
  obtain ⟨t1, t2⟩ := mcl_ty ci q hq
  have hnf : narrow (mty ci b) (.int (Int32.ofInt x)) = .int (Int32.ofInt x) ∧ fits (mty ci b) (.int (Int32.ofInt x)) = true := by
    rcases ht with ht | ⟨ht, hx⟩
    · rw [ht]; exact ⟨rfl, rfl⟩
    · rw [ht]
      unfold bit? at hx
      rw [Bool.or_eq_true, decide_eq_true_eq, decide_eq_true_eq] at hx
      rcases hx with rfl | rfl <;> exact ⟨rfl, rfl⟩
  refine va_put (D := D) (T := q.2.1) (N := q.2.2) (C := q.1) (ref := (q.2.1 b).1) F.exec F.code F.ts (mcl_ws ci q hq) (mty ci) t1 t2 F.own F.kn.1 hW.1 hW.2.1 hS (k - 5) (mws_get hk hk5) hq b (by omega) (gd_at F hl rfl) (fun _ h9 => h9) hf (t1 b (by omega)) hnf.1 hnf.2 (by simp; exact hbl) hd (fun H1 locs1 hP1 hD1 hS1 => ?_)
  have hw' : mWd D aC ad (σ.1, mset σ.2 k b x) A H1 := by
    refine mWd.set (σ' := (σ.1, mset σ.2 k b x)) hW.2.2.1 hk (Nat.zero_le 4) hk ?_ rfl (fun _ _ => rfl) (fun j hj => mset_ne hj) hok' (Nat.zero_le 4) (mset_inR (fun _ => h2) hW.2.2.2) hP1 hD1
    show (Sum.inr (ci, _) : va_E) = Sum.inr (ci, _)
    congr 2
    refine range_set hbl ?_ (fun j hj => ?_)
    · rw [hb]
      show Value.int (Int32.ofInt (mset σ.2 k b x k b)) = _
      unfold mset
      rw [if_pos ⟨rfl, rfl⟩]
    · have e : mset σ.2 k b x k j = σ.2 k j := by unfold mset; rw [if_neg (fun z => hj z.2)]
      show (match fs[j]? with
        | some (some t) => vv ad (.inr (.inl t))
        | _ => Value.int (Int32.ofInt (mset σ.2 k b x k j))) = _
      rw [e]
      rfl
  exact kk ad H1 locs1 ls _ g0 g1 hw' (fun j hj => (mset_ne (by omega)).trans (g2 j hj)) hS1 hL h5
/-- a reference into a field, in a constructor -/
theorem s_putr (F : Fx P m d sc p l e R s mid args below meth c D aC ad0 n0 M0 A) {k ci b i idx : Nat} {t : Option Nat} {t0 : Option Nat} {fs : List (Option (Option Nat))} {q : vw_C} {r : List mV} (hk : σ.1[k]? = some (0, ci, fs)) (hq : mcl[ci]? = some q) (hl : lw_tbl[i]? = some (.fieldLink (P m).1.1.cls idx (q.2.1 b).1 (q.2.1 b).2.1 (q.2.1 b).2.2.1)) (hd : decode (P m).1.2.1 pc = .ok (.putfield idx, 3))
    (hb : fs[b]? = some (some t0)) (hf : (q.2.1 b).2.2.2 = true) (hin : (P m).1.1.name = "<init>") (hdc : (q.2.1 b).1 = (P m).1.1.cls) (ht : (∃ n, mty ci b = .object n) ∨ ∃ z, mty ci b = .array z) (kk : WG P m p l e R s mid args below meth c D aC ad0 n0 M0 A Q (pc + 3) u L r (σ.1.set k (0, ci, fs.set b (some t)), σ.2)) : WG P m p l e R s mid args below meth c D aC ad0 n0 M0 A Q pc u L (.inr (.inl t) :: vr k :: r) σ := by
  intro ad H locs ls st g0 g1 hW g2 hS hL hT
  obtain ⟨_, _, st', rfl, h1, h2, h3, h4, h5⟩ := sR_2 hT
  cases sv_r h1; cases sv_r h3
  have hk5 := hW.2.2.1.ge hk (Nat.zero_le 4)
  have hok := hW.2.2.1.2.2 k _ hk5 hk
  have hkl := (List.getElem?_eq_some_iff.mp hk).1
  obtain ⟨⟨q', hq', hlen⟩, hrefs⟩ := hok
  cases Option.some.inj (hq.symm.trans hq')
  have hbl : b < fs.length := (List.getElem?_eq_some_iff.mp hb).1
  obtain ⟨t1, t2⟩ := mcl_ty ci q hq
  have hnf : narrow (mty ci b) (vv ad (.inr (.inl t))) = vv ad (.inr (.inl t)) ∧ fits (mty ci b) (vv ad (.inr (.inl t))) = true := by
    rcases ht with ⟨n, ht⟩ | ⟨z, ht⟩ <;> rw [ht] <;> cases t <;> exact ⟨rfl, rfl⟩
  refine va_putF (D := D) (T := q.2.1) (N := q.2.2) (C := q.1) (ref := (q.2.1 b).1) F.exec F.code F.ts (mcl_ws ci q hq) (mty ci) t1 t2 F.own F.kn.1 hW.1 hW.2.1 hS (k - 5) (mws_get hk hk5) hq b (by omega) (gd_at F hl rfl) (fun _ h9 => h9) hf (F.nm.trans hin) hdc (t1 b (by omega)) hnf.1 hnf.2 (by simp; exact hbl) hd (fun H1 locs1 hP1 hD1 hS1 => ?_)
  have hset : (σ.1.set k (0, ci, fs.set b (some t)))[k]? = some (0, ci, fs.set b (some t)) := List.getElem?_set_self hkl
  have hlen' : (σ.1.set k (0, ci, fs.set b (some t))).length = σ.1.length := List.length_set
  have hw' : mWd D aC ad (σ.1.set k (0, ci, fs.set b (some t)), σ.2) A H1 := by
    refine mWd.set (σ' := (σ.1.set k (0, ci, fs.set b (some t)), σ.2)) hW.2.2.1 hk (Nat.zero_le 4) hset ?_ hlen' (fun j hj => List.getElem?_set_ne (Ne.symm hj)) (fun _ _ => rfl) ⟨⟨q, hq, by rw [List.length_set]; exact hlen⟩, fun z hz => ?_⟩ (Nat.zero_le 4) (fun a j hj => hW.2.2.2 a j (fun sh hsh => ?_)) hP1 hD1
    · show (Sum.inr (ci, _) : va_E) = Sum.inr (ci, _)
      congr 2
      show _ = (List.range (fs.set b (some t)).length).map _
      rw [List.length_set]
      refine range_set hbl ?_ (fun j hj => ?_)
      · rw [List.getElem?_set_self hbl]
      · rw [List.getElem?_set_ne (Ne.symm hj)]
    · obtain ⟨j, hj⟩ := List.getElem?_of_mem hz
      by_cases hjb : j = b
      · subst hjb
        rw [List.getElem?_set_self hbl] at hj
        cases hj
        exact h2
      · rw [List.getElem?_set_ne (Ne.symm hjb)] at hj
        exact hrefs z (List.mem_of_getElem? hj)
    · by_cases hak : a = k
      · subst hak
        rw [hk] at hsh
        cases hsh
        exact (show (0:Nat) ≠ 4 by decide)
      · exact hj sh (by show (σ.1.set k _)[a]? = _; rw [List.getElem?_set_ne (Ne.symm hak)]; exact hsh)
  refine kk ad H1 locs1 ls _ (by show n0 ≤ (σ.1.set k _).length; rw [hlen']; exact g0) g1 hw' g2 hS1 ?_ ?_
  · show lR ad (σ.1.set k _).length L ls _
    rw [hlen']; exact hL
  · show sR ad (σ.1.set k _).length r _
    rw [hlen']; exact h5
/-- reads of arrays -/
theorem s_iald (F : Fx P m d sc p l e R s mid args below meth c D aC ad0 n0 M0 A) {k : Nat} {x : Int} {r : List mV} (hx : 0 ≤ x ∧ x < alI σ k) (hd : decode (P m).1.2.1 pc = .ok (.iaload, 1)) (kk : WG P m p l e R s mid args below meth c D aC ad0 n0 M0 A Q (pc + 1) u L (vi (σ.2 k x.toNat) :: r) σ) : WG P m p l e R s mid args below meth c D aC ad0 n0 M0 A Q pc u L (vi x :: vr k :: r) σ := by
  intro ad H locs ls st g0 g1 hW g2 hS hL hT
  obtain ⟨_, _, st', rfl, h1, h2, h3, h4, h5⟩ := sR_2 hT
  cases sv_i h1; cases sv_r h3
  obtain ⟨hx0, hx1⟩ := hx
  have hxR := hW.2.2.2
  have fin := fun h => kk ad H locs ls (.int (Int32.ofInt (σ.2 k x.toNat)) :: st') g0 g1 hW g2 hS hL ⟨⟨Or.inl rfl, h⟩, h5⟩
  unfold alI at hx1
  split at hx1
  · rename_i n fs hk
    have hk5 := hW.2.2.1.ge hk (show (1:Nat) ≤ 4 by decide)
    have hr := hxR k x.toNat (fun sh hsh => by rw [hk] at hsh; cases hsh; exact (show (1:Nat) ≠ 4 by decide))
    have h9 := va_iald (D := D) (cl := mcl) (Q := Q) (rest := st') (c := c) F.exec F.code F.kn.1 hW.1 (k - 5) 0 (mws_get hk hk5) rfl (ofI_in h2 hx0 hx1) hd (locs := locs) (ls := ls) (cells := u) (slots := 2100 * u) (args := args) (p := p) (l := l) (e := e) (R := R) (m := mid) (below := below) (meth := meth)
    refine h9 ?_
    show W _ _ _ _ _ _ _ _ _ _ _ _ _ _ _ (F0 _ _ _ (.int (Int32.ofInt (σ.2 k (Int32.ofInt x).toNatClampNeg)) :: _))
    rw [ofI_clamp h2]
    exact fin hr
  · rename_i n fs hk
    obtain ⟨hk3, rfl⟩ := hW.2.2.1.ro hk
    have hr := hxR k x.toNat (fun sh hsh => by rw [hk] at hsh; cases hsh; exact (show (5:Nat) ≠ 4 by decide))
    have hT9 := (F.st0.2.2.2.1 k hk3).1
    rw [← g1 k (by have := F.n5; omega)] at hT9
    refine va_ti (N := 6) F.exec F.code hT9 hS (ofI_in h2 hx0 hx1) (v := .int (Int32.ofInt (σ.2 k x.toNat))) ?_ hd (fin hr)
    rw [ofI_clamp h2, g2 k (by omega)]
  · exact absurd hx1 (by omega)
theorem alK_some {kd k : Nat} {x : Int} (h0 : 0 ≤ x) (h : x < alK σ kd k) : ∃ n fs, σ.1[k]? = some (kd, n, fs) ∧ x < (n : Int) := by
  unfold alK at h
  split at h
  · rename_i q n fs hk
    by_cases hq : q = kd
    · rw [if_pos hq] at h
      subst hq
      exact ⟨n, fs, hk, h⟩
    · rw [if_neg hq] at h
      omega
  · omega
theorem s_cald (F : Fx P m d sc p l e R s mid args below meth c D aC ad0 n0 M0 A) {k : Nat} {x : Int} {r : List mV} (hx : 0 ≤ x ∧ x < alK σ 2 k) (hd : decode (P m).1.2.1 pc = .ok (.caload, 1)) (kk : WG P m p l e R s mid args below meth c D aC ad0 n0 M0 A Q (pc + 1) u L (vi (σ.2 k x.toNat) :: r) σ) : WG P m p l e R s mid args below meth c D aC ad0 n0 M0 A Q pc u L (vi x :: vr k :: r) σ := by
  intro ad H locs ls st g0 g1 hW g2 hS hL hT
  obtain ⟨_, _, st', rfl, h1, h2, h3, h4, h5⟩ := sR_2 hT
  cases sv_i h1; cases sv_r h3
  obtain ⟨n, fs, hk, hn⟩ := alK_some (kd := 2) hx.1 hx.2
  have hk5 := hW.2.2.1.ge hk (show (2:Nat) ≤ 4 by decide)
  refine va_cald (D := D) (cl := mcl) F.exec F.code F.kn.1 hW.1 (k - 5) 1 (mws_get hk hk5) rfl (ofI_in h2 hx.1 hn) hd ?_
  show W _ _ _ _ _ _ _ _ _ _ _ _ _ _ _ (F0 _ _ _ (.int (Int32.ofInt (σ.2 k (Int32.ofInt x).toNatClampNeg)) :: _))
  rw [ofI_clamp h2]
  exact kk ad H locs ls _ g0 g1 hW g2 hS hL ⟨⟨Or.inl rfl, hW.2.2.2 k x.toNat (fun sh hsh => by rw [hk] at hsh; cases hsh; exact (show (2:Nat) ≠ 4 by decide))⟩, h5⟩
theorem s_lald (F : Fx P m d sc p l e R s mid args below meth c D aC ad0 n0 M0 A) {k : Nat} {x : Int} {r : List mV} (hx : 0 ≤ x ∧ x < alK σ 3 k) (hd : decode (P m).1.2.1 pc = .ok (.laload, 1)) (kk : WG P m p l e R s mid args below meth c D aC ad0 n0 M0 A Q (pc + 1) u L (vl (σ.2 k x.toNat) :: r) σ) : WG P m p l e R s mid args below meth c D aC ad0 n0 M0 A Q pc u L (vi x :: vr k :: r) σ := by
  intro ad H locs ls st g0 g1 hW g2 hS hL hT
  obtain ⟨_, _, st', rfl, h1, h2, h3, h4, h5⟩ := sR_2 hT
  cases sv_i h1; cases sv_r h3
  obtain ⟨n, fs, hk, hn⟩ := alK_some (kd := 3) hx.1 hx.2
  have hk5 := hW.2.2.1.ge hk (show (3:Nat) ≤ 4 by decide)
  refine va_lald (D := D) (cl := mcl) F.exec F.code F.kn.1 hW.1 (k - 5) 2 (mws_get hk hk5) rfl (ofI_in h2 hx.1 hn) hd ?_
  show W _ _ _ _ _ _ _ _ _ _ _ _ _ _ _ (F0 _ _ _ (.long (Int64.ofInt (σ.2 k (Int32.ofInt x).toNatClampNeg)) :: _))
  rw [ofI_clamp h2]
  exact kk ad H locs ls _ g0 g1 hW g2 hS hL ⟨⟨Or.inl rfl, hW.2.2.2 k x.toNat (fun sh hsh => by rw [hk] at hsh; cases hsh; exact (show (3:Nat) ≠ 4 by decide))⟩, h5⟩
theorem s_dald (F : Fx P m d sc p l e R s mid args below meth c D aC ad0 n0 M0 A) {k : Nat} {x : Int} {r : List mV} (hx : 0 ≤ x ∧ x < alK σ 4 k) (hd : decode (P m).1.2.1 pc = .ok (.daload, 1)) (kk : WG P m p l e R s mid args below meth c D aC ad0 n0 M0 A Q (pc + 1) u L (vd (UInt64.ofNat (σ.2 k x.toNat).toNat) :: r) σ) : WG P m p l e R s mid args below meth c D aC ad0 n0 M0 A Q pc u L (vi x :: vr k :: r) σ := by
  intro ad H locs ls st g0 g1 hW g2 hS hL hT
  obtain ⟨_, _, st', rfl, h1, h2, h3, h4, h5⟩ := sR_2 hT
  cases sv_i h1; cases sv_r h3
  obtain ⟨n, fs, hk, hn⟩ := alK_some (kd := 4) hx.1 hx.2
  have hk5 := hW.2.2.1.ge hk (show (4:Nat) ≤ 4 by decide)
  refine va_dald (D := D) (cl := mcl) F.exec F.code F.kn.1 hW.1 (k - 5) 3 (mws_get hk hk5) rfl (ofI_in h2 hx.1 hn) hd ?_
  show W _ _ _ _ _ _ _ _ _ _ _ _ _ _ _ (F0 _ _ _ (.double (UInt64.ofNat (σ.2 k (Int32.ofInt x).toNatClampNeg).toNat) :: _))
  rw [ofI_clamp h2]
  exact kk ad H locs ls _ g0 g1 hW g2 hS hL ⟨⟨Or.inl rfl, trivial⟩, h5⟩
theorem s_alen (F : Fx P m d sc p l e R s mid args below meth c D aC ad0 n0 M0 A) {k : Nat} {r : List mV} (hx : 0 < alA σ k) (hd : decode (P m).1.2.1 pc = .ok (.arraylength, 1)) (kk : WG P m p l e R s mid args below meth c D aC ad0 n0 M0 A Q (pc + 1) u L (vi (alA σ k) :: r) σ) : WG P m p l e R s mid args below meth c D aC ad0 n0 M0 A Q pc u L (vr k :: r) σ := by
  intro ad H locs ls st g0 g1 hW g2 hS hL hT
  obtain ⟨_, st', rfl, h1, h2, h5⟩ := sR_cons hT
  cases sv_r h1
  have fin : ∀ n : Nat, alA σ k = n → n ≤ 2100 → W p l e R s mid args below meth c H locs u (2100 * u) Q (F0 mid (pc + 1) ls (.int (Int32.ofNat n) :: st')) := by
    intro n hn hle
    refine kk ad H locs ls _ g0 g1 hW g2 hS hL ⟨⟨Or.inl ?_, ?_⟩, h5⟩
    · rw [hn]
      show Value.int _ = Value.int _
      rw [← Int32.ofInt_eq_ofNat]
    · rw [hn]; show inR n; unfold inR; omega
  unfold alA at hx
  split at hx
  · omega
  · omega
  · rename_i q n fs hn0 hn6 hk
    have hA : alA σ k = n := by
      unfold alA
      rw [hk]
      split
      · rename_i h; cases h; exact (hn0 rfl).elim
      · rename_i h; cases h; exact (hn6 rfl).elim
      · rename_i h; cases h; rfl
      · rename_i h; cases h
    by_cases hq : q ≤ 4
    · have hk5 := hW.2.2.1.ge hk hq
      have hok := hW.2.2.1.2.2 k _ hk5 hk
      have hle : n ≤ 2100 := by
        rcases q with _ | q
        · exact (hn0 rfl).elim
        · exact hok.2
      have key : ∀ (t0 : Nat) (cA : ClassId) (x : vp_A) (ty : FieldType), mE aC ad (q, n, fs) (σ.2 k) = .inl (cA, x) → x.1 = n → (mTy aC)[t0]? = some (cA, ty) → W p l e R s mid args below meth c H locs u (2100 * u) Q (F0 mid pc ls (Value.ref (ad k) :: st')) := by
        intro t0 cA x ty e1 e2 e3
        have g := mws_get (aC := aC) (ad := ad) hk hk5
        rw [e1] at g
        exact va_alen (D := D) (cl := mcl) F.exec F.code F.kn.1 hW.1 (k - 5) t0 g e3 (by rw [e2]) hd (fin n hA hle)
      rcases (show q = 0 ∨ q = 1 ∨ q = 2 ∨ q = 3 ∨ q = 4 by omega) with rfl | rfl | rfl | rfl | rfl
      · exact (hn0 rfl).elim
      · exact key 0 _ _ _ rfl rfl rfl
      · exact key 1 _ _ _ rfl rfl rfl
      · exact key 2 _ _ _ rfl rfl rfl
      · exact key 3 _ _ _ rfl rfl rfl
    · by_cases hq5 : q = 5
      · subst hq5
        obtain ⟨hk3, rfl⟩ := hW.2.2.1.ro hk
        have hT9 := (F.st0.2.2.2.1 k hk3).1
        rw [← g1 k (by have := F.n5; omega)] at hT9
        exact va_tlen F.exec F.code hT9 hS rfl hd (fin 6 hA (by decide))
      · exfalso
        rcases Nat.lt_or_ge k 5 with h5' | h5'
        · have e : (σ.1.take 5)[k]? = σ.1[k]? := by rw [List.getElem?_take, if_pos h5']
          rw [hW.2.2.1.2.1, hk] at e
          rcases (show k = 0 ∨ k = 1 ∨ k = 2 ∨ k = 3 ∨ k = 4 by omega) with rfl | rfl | rfl | rfl | rfl <;> cases e
          · exact hq5 rfl
          · exact hq5 rfl
          · exact hq5 rfl
          · exact hn6 rfl
          · exact absurd hx (by decide)
        · have hok := hW.2.2.1.2.2 k _ h5' hk
          rcases q with _ | q
          · exact hq (Nat.zero_le 4)
          · exact hq hok.1
  · omega
end HP
end
section
section ST
variable {P : mP} {m d : Nat} {sc : Bool} {p : Program} {l : Launch} {e : Env} {R : Room} {s : State} {mid : MethodId} {args : Array Value} {below : List Frame} {meth : Method} {c : Code} {D : va_G} {aC : FieldType → ClassId} {ad0 : Nat → Nat} {n0 : Nat} {M0 : mM} {A : Nat → Prop} {Q : State → Prop}
variable {pc u : Nat} {L S : List mV} {σ : mS}
theorem upd_m (M : mM) (k : Nat) {x v : Int} (hx : inR x) : upd (fun j => Int32.ofInt (M k j)) (Int32.ofInt x).toNatClampNeg (Int32.ofInt v) = fun j => Int32.ofInt (mset M k x.toNat v k j) := by
  funext j
  rw [ofI_clamp hx]
  show (if j = x.toNat then Int32.ofInt v else Int32.ofInt (M k j)) = Int32.ofInt (mset M k x.toNat v k j)
  unfold mset
  by_cases h : j = x.toNat
  · rw [if_pos h, if_pos ⟨rfl, h⟩]
  · rw [if_neg h, if_neg (fun z => h z.2)]
theorem set_one {ad : Nat → Nat} {k n kd : Nat} {fs : List (Option (Option Nat))} {M' : mM} {E : va_E} {H1 : Heap} {f' : Nat → Int} (hW : mWf σ) (h : σ.1[k]? = some (kd, n, fs)) (h1 : 1 ≤ kd) (h4 : kd ≤ 4) (hE : E = mE aC ad (kd, n, fs) (M' k)) (hM : ∀ j, j ≠ k → M' j = σ.2 j) (hr : mRg (σ.1, M'))
    (hP : va_P D mcl ((mws aC ad σ).set (k - 5) (ad k, E)) H1) (hD : va_D A ((mws aC ad σ).set (k - 5) (ad k, E))) : mWd D aC ad (σ.1, M') A H1 :=
  mWd.set (σ' := (σ.1, M')) hW h h4 h hE rfl (fun _ _ => rfl) hM (hW.2.2 k _ (hW.ge h h4) h) h4 hr hP hD
theorem s_iast (F : Fx P m d sc p l e R s mid args below meth c D aC ad0 n0 M0 A) {k : Nat} {x v : Int} {r : List mV} (hx : 0 ≤ x ∧ x < alK σ 1 k) (hd : decode (P m).1.2.1 pc = .ok (.iastore, 1)) (kk : WG P m p l e R s mid args below meth c D aC ad0 n0 M0 A Q (pc + 1) u L r (σ.1, mset σ.2 k x.toNat v)) : WG P m p l e R s mid args below meth c D aC ad0 n0 M0 A Q pc u L (vi v :: vi x :: vr k :: r) σ := by
  intro ad H locs ls st g0 g1 hW g2 hS hL hT
  obtain ⟨_, _, st1, rfl, h1, h2, h3, h4, h5⟩ := sR_2 hT
  obtain ⟨_, st', rfl, h6, h7, h8⟩ := sR_cons h5
  cases sv_i h1; cases sv_i h3; cases sv_r h6
  obtain ⟨n, fs, hk, hn⟩ := alK_some (kd := 1) hx.1 hx.2
  have hk5 := hW.2.2.1.ge hk (show (1:Nat) ≤ 4 by decide)
  refine va_iast (D := D) (cl := mcl) F.exec F.code F.kn.1 hW.1 hW.2.1 hS (k - 5) 0 (mws_get hk hk5) rfl (ofI_in h4 hx.1 hn) hd (fun H1 locs1 hP1 hD1 hS1 => ?_)
  have e := upd_m σ.2 k (v := v) h4
  rw [e] at hP1 hD1
  have hw' : mWd D aC ad (σ.1, mset σ.2 k x.toNat v) A H1 := set_one (f' := fun _ => 0) hW.2.2.1 hk (by decide) (by decide) rfl (fun j hj => mset_ne hj) (mset_inR (fun _ => h2) hW.2.2.2) hP1 hD1
  exact kk ad H1 locs1 ls _ g0 g1 hw' (fun j hj => (mset_ne (by omega)).trans (g2 j hj)) hS1 hL h8
theorem nar_char {v : Int} (h0 : 0 ≤ v) (h1 : v < 65536) : vp_nar .char (Int32.ofInt v) = Int32.ofInt v := by
  rw [vp_nar_char]
  have hR : inR v := by unfold inR; omega
  have e := ofI_i2c hR
  rw [Int.emod_eq_of_lt h0 h1] at e
  exact e
theorem s_cast (F : Fx P m d sc p l e R s mid args below meth c D aC ad0 n0 M0 A) {k : Nat} {x v : Int} {r : List mV} (hx : 0 ≤ x ∧ x < alK σ 2 k) (hv : 0 ≤ v ∧ v < 65536) (hd : decode (P m).1.2.1 pc = .ok (.castore, 1)) (kk : WG P m p l e R s mid args below meth c D aC ad0 n0 M0 A Q (pc + 1) u L r (σ.1, mset σ.2 k x.toNat v)) : WG P m p l e R s mid args below meth c D aC ad0 n0 M0 A Q pc u L (vi v :: vi x :: vr k :: r) σ := by
  intro ad H locs ls st g0 g1 hW g2 hS hL hT
  obtain ⟨_, _, st1, rfl, h1, h2, h3, h4, h5⟩ := sR_2 hT
  obtain ⟨_, st', rfl, h6, h7, h8⟩ := sR_cons h5
  cases sv_i h1; cases sv_i h3; cases sv_r h6
  obtain ⟨n, fs, hk, hn⟩ := alK_some (kd := 2) hx.1 hx.2
  have hk5 := hW.2.2.1.ge hk (show (2:Nat) ≤ 4 by decide)
  refine va_cast (D := D) (cl := mcl) F.exec F.code F.kn.1 hW.1 hW.2.1 hS (k - 5) 1 (mws_get hk hk5) rfl (ofI_in h4 hx.1 hn) hd (fun H1 locs1 hP1 hD1 hS1 => ?_)
  rw [nar_char hv.1 hv.2] at hP1 hD1
  have e := upd_m σ.2 k (v := v) h4
  rw [e] at hP1 hD1
  have hw' : mWd D aC ad (σ.1, mset σ.2 k x.toNat v) A H1 := set_one (f' := fun _ => 0) hW.2.2.1 hk (by decide) (by decide) rfl (fun j hj => mset_ne hj) (mset_inR (fun _ => h2) hW.2.2.2) hP1 hD1
  exact kk ad H1 locs1 ls _ g0 g1 hw' (fun j hj => (mset_ne (by omega)).trans (g2 j hj)) hS1 hL h8
theorem s_last (F : Fx P m d sc p l e R s mid args below meth c D aC ad0 n0 M0 A) {k : Nat} {x v : Int} {r : List mV} (hx : 0 ≤ x ∧ x < alK σ 3 k) (hd : decode (P m).1.2.1 pc = .ok (.lastore, 1)) (kk : WG P m p l e R s mid args below meth c D aC ad0 n0 M0 A Q (pc + 1) u L r (σ.1, mset σ.2 k x.toNat v)) : WG P m p l e R s mid args below meth c D aC ad0 n0 M0 A Q pc u L (vl v :: vi x :: vr k :: r) σ := by
  intro ad H locs ls st g0 g1 hW g2 hS hL hT
  obtain ⟨_, _, st1, rfl, h1, h2, h3, h4, h5⟩ := sR_2 hT
  obtain ⟨_, st', rfl, h6, h7, h8⟩ := sR_cons h5
  cases sv_l h1; cases sv_i h3; cases sv_r h6
  obtain ⟨n, fs, hk, hn⟩ := alK_some (kd := 3) hx.1 hx.2
  have hk5 := hW.2.2.1.ge hk (show (3:Nat) ≤ 4 by decide)
  refine va_last (D := D) (cl := mcl) F.exec F.code F.kn.1 hW.1 hW.2.1 hS (k - 5) 2 (mws_get hk hk5) rfl (ofI_in h4 hx.1 hn) hd (fun H1 locs1 hP1 hD1 hS1 => ?_)
  have e : vp_updL (fun j => Int64.ofInt (σ.2 k j)) (Int32.ofInt x).toNatClampNeg (Int64.ofInt v) = fun j => Int64.ofInt (mset σ.2 k x.toNat v k j) := by
    funext j
    rw [ofI_clamp h4]
    show (if j = x.toNat then Int64.ofInt v else Int64.ofInt (σ.2 k j)) = Int64.ofInt (mset σ.2 k x.toNat v k j)
    unfold mset
    by_cases h : j = x.toNat
    · rw [if_pos h, if_pos ⟨rfl, h⟩]
    · rw [if_neg h, if_neg (fun z => h z.2)]
  rw [e] at hP1 hD1
  have hw' : mWd D aC ad (σ.1, mset σ.2 k x.toNat v) A H1 := set_one (f' := fun _ => 0) hW.2.2.1 hk (by decide) (by decide) rfl (fun j hj => mset_ne hj) (mset_inR (fun _ => h2) hW.2.2.2) hP1 hD1
  exact kk ad H1 locs1 ls _ g0 g1 hw' (fun j hj => (mset_ne (by omega)).trans (g2 j hj)) hS1 hL h8
theorem s_dast (F : Fx P m d sc p l e R s mid args below meth c D aC ad0 n0 M0 A) {k : Nat} {x : Int} {v : UInt64} {r : List mV} (hx : 0 ≤ x ∧ x < alK σ 4 k) (hd : decode (P m).1.2.1 pc = .ok (.dastore, 1)) (kk : WG P m p l e R s mid args below meth c D aC ad0 n0 M0 A Q (pc + 1) u L r (σ.1, mset σ.2 k x.toNat (v.toNat : Int))) : WG P m p l e R s mid args below meth c D aC ad0 n0 M0 A Q pc u L (vd v :: vi x :: vr k :: r) σ := by
  intro ad H locs ls st g0 g1 hW g2 hS hL hT
  obtain ⟨_, _, st1, rfl, h1, h2, h3, h4, h5⟩ := sR_2 hT
  obtain ⟨_, st', rfl, h6, h7, h8⟩ := sR_cons h5
  cases sv_d h1; cases sv_i h3; cases sv_r h6
  obtain ⟨n, fs, hk, hn⟩ := alK_some (kd := 4) hx.1 hx.2
  have hk5 := hW.2.2.1.ge hk (show (4:Nat) ≤ 4 by decide)
  refine va_dast (D := D) (cl := mcl) F.exec F.code F.kn.1 hW.1 hW.2.1 hS (k - 5) 3 (mws_get hk hk5) rfl (ofI_in h4 hx.1 hn) hd (fun H1 locs1 hP1 hD1 hS1 => ?_)
  have e : vf_upd (fun j => UInt64.ofNat (σ.2 k j).toNat) (Int32.ofInt x).toNatClampNeg v = fun j => UInt64.ofNat (mset σ.2 k x.toNat (v.toNat : Int) k j).toNat := by
    funext j
    rw [ofI_clamp h4]
    show (if j = x.toNat then v else UInt64.ofNat (σ.2 k j).toNat) = UInt64.ofNat (mset σ.2 k x.toNat (v.toNat : Int) k j).toNat
    unfold mset
    by_cases h : j = x.toNat
    · rw [if_pos h, if_pos ⟨rfl, h⟩]
      show v = UInt64.ofNat v.toNat
      rw [UInt64.ofNat_toNat]
    · rw [if_neg h, if_neg (fun z => h z.2)]
  rw [e] at hP1 hD1
  have hw' : mWd D aC ad (σ.1, mset σ.2 k x.toNat (v.toNat : Int)) A H1 := set_one (f' := fun _ => 0) hW.2.2.1 hk (by decide) (by decide) rfl (fun j hj => mset_ne hj) (mset_inR (fun h => absurd rfl (h _ hk)) hW.2.2.2) hP1 hD1
  exact kk ad H1 locs1 ls _ g0 g1 hw' (fun j hj => (mset_ne (by omega)).trans (g2 j hj)) hS1 hL h8
/-- the script -/
theorem s_sld (F : Fx P m d sc p l e R s mid args below meth c D aC ad0 n0 M0 A) (hsc : sc = true) {x : Int} {r : List mV} (hx : 0 ≤ x ∧ x < σ.2 4 0) (hd : decode (P m).1.2.1 pc = .ok (.iaload, 1)) (kk : WG P m p l e R s mid args below meth c D aC ad0 n0 M0 A Q (pc + 1) u L (vi (σ.2 3 x.toNat) :: r) σ) : WG P m p l e R s mid args below meth c D aC ad0 n0 M0 A Q pc u L (vi x :: vr 3 :: r) σ := by
  intro ad H locs ls st g0 g1 hW g2 hS hL hT
  obtain ⟨_, _, st', rfl, h1, h2, h3, h4, h5⟩ := sR_2 hT
  cases sv_i h1; cases sv_r h3
  obtain ⟨Ln, xs, e1, e2, e3, e4, e5, e6⟩ := F.scr hsc
  have ha : ad 3 = ad0 3 := g1 3 (by have := F.n5; omega)
  have hn : x < (Ln : Int) := by rw [← e4, ← g2 4 (by decide)]; exact hx.2
  have hv := e6 x.toNat (by omega)
  have hv2 : σ.2 3 x.toNat = (xs x.toNat).toInt := by rw [g2 3 (by decide)]; exact hv
  have key := va_sld F.exec F.code e1 e2 e3 hS (ofI_in h2 hx.1 hn) hd (Q := Q) (p := p) (l := l) (e := e) (R := R) (m := mid) (below := below) (meth := meth) (cells := u) (slots := 2100 * u) (args := args) (rest := st') (ls := ls)
  show W _ _ _ _ _ _ _ _ _ _ _ _ _ _ _ (F0 _ _ _ (_ :: Value.ref (ad 3) :: _))
  rw [ha]
  refine key ?_
  rw [ofI_clamp h2]
  refine kk ad H locs ls _ g0 g1 hW g2 hS hL ⟨⟨Or.inl ?_, ?_⟩, h5⟩
  · show Value.int _ = Value.int _
    rw [hv2, ofI_of]
  · rw [hv2]; exact toI_inR _
theorem s_slen (F : Fx P m d sc p l e R s mid args below meth c D aC ad0 n0 M0 A) (hsc : sc = true) {r : List mV} (hd : decode (P m).1.2.1 pc = .ok (.arraylength, 1)) (kk : WG P m p l e R s mid args below meth c D aC ad0 n0 M0 A Q (pc + 1) u L (vi (σ.2 4 0) :: r) σ) : WG P m p l e R s mid args below meth c D aC ad0 n0 M0 A Q pc u L (vr 3 :: r) σ := by
  intro ad H locs ls st g0 g1 hW g2 hS hL hT
  obtain ⟨_, st', rfl, h1, h2, h5⟩ := sR_cons hT
  cases sv_r h1
  obtain ⟨Ln, xs, e1, e2, e3, e4, e5, e6⟩ := F.scr hsc
  have ha : ad 3 = ad0 3 := g1 3 (by have := F.n5; omega)
  have hv : σ.2 4 0 = Ln := by rw [g2 4 (by decide)]; exact e4
  show W _ _ _ _ _ _ _ _ _ _ _ _ _ _ _ (F0 _ _ _ (Value.ref (ad 3) :: _))
  rw [ha]
  refine va_slen F.exec F.code e1 e2 e3 hS hd ?_
  refine kk ad H locs ls _ g0 g1 hW g2 hS hL ⟨⟨Or.inl ?_, ?_⟩, h5⟩
  · show Value.int _ = Value.int _
    rw [hv, ← Int32.ofInt_eq_ofNat]
  · rw [hv]; show inR (Ln : Int); unfold inR; omega
/-- statics -/
def stN (a : Nat) : String := match a with
  | 0 => "FIRST_VALUES"
  | 1 => "LEAST_VALUES"
  | _ => "GREATEST_VALUES"
theorem st_Z (F : Fx P m d sc p l e R s mid args below meth c D aC ad0 n0 M0 A) {a : Nat} (ha : a < 3) : va_Z "SpatialPoints" (stN a) "[I" (.ref (ad0 a)) A s s.heap := by
  rcases (show a = 0 ∨ a = 1 ∨ a = 2 by omega) with rfl | rfl | rfl
  · exact F.st0.1
  · exact F.st0.2.1
  · exact F.st0.2.2.1
theorem s_gets (F : Fx P m d sc p l e R s mid args below meth c D aC ad0 n0 M0 A) {a i idx : Nat} (ha : a < 3) (hl : lw_tbl[i]? = some (.fieldLink (P m).1.1.cls idx "SpatialPoints" (stN a) "[I")) (hd : decode (P m).1.2.1 pc = .ok (.getstatic idx, 3)) (kk : WG P m p l e R s mid args below meth c D aC ad0 n0 M0 A Q (pc + 3) u L (vr a :: S) σ) : WG P m p l e R s mid args below meth c D aC ad0 n0 M0 A Q pc u L S σ := by
  intro ad H locs ls st g0 g1 hW g2 hS hL hT
  have hn := F.n5
  refine va_gets F.exec F.code (st_Z F ha) hS F.own (gd_at F hl rfl) (fun _ h => h) hd ?_
  refine kk ad H locs ls _ g0 g1 hW g2 hS hL ⟨⟨Or.inl ?_, (by show a < σ.1.length; omega)⟩, hT⟩
  show Value.ref _ = Value.ref _
  rw [g1 a (by omega)]
theorem ng_at (F : Fx P m d sc p l e R s mid args below meth c D aC ad0 n0 M0 A) {w : Cond} {i : Nat} (h : lw_tbl[i]? = some w) (hg : mNg w = true) : va_Nw w s := F.kn.2.1 w (ng_mem h hg)
theorem s_getsN (F : Fx P m d sc p l e R s mid args below meth c D aC ad0 n0 M0 A) {a i idx : Nat} {host : String} (ha : a < 3) (hl : lw_tbl[i]? = some (.fieldLinkNest (P m).1.1.cls idx "SpatialPoints" (stN a) "[I" host)) (hd : decode (P m).1.2.1 pc = .ok (.getstatic idx, 3)) (kk : WG P m p l e R s mid args below meth c D aC ad0 n0 M0 A Q (pc + 3) u L (vr a :: S) σ) : WG P m p l e R s mid args below meth c D aC ad0 n0 M0 A Q pc u L S σ := by
  intro ad H locs ls st g0 g1 hW g2 hS hL hT
  have hn := F.n5
  refine va_getsN F.exec F.code (st_Z F ha) hS F.own (va_Nw.use rfl (ng_at F hl rfl)) (fun _ h => h) hd ?_
  refine kk ad H locs ls _ g0 g1 hW g2 hS hL ⟨⟨Or.inl ?_, (by show a < σ.1.length; omega)⟩, hT⟩
  show Value.ref _ = Value.ref _
  rw [g1 a (by omega)]
/-- the machine's own small functions -/
theorem lR_sz {ad : Nat → Nat} {n nL : Nat} {ls : Array Slot} (h : lR ad n L ls nL) : ls.size = nL := by
  obtain ⟨_, lv, h2, _⟩ := h
  exact h2.1
theorem jm_max : Cond.static Lib.Math.max.name ∈ lw_gd ∧ Cond.code Lib.Math.max.name Lib.Math.max.code 2 (some .int) ∈ lw_gd := ⟨gd_all (ws := [Cond.static Lib.Math.max.name]) (by decide +kernel) _ (List.mem_singleton.mpr rfl), gd_all (ws := [Cond.code Lib.Math.max.name Lib.Math.max.code 2 (some .int)]) (by decide +kernel) _ (List.mem_singleton.mpr rfl)⟩
theorem jm_min : Cond.static Lib.Math.min.name ∈ lw_gd ∧ Cond.code Lib.Math.min.name Lib.Math.min.code 2 (some .int) ∈ lw_gd := ⟨gd_all (ws := [Cond.static Lib.Math.min.name]) (by decide +kernel) _ (List.mem_singleton.mpr rfl), gd_all (ws := [Cond.code Lib.Math.min.name Lib.Math.min.code 2 (some .int)]) (by decide +kernel) _ (List.mem_singleton.mpr rfl)⟩
theorem jm_abs : Cond.static Lib.Math.abs.name ∈ lw_gd ∧ Cond.code Lib.Math.abs.name Lib.Math.abs.code 1 (some .int) ∈ lw_gd := ⟨gd_all (ws := [Cond.static Lib.Math.abs.name]) (by decide +kernel) _ (List.mem_singleton.mpr rfl), gd_all (ws := [Cond.code Lib.Math.abs.name Lib.Math.abs.code 1 (some .int)]) (by decide +kernel) _ (List.mem_singleton.mpr rfl)⟩
theorem jm_ini : Cond.initialized "java/lang/Math" ∈ lw_gd := gd_all (ws := [Cond.initialized "java/lang/Math"]) (by decide +kernel) _ (List.mem_singleton.mpr rfl)
theorem sR_le {ad : Nat → Nat} {n q : Nat} {st : List Value} (h : sR ad n S st) (hq : S.length ≤ q) : (st.map fun v => v.category).sum ≤ 2 * q := by
  rw [sR_sum h]
  have := c2sum_le S
  omega
theorem s_max (F : Fx P m d sc p l e R s mid args below meth c D aC ad0 n0 M0 A) {x y : Int} {i idx : Nat} {r : List mV} (hu : u ≤ (P m).1.2.2.2.2.1) (hr : r.length ≤ 20) (hl : lw_tbl[i]? = some (.methodLink (P m).1.1.cls idx Lib.Math.max.name)) (hd : decode (P m).1.2.1 pc = .ok (.invokestatic idx, 3)) (kk : WG P m p l e R s mid args below meth c D aC ad0 n0 M0 A Q (pc + 3) u L (vi (if x < y then y else x) :: r) σ) : WG P m p l e R s mid args below meth c D aC ad0 n0 M0 A Q pc u L (vi y :: vi x :: r) σ := by
  intro ad H locs ls st g0 g1 hW g2 hS hL hT
  obtain ⟨_, _, st', rfl, h1, h2, h3, h4, h5⟩ := sR_2 hT
  cases sv_i h1; cases sv_i h3
  have hb := F.bd
  have hrm := F.rm
  have hs := sR_le h5 hr
  refine va_mmax F.exec F.code (F.maxL.trans (lR_sz hL).symm) F.own (gd_at F hl rfl) (F.ts _ jm_max.1) (F.ts _ jm_ini) (F.ts _ jm_max.2) (by omega) (by omega) (by omega) (by omega) hd ?_
  rw [ofI_max h4 h2]
  refine kk ad H locs ls _ g0 g1 hW g2 hS hL ⟨⟨Or.inl rfl, ?_⟩, h5⟩
  show inR (if x < y then y else x)
  split <;> assumption
theorem s_min (F : Fx P m d sc p l e R s mid args below meth c D aC ad0 n0 M0 A) {x y : Int} {i idx : Nat} {r : List mV} (hu : u ≤ (P m).1.2.2.2.2.1) (hr : r.length ≤ 20) (hl : lw_tbl[i]? = some (.methodLink (P m).1.1.cls idx Lib.Math.min.name)) (hd : decode (P m).1.2.1 pc = .ok (.invokestatic idx, 3)) (kk : WG P m p l e R s mid args below meth c D aC ad0 n0 M0 A Q (pc + 3) u L (vi (if y < x then y else x) :: r) σ) : WG P m p l e R s mid args below meth c D aC ad0 n0 M0 A Q pc u L (vi y :: vi x :: r) σ := by
  intro ad H locs ls st g0 g1 hW g2 hS hL hT
  obtain ⟨_, _, st', rfl, h1, h2, h3, h4, h5⟩ := sR_2 hT
  cases sv_i h1; cases sv_i h3
  have hb := F.bd
  have hrm := F.rm
  have hs := sR_le h5 hr
  refine va_mmin F.exec F.code (F.maxL.trans (lR_sz hL).symm) F.own (gd_at F hl rfl) (F.ts _ jm_min.1) (F.ts _ jm_ini) (F.ts _ jm_min.2) (by omega) (by omega) (by omega) (by omega) hd ?_
  rw [ofI_min h4 h2]
  refine kk ad H locs ls _ g0 g1 hW g2 hS hL ⟨⟨Or.inl rfl, ?_⟩, h5⟩
  show inR (if y < x then y else x)
  split <;> assumption
theorem s_abs (F : Fx P m d sc p l e R s mid args below meth c D aC ad0 n0 M0 A) {x : Int} {i idx : Nat} {r : List mV} (hu : u ≤ (P m).1.2.2.2.2.1) (hr : r.length ≤ 20) (hl : lw_tbl[i]? = some (.methodLink (P m).1.1.cls idx Lib.Math.abs.name)) (hd : decode (P m).1.2.1 pc = .ok (.invokestatic idx, 3)) (kk : WG P m p l e R s mid args below meth c D aC ad0 n0 M0 A Q (pc + 3) u L (vi (wr (x.natAbs : Int)) :: r) σ) : WG P m p l e R s mid args below meth c D aC ad0 n0 M0 A Q pc u L (vi x :: r) σ := by
  intro ad H locs ls st g0 g1 hW g2 hS hL hT
  obtain ⟨_, st', rfl, h1, h2, h3⟩ := sR_cons hT
  cases sv_i h1
  have hb := F.bd
  have hrm := F.rm
  have hs := sR_le h3 hr
  refine va_mabs F.exec F.code (F.maxL.trans (lR_sz hL).symm) F.own (gd_at F hl rfl) (F.ts _ jm_abs.1) (F.ts _ jm_ini) (F.ts _ jm_abs.2) (by omega) (by omega) (by omega) (by omega) hd ?_
  rw [ofI_abs h2]
  exact kk ad H locs ls _ g0 g1 hW g2 hS hL ⟨⟨Or.inl rfl, wr_inR _⟩, h3⟩
theorem jm_obj : Cond.instanceMethod Lib.objectInit ∈ lw_gd ∧ Cond.code Lib.objectInit ⟨#[0xb1]⟩ 1 none ∈ lw_gd := ⟨gd_all (ws := [Cond.instanceMethod Lib.objectInit]) (by decide +kernel) _ (List.mem_singleton.mpr rfl), gd_all (ws := [Cond.code Lib.objectInit ⟨#[0xb1]⟩ 1 none]) (by decide +kernel) _ (List.mem_singleton.mpr rfl)⟩
theorem s_objI (F : Fx P m d sc p l e R s mid args below meth c D aC ad0 n0 M0 A) {k i idx : Nat} {r : List mV} (hr : r.length ≤ 20) (hl : lw_tbl[i]? = some (.methodLink (P m).1.1.cls idx Lib.objectInit)) (hd : decode (P m).1.2.1 pc = .ok (.invokespecial idx, 3)) (kk : WG P m p l e R s mid args below meth c D aC ad0 n0 M0 A Q (pc + 3) u L r σ) : WG P m p l e R s mid args below meth c D aC ad0 n0 M0 A Q pc u L (vr k :: r) σ := by
  intro ad H locs ls st g0 g1 hW g2 hS hL hT
  obtain ⟨_, st', rfl, h1, h2, h3⟩ := sR_cons hT
  cases sv_r h1
  have hrm := F.rm
  have hs := sR_le h3 hr
  refine W.objInit F.exec F.code F.own (gd_at F hl rfl) (F.ts _ jm_obj.1) (F.ts _ jm_obj.2) rfl ((lR_sz hL).trans F.maxL.symm) rfl hd (by omega) (by show 2 * 0 + _ + 12 ≤ _; omega) ?_
  exact kk ad H locs ls _ g0 g1 hW g2 hS hL h3
end ST
end
section
section NW
variable {P : mP} {m d : Nat} {sc : Bool} {p : Program} {l : Launch} {e : Env} {R : Room} {s : State} {mid : MethodId} {args : Array Value} {below : List Frame} {meth : Method} {c : Code} {D : va_G} {aC : FieldType → ClassId} {ad0 : Nat → Nat} {n0 : Nat} {M0 : mM} {A : Nat → Prop} {Q : State → Prop}
variable {pc u : Nat} {L S : List mV} {σ : mS}
theorem mzero_ne {M : mM} {k j : Nat} (h : j ≠ k) : mzero M k j = M j := by
  funext b
  unfold mzero
  rw [if_neg h]
theorem mclone_ne {M : mM} {ks k j : Nat} (h : j ≠ k) : mclone M ks k j = M j := by
  funext b
  unfold mclone
  rw [if_neg h]
/-- one cell more -/
theorem mWd.push {ad : Nat → Nat} {sh : mSh} {M' : mM} {E : va_E} {q : Nat} {H1 : Heap} (hW : mWf σ) (hM : ∀ j, j ≠ σ.1.length → M' j = σ.2 j) (hE : E = mE aC (fun j => if j = σ.1.length then q else ad j) sh (M' σ.1.length)) (hok : mShOk (σ.1.length + 1) sh) (hr : mRg (σ.1 ++ [sh], M'))
    (hP : va_P D mcl (mws aC ad σ ++ [(q, E)]) H1) (hD : va_D A (mws aC ad σ ++ [(q, E)])) : mWd D aC (fun j => if j = σ.1.length then q else ad j) (σ.1 ++ [sh], M') A H1 := by
  subst hE
  have e := mws_push (aC := aC) (ad := ad) (sh := sh) (q := q) hW hM
  rw [e] at hP hD
  have hl : (σ.1 ++ [sh]).length = σ.1.length + 1 := by simp
  have h5 := hW.1
  refine ⟨hP, hD, ⟨by show 5 ≤ (σ.1 ++ [sh]).length; omega, ?_, fun j z hj hz => ?_⟩, hr⟩
  · show (σ.1 ++ [sh]).take 5 = mRo
    rw [List.take_append_of_le_length h5]
    exact hW.2.1
  · show mShOk (σ.1 ++ [sh]).length z
    rw [hl]
    have hz : (σ.1 ++ [sh])[j]? = some z := hz
    by_cases hjl : j < σ.1.length
    · rw [List.getElem?_append_left hjl] at hz
      have := hW.2.2 j z hj hz
      obtain ⟨kd, n, fs⟩ := z
      cases kd with
      | zero => exact ⟨this.1, fun t ht => Nat.lt_succ_of_lt (this.2 t ht)⟩
      | succ kd => exact this
    · rw [List.getElem?_append_right (by omega)] at hz
      have h0 : j - σ.1.length = 0 := by
        rcases Nat.eq_zero_or_pos (j - σ.1.length) with h | h
        · exact h
        · rw [List.getElem?_eq_none (by simp; omega)] at hz; cases hz
      rw [h0] at hz
      cases hz
      exact hok
theorem mRg.push {sh : mSh} {M' : mM} (h : mRg σ) (hM : ∀ j, j ≠ σ.1.length → M' j = σ.2 j) (hn : ∀ j, inR (M' σ.1.length j)) : mRg (σ.1 ++ [sh], M') := by
  intro k j hk
  by_cases hkl : k = σ.1.length
  · subst hkl; exact hn j
  · show inR (M' k j)
    rw [hM k hkl]
    refine h k j (fun z hz => ?_)
    have hlt := (List.getElem?_eq_some_iff.mp hz).1
    exact hk z (by show (σ.1 ++ [sh])[k]? = some z; rw [List.getElem?_append_left hlt]; exact hz)
theorem s_new (F : Fx P m d sc p l e R s mid args below meth c D aC ad0 n0 M0 A) {ci i idx : Nat} {fs : List Nat} {q : vw_C} {i1 i2 i3 : Nat} (hu : u + 1 ≤ (P m).1.2.2.2.2.1) (hq : mcl[ci]? = some q) (hn : fs.length = q.2.2) (hfs : ∀ j, j < fs.length → defaultValue (mty ci j) = match fs.getD j 0 with
    | 0 => .int 0
    | _ => .null) (hl : lw_tbl[i]? = some (.classLink (P m).1.1.cls idx q.1)) (hl2 : lw_tbl[i1]? = some (.instantiable q.1 q.2.2)) (hl3 : lw_tbl[i2]? = some (.initialized q.1)) (hn20 : q.2.2 ≤ 2100) (hd : decode (P m).1.2.1 pc = .ok (.new idx, 3))
    (kk : WG P m p l e R s mid args below meth c D aC ad0 n0 M0 A Q (pc + 3) (u + 1) L (vr σ.1.length :: S) (σ.1 ++ [(0, ci, fs.map fun z => match z with | 0 => none | _ => some none)], mzero σ.2 σ.1.length)) : WG P m p l e R s mid args below meth c D aC ad0 n0 M0 A Q pc u L S σ := by
  intro ad H locs ls st g0 g1 hW g2 hS hL hT
  have hb := F.bd
  obtain ⟨t1, t2⟩ := mcl_ty ci q hq
  have hlen : (σ.1 ++ [((0, ci, fs.map fun z => match z with | 0 => none | _ => some none) : mSh)]).length = σ.1.length + 1 := by simp
  refine va_new (D := D) (cl := mcl) (ci := ci) (C := q.1) (T := q.2.1) (N := q.2.2) (fs := (List.range fs.length).map fun j => match fs.getD j 0 with
    | 0 => .int 0
    | _ => .null) F.exec F.code F.ts (mcl_ws ci q hq) (mty ci) t1 F.own (gd_at F hl rfl) (gd_at F hl2 rfl) (gd_at F hl3 rfl) F.kn.1 hW.1 hW.2.1 hS F.hA hq (fun j hj => ?_) (by omega) (by omega) hd (fun q9 H1 hP1 hD1 hS1 => ?_)
  · rw [hfs j (by omega)]
    unfold vp_V
    conv =>
      rhs
      rw [List.getD_eq_getElem?_getD, List.getElem?_map, List.getElem?_range (show j < fs.length by omega)]
    rfl
  · have hw' := mWd.push (aC := aC) (sh := (0, ci, fs.map fun z => match z with | 0 => none | _ => some none)) (M' := mzero σ.2 σ.1.length) hW.2.2.1 (fun j hj => mzero_ne hj) (by
      show (Sum.inr (ci, _) : va_E) = Sum.inr (ci, _)
      congr 2
      rw [List.length_map]
      apply List.map_congr_left
      intro j hj
      have hj : j < fs.length := List.mem_range.mp hj
      rw [List.getElem?_map, List.getD_eq_getElem?_getD, List.getElem?_eq_getElem hj]
      show (match fs[j] with | 0 => Value.int 0 | _ => Value.null) = _
      cases hz : fs[j] with
      | zero =>
        show Value.int 0 = Value.int (Int32.ofInt (mzero σ.2 σ.1.length σ.1.length j))
        unfold mzero
        rw [if_pos rfl]
        rfl
      | succ n => rfl) ⟨⟨q, hq, by rw [List.length_map]; exact hn.symm⟩, fun t ht => by
        obtain ⟨z, -, hz⟩ := List.mem_map.mp ht
        cases z <;> cases hz⟩ (mRg.push hW.2.2.2 (fun j hj => mzero_ne hj) (fun j => by unfold mzero; rw [if_pos rfl]; exact inR_0)) hP1 hD1
    refine W.widen (k := u + 1) (n := 2100 * (u + 1)) (Nat.le_refl _) (by omega) ?_
    have ha : ∀ k, k < σ.1.length → (fun j => if j = σ.1.length then q9 else ad j) k = ad k := fun k hk => if_neg (Nat.ne_of_lt hk)
    refine kk (fun j => if j = σ.1.length then q9 else ad j) H1 locs ls _ (by rw [hlen]; omega) (fun k hk => (ha k (by omega)).trans (g1 k hk)) hw' (fun k hk => ?_) hS1 ?_ ?_
    · have h5 := hW.2.2.1.1
      rw [← g2 k hk]
      exact mzero_ne (by omega)
    · rw [hlen]; exact lR_ad ha (Nat.le_succ _) hL
    · rw [hlen]
      refine ⟨⟨Or.inl ?_, Nat.lt_succ_self _⟩, sR_ad ha (Nat.le_succ _) hT⟩
      show Value.ref q9 = Value.ref (if σ.1.length = σ.1.length then q9 else ad σ.1.length)
      rw [if_pos rfl]
theorem mty_same {ty : FieldType} {cA : ClassId} (hc : ty = .int ∨ ty = .char ∨ ty = .long ∨ ty = .double) (F : Fx P m d sc p l e R s mid args below meth c D aC ad0 n0 M0 A) (h : va_RA s cA ty) : cA = aC ty := by
  have key : ∀ (i : Nat), (mTy aC)[i]? = some (aC ty, ty) → (∀ n, ty ≠ .object n) → cA = aC ty := by
    intro i hi hno
    have h1 := (F.kn.1.2 i _ hi).2
    have e1 : s.vm.findClass ("[" ++ ty.toString) = some cA := by
      cases ty <;> first | exact h | exact absurd rfl (hno _)
    have e2 : s.vm.findClass ("[" ++ ty.toString) = some (aC ty) := by
      cases ty <;> first | exact h1 | exact absurd rfl (hno _)
    exact Option.some.inj (e1.symm.trans e2)
  rcases hc with rfl | rfl | rfl | rfl
  · exact key 0 rfl (fun n h => by cases h)
  · exact key 1 rfl (fun n h => by cases h)
  · exact key 2 rfl (fun n h => by cases h)
  · exact key 3 rfl (fun n h => by cases h)
def atK (a : ArrayType) : Nat := match a with
  | .int => 1
  | .char => 2
  | .long => 3
  | .double => 4
  | _ => 0
theorem arr_words : Cond.arrayClass .int ∈ lw_gd ∧ Cond.arrayClass .char ∈ lw_gd ∧ Cond.arrayClass .long ∈ lw_gd ∧ Cond.arrayClass .double ∈ lw_gd :=
  ⟨gd_all (ws := [Cond.arrayClass .int]) (by decide +kernel) _ (List.mem_singleton.mpr rfl), gd_all (ws := [Cond.arrayClass .char]) (by decide +kernel) _ (List.mem_singleton.mpr rfl), gd_all (ws := [Cond.arrayClass .long]) (by decide +kernel) _ (List.mem_singleton.mpr rfl), gd_all (ws := [Cond.arrayClass .double]) (by decide +kernel) _ (List.mem_singleton.mpr rfl)⟩
theorem s_newa (F : Fx P m d sc p l e R s mid args below meth c D aC ad0 n0 M0 A) {a : ArrayType} {n : Int} {r : List mV} (hu : u + 1 ≤ (P m).1.2.2.2.2.1) (ha : atK a ≠ 0) (hn : 0 ≤ n ∧ n ≤ 2100) (hd : decode (P m).1.2.1 pc = .ok (.newarray a, 2))
    (kk : WG P m p l e R s mid args below meth c D aC ad0 n0 M0 A Q (pc + 2) (u + 1) L (vr σ.1.length :: r) (σ.1 ++ [(atK a, n.toNat, [])], mzero σ.2 σ.1.length)) : WG P m p l e R s mid args below meth c D aC ad0 n0 M0 A Q pc u L (vi n :: r) σ := by
  intro ad H locs ls st g0 g1 hW g2 hS hL hT
  obtain ⟨_, st', rfl, h1, h2, h3⟩ := sR_cons hT
  cases sv_i h1
  have hb := F.bd
  have key : ∀ (ty : FieldType) (a0 : vp_A), newarray.typeOf a = ty → (ty = .int ∨ ty = .char ∨ ty = .long ∨ ty = .double) → Cond.arrayClass ty ∈ lw_gd → (∀ cA : ClassId, vp_cell cA a0 = arrV cA n.toNat (fun _ => defaultValue ty)) → componentBytes ty ≤ 8 →
      (Sum.inl (aC ty, a0) : va_E) = mE aC ad (atK a, n.toNat, []) (mzero σ.2 σ.1.length σ.1.length) → (atK a ≤ 4 ∧ 1 ≤ atK a) → W p l e R s mid args below meth c H locs u (2100 * u) Q (F0 mid pc ls (.int (Int32.ofInt n) :: st')) := by
    intro ty a0 hty hc hw hcell hcb hE hk
    have hlen : (σ.1 ++ [((atK a, n.toNat, []) : mSh)]).length = σ.1.length + 1 := by simp
    have hcl : (Int32.ofInt n).toNatClampNeg = n.toNat := ofI_clamp h2
    have hneg : ¬ Int32.ofInt n < 0 := fun z => by
      have := (ofI_lt h2 inR_0).mp z
      omega
    have hbyt : n.toNat * componentBytes ty ≤ 536870912 := Nat.le_trans (Nat.mul_le_mul (show n.toNat ≤ 2100 by omega) hcb) (by decide)
    refine va_newa (D := D) (cl := mcl) (a0 := a0) F.exec F.code (by rw [hty]; exact F.ts _ hw) hty F.kn.1 hW.1 hW.2.1 hS F.hA hcell hneg hcl hbyt (by omega) (by omega) hd (fun q9 cA H1 hK1 hP1 hD1 hS1 => ?_)
    have hcA : cA = aC ty := by
      have h9 := (hK1.2 4 (cA, ty) (by simp [mTy])).2
      exact mty_same hc F h9
    rw [hcA, hE] at hP1 hD1
    have haE : mE aC ad (atK a, n.toNat, []) (mzero σ.2 σ.1.length σ.1.length) = mE aC (fun j => if j = σ.1.length then q9 else ad j) (atK a, n.toNat, []) (mzero σ.2 σ.1.length σ.1.length) := by
      obtain ⟨k1, k2⟩ := hk
      rcases (show atK a = 1 ∨ atK a = 2 ∨ atK a = 3 ∨ atK a = 4 by omega) with h | h | h | h <;> rw [h] <;> rfl
    have hw' := mWd.push (aC := aC) (sh := (atK a, n.toNat, [])) (M' := mzero σ.2 σ.1.length) hW.2.2.1 (fun j hj => mzero_ne hj) haE (by
      obtain ⟨k1, k2⟩ := hk
      rcases (show atK a = 1 ∨ atK a = 2 ∨ atK a = 3 ∨ atK a = 4 by omega) with h | h | h | h <;> rw [h] <;> exact ⟨by decide, by omega⟩) (mRg.push hW.2.2.2 (fun j hj => mzero_ne hj) (fun j => by unfold mzero; rw [if_pos rfl]; exact inR_0)) hP1 hD1
    refine W.widen (k := u + 1) (n := 2100 * (u + 1)) (Nat.le_refl _) (by omega) ?_
    have hag : ∀ k, k < σ.1.length → (fun j => if j = σ.1.length then q9 else ad j) k = ad k := fun k hk => if_neg (Nat.ne_of_lt hk)
    refine kk (fun j => if j = σ.1.length then q9 else ad j) H1 locs ls _ (by rw [hlen]; omega) (fun k hk => (hag k (by omega)).trans (g1 k hk)) hw' (fun k hk => ?_) hS1 ?_ ?_
    · have h5 := hW.2.2.1.1
      rw [← g2 k hk]
      exact mzero_ne (by omega)
    · rw [hlen]; exact lR_ad hag (Nat.le_succ _) hL
    · rw [hlen]
      refine ⟨⟨Or.inl ?_, Nat.lt_succ_self _⟩, sR_ad hag (Nat.le_succ _) h3⟩
      show Value.ref q9 = Value.ref (if σ.1.length = σ.1.length then q9 else ad σ.1.length)
      rw [if_pos rfl]
  have hz : mzero σ.2 σ.1.length σ.1.length = fun _ => (0 : Int) := by
    funext j
    unfold mzero
    rw [if_pos rfl]
  cases a with
  | int => exact key .int (n.toNat, .inl fun _ => 0) rfl (Or.inl rfl) arr_words.1 (fun _ => rfl) (by decide) (by rw [hz]; rfl) (by decide)
  | char => exact key .char (n.toNat, .inl fun _ => 0) rfl (Or.inr (Or.inl rfl)) arr_words.2.1 (fun _ => rfl) (by decide) (by rw [hz]; rfl) (by decide)
  | long => exact key .long (n.toNat, .inr (.inl fun _ => 0)) rfl (Or.inr (Or.inr (Or.inl rfl))) arr_words.2.2.1 (fun _ => rfl) (by decide) (by rw [hz]; rfl) (by decide)
  | double => exact key .double (n.toNat, .inr (.inr (.inr (.inl fun _ => 0)))) rfl (Or.inr (Or.inr (Or.inr rfl))) arr_words.2.2.2 (fun _ => rfl) (by decide) (by rw [hz]; rfl) (by decide)
  | boolean => exact absurd rfl ha
  | float => exact absurd rfl ha
  | byte => exact absurd rfl ha
  | short => exact absurd rfl ha
theorem jm_clone : (Cond.sameMethod "[I" "java/lang/Object" "clone" "()Ljava/lang/Object;" ∈ lw_gd ∧ Cond.native ⟨"java/lang/Object", "clone", "()Ljava/lang/Object;"⟩ ∈ lw_gd) ∧ (Cond.instanceMethod ⟨"java/lang/Object", "clone", "()Ljava/lang/Object;"⟩ ∈ lw_gd ∧ Cond.selects "[I" ⟨"[I", "clone", "()Ljava/lang/Object;"⟩ ⟨"java/lang/Object", "clone", "()Ljava/lang/Object;"⟩ ∈ lw_gd) :=
  ⟨⟨gd_all (ws := [Cond.sameMethod "[I" "java/lang/Object" "clone" "()Ljava/lang/Object;"]) (by decide +kernel) _ (List.mem_singleton.mpr rfl), gd_all (ws := [Cond.native ⟨"java/lang/Object", "clone", "()Ljava/lang/Object;"⟩]) (by decide +kernel) _ (List.mem_singleton.mpr rfl)⟩,
   gd_all (ws := [Cond.instanceMethod ⟨"java/lang/Object", "clone", "()Ljava/lang/Object;"⟩]) (by decide +kernel) _ (List.mem_singleton.mpr rfl), gd_all (ws := [Cond.selects "[I" ⟨"[I", "clone", "()Ljava/lang/Object;"⟩ ⟨"java/lang/Object", "clone", "()Ljava/lang/Object;"⟩]) (by decide +kernel) _ (List.mem_singleton.mpr rfl)⟩
theorem jm_castI : Cond.castable "[I" "java/lang/Cloneable" ∈ lw_ng := List.mem_filter.mpr ⟨by decide +kernel, rfl⟩
theorem s_clone (F : Fx P m d sc p l e R s mid args below meth c D aC ad0 n0 M0 A) {k n i idx i2 idx2 : Nat} {fs : List (Option (Option Nat))} {r : List mV} (hu : u + 1 ≤ (P m).1.2.2.2.2.1) (hr : r.length ≤ 20) (hk : σ.1[k]? = some (5, n, fs)) (hl : lw_tbl[i]? = some (.methodLink (P m).1.1.cls idx ⟨"[I", "clone", "()Ljava/lang/Object;"⟩)) (hl2 : lw_tbl[i2]? = some (.classLink (P m).1.1.cls idx2 "[I"))
    (hd : decode (P m).1.2.1 pc = .ok (.invokevirtual idx, 3)) (hd2 : decode (P m).1.2.1 (pc + 3) = .ok (.checkcast idx2, 3)) (kk : WG P m p l e R s mid args below meth c D aC ad0 n0 M0 A Q (pc + 6) (u + 1) L (vr σ.1.length :: r) (σ.1 ++ [(1, n, [])], mclone σ.2 k σ.1.length)) : WG P m p l e R s mid args below meth c D aC ad0 n0 M0 A Q pc u L (vr k :: r) σ := by
  intro ad H locs ls st g0 g1 hW g2 hS hL hT
  obtain ⟨_, st', rfl, h1, h2, h3⟩ := sR_cons hT
  cases sv_r h1
  have hb := F.bd
  have hrm := F.rm
  have hs := sR_le h3 hr
  obtain ⟨hk3, rfl⟩ := hW.2.2.1.ro hk
  have hlen : (σ.1 ++ [((1, 6, []) : mSh)]).length = σ.1.length + 1 := by simp
  obtain ⟨hT9, cell, c1, c2, c3⟩ := F.st0.2.2.2.1 k hk3
  obtain ⟨cell2, t1, t2, t3, -, -, t6, t7⟩ := hT9
  cases Option.some.inj (c1.symm.trans t1)
  have hadk : ad k = ad0 k := g1 k (by have := F.n5; omega)
  have hcI : cell.cls = aC .int := by
    have h9 := (F.kn.1.2 0 (aC .int, .int) rfl).2
    exact Option.some.inj (c3.symm.trans h9)
  have hcellH : H[ad k]? = some cell := by
    rw [hadk, hS.2.1 _ (Array.getElem?_eq_some_iff.mp c1).1 t7]
    exact c1
  have hcellE : ({ cls := cell.cls, slots := cell.slots } : Cell) = vp_cell (aC .int) (6, .inl fun j => Int32.ofInt (σ.2 k j)) := by
    rw [vp_cell_i]
    have hsl : cell.slots = (arrV (aC .int) 6 (fun j => .int (Int32.ofInt (σ.2 k j)))).slots := by
      apply Array.ext_getElem?
      intro i
      by_cases hi : i < 6
      · rw [t6 i hi, arrV_read _ _ hi, g2 k (by omega)]
      · rw [Array.getElem?_eq_none (by omega), Array.getElem?_eq_none (by rw [arrV_size]; omega)]
    rw [hcI, hsl]
    rfl
  obtain ⟨c0, t0', f1, f2, f3⟩ := Cond.castable_spec (va_Nw.use (A := args) rfl (F.kn.2.1 _ jm_castI))
  cases Option.some.inj (c3.symm.trans f1)
  obtain ⟨hst, kA, hkA, comp, hkind⟩ := t2
  have step : ∀ (q9 : Nat) (H1 : Heap), va_P D mcl (mws aC ad σ ++ [(q9, .inl (aC .int, 6, .inl fun j => Int32.ofInt (σ.2 k j)))]) H1 → va_D A (mws aC ad σ ++ [(q9, .inl (aC .int, 6, .inl fun j => Int32.ofInt (σ.2 k j)))]) → va_S A s.heap H1 locs →
      W p l e R s mid args below meth c H1 locs (u + 1) (2100 * u + 6) Q (F0 mid (pc + 3) ls (.ref q9 :: st')) := by
    intro q9 H1 hP1 hD1 hS1
    refine va_castA (q0 := σ.1.length - 5) F.exec F.code F.own (gd_at F hl2 rfl) hP1 (cA := aC .int) (x := (6, .inl fun j => Int32.ofInt (σ.2 k j))) (by rw [List.getElem?_append_right (by rw [mws_len]; exact Nat.le_refl _), mws_len, Nat.sub_self]; rfl) (by rw [← hcI]; exact c3) hd2 ?_
    have hM : ∀ j, j ≠ σ.1.length → mclone σ.2 k σ.1.length j = σ.2 j := fun j hj => mclone_ne hj
    have hMk : mclone σ.2 k σ.1.length σ.1.length = σ.2 k := by
      funext j
      unfold mclone
      rw [if_pos rfl]
    have hw' := mWd.push (aC := aC) (sh := (1, 6, [])) (M' := mclone σ.2 k σ.1.length) hW.2.2.1 hM (by rw [hMk]; rfl) (show mShOk _ (1, 6, []) from ⟨by decide, by decide⟩) (mRg.push hW.2.2.2 hM (fun j => by rw [hMk]; exact hW.2.2.2 k j (fun sh hsh => by rw [hk] at hsh; cases hsh; exact (show (5:Nat) ≠ 4 by decide)))) hP1 hD1
    refine W.widen (k := u + 1) (n := 2100 * (u + 1)) (Nat.le_refl _) (by omega) ?_
    have hag : ∀ k, k < σ.1.length → (fun j => if j = σ.1.length then q9 else ad j) k = ad k := fun k hk => if_neg (Nat.ne_of_lt hk)
    refine kk (fun j => if j = σ.1.length then q9 else ad j) H1 locs ls _ (by rw [hlen]; omega) (fun k hk => (hag k (by omega)).trans (g1 k hk)) hw' (fun z hz => ?_) hS1 ?_ ?_
    · have h5 := hW.2.2.1.1
      rw [← g2 z hz]
      exact mclone_ne (by omega)
    · rw [hlen]; exact lR_ad hag (Nat.le_succ _) hL
    · rw [hlen]
      refine ⟨⟨Or.inl ?_, Nat.lt_succ_self _⟩, sR_ad hag (Nat.le_succ _) h3⟩
      show Value.ref q9 = Value.ref (if σ.1.length = σ.1.length then q9 else ad σ.1.length)
      rw [if_pos rfl]
  intro T hTe X
  have hcellT : T.heap[ad k]? = some cell := by rw [hTe]; exact hcellH
  obtain ⟨hstA, kA', hkA', comp', hkind'⟩ := State.isArrayOf_alike X.warmed.alike (⟨hst, kA, hkA, comp, hkind⟩ : s.isArrayOf cell .int)
  obtain ⟨vm', X', st⟩ := X.cloneArray F.exec F.own (gd_at F hl rfl) (F.ts _ jm_clone.1.1) (F.ts _ jm_clone.1.2) (F.ts _ jm_clone.2.1) (F.ts _ jm_clone.2.2) (a := ad k) (cell := cell) hcellT hst t3 c3 f2 f3
    (fun i v hv => by
      have hk' : T.vm.classes[cell.cls]? = some kA' := hkA'
      by_cases hi : i < 6
      · rw [t6 i hi] at hv
        cases hv
        simp [State.fitsSlot, State.slotType?, hk', hkind', fits]
      · rw [Array.getElem?_eq_none (by omega)] at hv
        cases hv)
    (g := F0 mid pc ls (.ref (ad k) :: st')) rfl ((lR_sz hL).trans F.maxL.symm) rfl (by rw [F.code]; exact hd) (by omega) (by show 2 * 0 + _ + 14 ≤ _; omega) (by omega) (by omega) (hloader := Vm.clonesLoader_of_array hkA hkind)
  rw [hcellE, c2] at X'
  obtain ⟨t, b1, b2⟩ := step H.size (H.push (vp_cell (aC .int) (6, .inl fun j => Int32.ofInt (σ.2 k j)))) (by
      have hk9 : ∀ (z : Nat) (y : Nat × va_E), (mws aC ad σ)[z]? = some y → (H.push (vp_cell (aC .int) (6, .inl fun j => Int32.ofInt (σ.2 k j))))[y.1]? = H[y.1]? := fun z y hy => by
        rw [Array.getElem?_push, if_neg (Nat.ne_of_lt (hW.1 z y hy).lt)]
      refine (hW.1.kept hk9).app (fun z y hy => ?_)
      have hz : z < 1 := (List.getElem?_eq_some_iff.mp hy).1
      rw [show z = 0 by omega] at hy
      cases hy
      show (H.push _)[H.size]? = some (vp_cell _ _)
      rw [Array.getElem?_push_size]) (hW.2.1.push hW.1 rfl (F.hA _ hS.1)) ⟨by rw [Array.size_push]; exact Nat.le_succ_of_le hS.1, fun y z1 z2 => by rw [Array.getElem?_push, if_neg (by have := hS.1; omega)]; exact hS.2.1 y z1 z2, hS.2.2⟩
    ((T.setVm vm').pushCell (vp_cell (aC .int) (6, .inl fun j => Int32.ofInt (σ.2 k j)))) (by rw [← hTe]; rfl) X'
  refine ⟨t, st t ?_, b2⟩
  rw [hcellE, hTe]
  exact b1
theorem jm_cpy : (Cond.native arraycopyName ∈ lw_gd ∧ Cond.static arraycopyName ∈ lw_gd) ∧ Cond.initialized "java/lang/System" ∈ lw_gd :=
  ⟨⟨gd_all (ws := [Cond.native arraycopyName]) (by decide +kernel) _ (List.mem_singleton.mpr rfl), gd_all (ws := [Cond.static arraycopyName]) (by decide +kernel) _ (List.mem_singleton.mpr rfl)⟩, gd_all (ws := [Cond.initialized "java/lang/System"]) (by decide +kernel) _ (List.mem_singleton.mpr rfl)⟩
theorem alK_le {kd k : Nat} {n : Int} (h0 : 0 ≤ n) (hkd : kd ≠ 0) (h : n ≤ alK σ kd k) (hz : 0 < n) : ∃ q fs, σ.1[k]? = some (kd, q, fs) ∧ n ≤ (q : Int) := by
  obtain ⟨q, fs, h1, h2⟩ := alK_some (σ := σ) (kd := kd) (k := k) (x := n - 1) (by omega) (by omega)
  exact ⟨q, fs, h1, by omega⟩
theorem s_copy (F : Fx P m d sc p l e R s mid args below meth c D aC ad0 n0 M0 A) {ks kd i idx : Nat} {n : Int} {r : List mV} (hr : r.length ≤ 20) (hn : 0 < n) (h1 : n ≤ alK σ 1 ks) (h2 : n ≤ alK σ 1 kd) (hl : lw_tbl[i]? = some (.methodLink (P m).1.1.cls idx arraycopyName)) (hd : decode (P m).1.2.1 pc = .ok (.invokestatic idx, 3))
    (kk : WG P m p l e R s mid args below meth c D aC ad0 n0 M0 A Q (pc + 3) u L r (σ.1, mcpy σ.2 ks kd n.toNat)) : WG P m p l e R s mid args below meth c D aC ad0 n0 M0 A Q pc u L (vi n :: vi 0 :: vr kd :: vi 0 :: vr ks :: r) σ := by
  intro ad H locs ls st g0 g1 hW g2 hS hL hT
  obtain ⟨_, _, s1, rfl, a1, a2, a3, a4, a5⟩ := sR_2 hT
  obtain ⟨_, _, s2, rfl, b1, b2, b3, b4, b5⟩ := sR_2 a5
  obtain ⟨_, st', rfl, c1, c2, c3⟩ := sR_cons b5
  cases sv_i a1; cases sv_i a3; cases sv_r b1; cases sv_i b3; cases sv_r c1
  have hrm := F.rm
  have hs := sR_le c3 hr
  obtain ⟨q1, fs1, e1, e2⟩ := alK_le (by omega) (by decide) h1 hn
  obtain ⟨q2, fs2, e3, e4⟩ := alK_le (by omega) (by decide) h2 hn
  have k1 := hW.2.2.1.ge e1 (show (1:Nat) ≤ 4 by decide)
  have k2 := hW.2.2.1.ge e3 (show (1:Nat) ≤ 4 by decide)
  have z0 : (Int32.ofInt 0).toNatClampNeg = 0 := rfl
  have hcn : (Int32.ofInt n).toNatClampNeg = n.toNat := ofI_clamp a2
  have hneg : ¬ Int32.ofInt n < 0 := fun z => by
    have := (ofI_lt a2 inR_0).mp z
    omega
  refine va_copyi (D := D) (cl := mcl) F.exec F.code (F.maxL.trans (lR_sz hL).symm) F.own (gd_at F hl rfl) (F.ts _ jm_cpy.1.1) (F.ts _ jm_cpy.1.2) (F.ts _ jm_cpy.2) F.kn.1 hW.1 hW.2.1 hS (ks - 5) (kd - 5) 0 0 (mws_get e1 k1) (mws_get e3 k2) rfl rfl rfl (by decide) (by decide) hneg (by rw [z0, hcn]; omega) (by rw [z0, hcn]; omega) (fun _ _ => rfl) (by omega) (by
    have : nativeFrameWords "java/lang/System" "arraycopy" 5 + 11 ≤ 200 := by decide +kernel
    omega) hd (fun H1 locs1 hP1 hD1 hS1 => ?_)
  have hMo : ∀ j, j ≠ kd → mcpy σ.2 ks kd n.toNat j = σ.2 j := fun j hj => by
    funext b
    unfold mcpy
    rw [if_neg (fun z => hj z.1)]
  have eM : va_cpy (fun j => Int32.ofInt (σ.2 ks j)) (fun j => Int32.ofInt (σ.2 kd j)) (Int32.ofInt 0).toNatClampNeg (Int32.ofInt 0).toNatClampNeg (Int32.ofInt n).toNatClampNeg = fun j => Int32.ofInt (mcpy σ.2 ks kd n.toNat kd j) := by
    funext j
    rw [z0, hcn]
    unfold va_cpy mcpy
    by_cases hj : j < n.toNat
    · rw [if_pos (by omega), if_pos ⟨rfl, hj⟩, show 0 + (j - 0) = j by omega]
    · rw [if_neg (by omega), if_neg (fun z => hj z.2)]
  rw [eM] at hP1 hD1
  have hrg : mRg (σ.1, mcpy σ.2 ks kd n.toNat) := by
    intro a j ha
    show inR (mcpy σ.2 ks kd n.toNat a j)
    unfold mcpy
    split
    · exact hW.2.2.2 ks j (fun sh hsh => by rw [e1] at hsh; cases hsh; exact (show (1:Nat) ≠ 4 by decide))
    · exact hW.2.2.2 a j ha
  have hw' : mWd D aC ad (σ.1, mcpy σ.2 ks kd n.toNat) A H1 := set_one (f' := fun _ => 0) hW.2.2.1 e3 (by decide) (by decide) rfl hMo hrg hP1 hD1
  exact kk ad H1 locs1 ls _ g0 g1 hw' (fun j hj => (hMo j (by omega)).trans (g2 j hj)) hS1 hL c3
end NW
end
section
/-! THE CONTRACT OF A METHOD OF THE SMALL MACHINE; CALLS -/
def mA (ad : Nat → Nat) (n sz : Nat) : Nat → Prop := fun q => (∃ k, 5 ≤ k ∧ k < n ∧ q = ad k) ∨ sz ≤ q
def cPre (D : va_G) (aC : FieldType → ClassId) (ad : Nat → Nat) (sz : Nat) (as : List mV) (σ : mS) : Array Value → State → Prop :=
  va_Pc (as.map (vv ad)) (fun U => U.heap.size = sz ∧ mKn D aC U ∧ mSt0 (mA ad σ.1.length sz) ad σ.2 U U.heap ∧ mWd D aC ad σ (mA ad σ.1.length sz) U.heap ∧ ∀ v ∈ as, okV σ.1.length v ∧ v ≠ vj)
def cQ (D : va_G) (aC : FieldType → ClassId) (ad : Nat → Nat) (sz : Nat) (σ : mS) (o : mO) (σ' : mS) : Array Value → State → Outcome → State → Prop := fun _ st oc t =>
  (∃ (v : Option mV) (ad' : Nat → Nat), o = .inl v ∧ oc = .returned (v.map (vv ad')) ∧ (∀ k, k < σ.1.length → ad' k = ad k) ∧ σ.1.length ≤ σ'.1.length ∧ (∀ k, k < 5 → σ'.2 k = σ.2 k) ∧ mWd D aC ad' σ' (mA ad σ.1.length sz) t.heap ∧ (∀ x, v = some x → okV σ'.1.length x ∧ x ≠ vj)) ∧ va_F (mA ad σ.1.length sz) st t
def cX (D : va_G) (aC : FieldType → ClassId) (ad : Nat → Nat) (sz : Nat) (σ : mS) (o : mO) (σ' : mS) : String → State → State → Prop := fun E st t =>
  ∃ (ex : Nat) (ad' : Nat → Nat), o = .inr ex ∧ E = exN ex ∧ (∀ k, k < σ.1.length → ad' k = ad k) ∧ σ.1.length ≤ σ'.1.length ∧ (∀ k, k < 5 → σ'.2 k = σ.2 k) ∧ mWd D aC ad' σ' (mA ad σ.1.length sz) t.heap ∧ va_F (mA ad σ.1.length sz) st t
def cW (P : mP) (m : Nat) : Cond := match (P m).1.2.2.2.2.2.2 with
  | [] => .code (P m).1.1 (P m).1.2.1 (P m).1.2.2.1 (P m).1.2.2.2.1
  | h :: hh => .codeWith (P m).1.1 (P m).1.2.1 (P m).1.2.2.1 (P m).1.2.2.2.1 (h :: hh)
def cWs (P : mP) (m : Nat) : List Cond := cW P m :: lw_gd
def cRm (P : mP) (m d : Nat) : Room := { frames := d + 10, cells := (P m).1.2.2.2.2.1, slots := 2100 * (P m).1.2.2.2.2.1, locals := 40 * d + 300 }
def cMet (P : mP) (l : Launch) (m d : Nat) (as : List mV) (σ : mS) (o : mO) (σ' : mS) : Prop := ∀ (D : va_G) (aC : FieldType → ClassId) (ad : Nat → Nat) (sz : Nat),
  vx_Met l (P m).1.1 (cWs P m) (cRm P m d) (cPre D aC ad sz as σ) (cQ D aC ad sz σ o σ') (cX D aC ad sz σ o σ') (P m).1.2.2.2.2.1 (2100 * (P m).1.2.2.2.2.1) (mA ad σ.1.length sz)
/-- what is asked of a method's entry in the table; st: static -/
def mOk (P : mP) (m : Nat) (st : Bool) : Prop :=
  plainName (P m).1.1.cls = true ∧ ((P m).1.1.cls ≠ "java/lang/invoke/MethodHandle" ∧ (P m).1.1.cls ≠ "java/lang/invoke/VarHandle") ∧ cW P m ∈ lw_gd ∧ Cond.initialized (P m).1.1.cls ∈ lw_gd ∧ (P m).1.2.2.1 ≤ 20 ∧
  (parseMethodDescriptor (P m).1.1.desc).map (fun d => d.parameters.length) = some ((P m).1.2.2.2.2.2.1 - (if st = true then 0 else 1)) ∧
  (st = true → Cond.static (P m).1.1 ∈ lw_gd) ∧ (st = false → Cond.instanceMethod (P m).1.1 ∈ lw_gd ∧ 1 ≤ (P m).1.2.2.2.2.2.1 ∧ ((P m).1.1.name = "<init>" ∨ Cond.selects (P m).1.1.cls (P m).1.1 (P m).1.1 ∈ lw_gd))
def XG (P : mP) (m : Nat) (p : Program) (l : Launch) (e : Env) (R : Room) (s : State) (mid : MethodId) (args : Array Value) (below : List Frame) (meth : Method) (c : Code) (D : va_G) (aC : FieldType → ClassId) (ad0 : Nat → Nat) (n0 : Nat) (M0 : mM) (A : Nat → Prop) (Q : State → Prop) (pc u : Nat) (L S : List mV) (σ : mS) (ex : Nat) : Prop :=
  ∀ (ad : Nat → Nat) (H : Heap) (locs : List Loc) (ls : Array Slot) (st : List Value) (q : Addr) (ce : Cell), n0 ≤ σ.1.length → (∀ k, k < n0 → ad k = ad0 k) → mWd D aC ad σ A H → (∀ k, k < 5 → σ.2 k = M0 k) → va_S A s.heap H locs → lR ad σ.1.length L ls (P m).1.2.2.1 → sR ad σ.1.length S st →
    H[q]? = some ce → ce.vm = .none → s.vm.findClass (exN ex) = some ce.cls → vx_W p l e R s mid args below meth c H locs u (2100 * u) Q (F0 mid pc ls st) q
section CA
variable {P : mP} {m d : Nat} {sc : Bool} {p : Program} {l : Launch} {e : Env} {R : Room} {s : State} {mid : MethodId} {args : Array Value} {below : List Frame} {meth : Method} {c : Code} {D : va_G} {aC : FieldType → ClassId} {ad0 : Nat → Nat} {n0 : Nat} {M0 : mM} {A : Nat → Prop} {Q : State → Prop}
variable {pc u : Nat} {L S : List mV} {σ : mS}
theorem mWd.own {ad : Nat → Nat} {H : Heap} (h : mWd D aC ad σ A H) : mWd D aC ad σ (mA ad σ.1.length H.size) H := by
  refine ⟨h.1, ⟨h.2.1.1, fun k q hk => ?_⟩, h.2.2⟩
  obtain ⟨sh, h1, rfl⟩ := mws_of hk
  exact Or.inl ⟨k + 5, by omega, (List.getElem?_eq_some_iff.mp h1).1, rfl⟩
theorem mWd.inA {ad : Nat → Nat} {H : Heap} (h : mWd D aC ad σ A H) (hA : ∀ q, s.heap.size ≤ q → A q) (hz : s.heap.size ≤ H.size) : ∀ q, mA ad σ.1.length H.size q → A q := by
  intro q hq
  rcases hq with ⟨k, h5, hk, rfl⟩ | hq
  · have := h.2.1.2 (k - 5) _ (mws_get (List.getElem?_eq_getElem hk) h5)
    exact this
  · exact hA q (Nat.le_trans hz hq)
theorem mWd.weak {ad : Nat → Nat} {B : Nat → Prop} {H : Heap} (h : mWd D aC ad σ B H) (hAB : ∀ q, B q → A q) : mWd D aC ad σ A H := ⟨h.1, h.2.1.weaken (fun _ _ _ q => hAB _ q), h.2.2⟩
theorem cPre_blind {ad : Nat → Nat} {sz : Nat} {as : List mV} : FrameBlind (cPre D aC ad sz as σ) := by
  intro a U g mk h
  obtain ⟨h1, h2, h3, h4, h5⟩ := h
  exact ⟨h1, h2, mKn.same (s := U) rfl h3, mSt0.moved (u := U) (U := U.calling g mk a) (Vm.Alike.refl U.vm) h4, h5⟩
/-- the callee's start, at the call -/
theorem cPre_at (F : Fx P m d sc p l e R s mid args below meth c D aC ad0 n0 M0 A) {ad : Nat → Nat} {H : Heap} {locs : List Loc} {as : List mV} {U : State} (g0 : n0 ≤ σ.1.length) (g1 : ∀ k, k < n0 → ad k = ad0 k) (hW : mWd D aC ad σ A H) (g2 : ∀ k, k < 5 → σ.2 k = M0 k) (hS : va_S A s.heap H locs) (hok : ∀ v ∈ as, okV σ.1.length v ∧ v ≠ vj) (hU : U.heap = H) (hWm : s.WarmedH U.vm) :
    cPre D aC ad H.size as σ (as.map (vv ad)).toArray U := by
  have h5 := F.n5
  refine ⟨rfl, by rw [hU], F.kn.warm hWm, ?_, by rw [hU]; exact hW.own, hok⟩
  rw [hU]
  have h1 : mSt0 A ad0 M0 s H := F.st0.kept (fun a ha hn => hS.2.1 a ha hn)
  exact ((h1.narrow (hW.inA F.hA hS.1)).moved hWm.alike).to (fun k hk => g1 k (by omega)) g2
theorem sR_split {ad : Nat → Nat} {n : Nat} : ∀ (q : Nat) {S : List mV} {st : List Value}, sR ad n S st → (S.take q).all nj = true → q ≤ S.length → st = (S.take q).map (vv ad) ++ st.drop q ∧ sR ad n (S.drop q) (st.drop q) ∧ ∀ v ∈ S.take q, okV n v ∧ v ≠ vj
  | 0, S, st, h, _, _ => ⟨rfl, h, fun v hv => by simp at hv⟩
  | q + 1, [], st, h, _, hq => by simp at hq
  | q + 1, v :: S, [], h, _, _ => h.elim
  | q + 1, v :: S, x :: st, h, ha, hq => by
    rw [List.take_succ_cons, List.all_cons, Bool.and_eq_true] at ha
    obtain ⟨h1, h2, h3⟩ := sR_split q h.2 ha.2 (by simpa using hq)
    have hx : x = vv ad v := by
      rcases h.1.1 with hx | ⟨hx, -⟩
      · exact hx
      · rw [hx] at ha; exact absurd ha.1 (by decide)
    have hv : v ≠ vj := fun z => by rw [z] at ha; exact absurd ha.1 (by decide)
    refine ⟨?_, h2, fun w hw => ?_⟩
    · rw [List.take_succ_cons, List.map_cons, List.drop_succ_cons, List.cons_append, ← h1, hx]
    · rw [List.take_succ_cons] at hw
      rcases List.mem_cons.mp hw with rfl | hw
      · exact ⟨h.1.2, hv⟩
      · exact h3 w hw
/-- how a call goes on -/
theorem s_go (F : Fx P m d sc p l e R s mid args below meth c D aC ad0 n0 M0 A) {a cc nA : Nat} {as : List mV} {o : mO} {σ1 : mS} (hn : nA ≤ S.length) (hnj : (S.take nA).all nj = true) (has : as = (S.take nA).reverse)
    (hrun : ∀ (ad : Nat → Nat) (H : Heap) (locs : List Loc) (ls : Array Slot) (st rest : List Value), n0 ≤ σ.1.length → (∀ k, k < n0 → ad k = ad0 k) → mWd D aC ad σ A H → (∀ k, k < 5 → σ.2 k = M0 k) → va_S A s.heap H locs → ls.size = (P m).1.2.2.1 → st = ((as.map (vv ad)).reverse ++ rest) → (rest.map fun v => v.category).sum = c2sum (S.drop nA) → (∀ v ∈ as, okV σ.1.length v ∧ v ≠ vj) →
      vx_Run p l e R s mid args below meth c H locs u (2100 * u) cc (2100 * cc) (F0 mid pc ls st) rest (cQ D aC ad H.size σ o σ1 (as.map (vv ad)).toArray) (cX D aC ad H.size σ o σ1) (mA ad σ.1.length H.size))
    (kr : ∀ v, o = .inl v → WG P m p l e R s mid args below meth c D aC ad0 n0 M0 A Q (pc + 3) (u + cc) L (psh v (S.drop nA)) σ1) (kx : ∀ ex, o = .inr ex → XG P m p l e R s mid args below meth c D aC ad0 n0 M0 A Q pc (u + cc) L (S.drop nA) σ1 ex) : WG P m p l e R s mid args below meth c D aC ad0 n0 M0 A Q pc u L S σ := by
  intro ad H locs ls st g0 g1 hW g2 hS hL hT
  obtain ⟨h1, h2, h3⟩ := sR_split nA hT hnj hn
  have hst : st = (as.map (vv ad)).reverse ++ st.drop nA := by
    rw [has, List.map_reverse, List.reverse_reverse]
    exact h1
  have hok : ∀ v ∈ as, okV σ.1.length v ∧ v ≠ vj := fun v hv => h3 v (by rw [has] at hv; exact List.mem_reverse.mp hv)
  have hr := hrun ad H locs ls st (st.drop nA) g0 g1 hW g2 hS (lR_sz hL) hst (sR_sum h2) hok
  have hin := hW.inA F.hA hS.1
  intro T hTe X
  rcases hr T hTe X with ⟨v, st₀, t, T', Lc, q0, X', hLc, e1, e2, ⟨⟨v', ad', p1, p2, p3, p4, p4', p5, p6⟩, hF⟩, stp⟩ | ⟨q, st₀, t, T', Lc, E, ce, q0, X', hLc, e1, e2, ⟨ex, ad', p1, p2, p3, p4, p4', p5, hF⟩, hce, hcv, hcl, stp⟩
  · have hv : v = v'.map (vv ad') := by cases p2; rfl
    subst hv
    obtain ⟨k1, k2, k3⟩ := vx_keep q0 e1 hS (fun q _ h => hin q h) hin hLc hF
    have hsum : 2100 * u + 2100 * cc = 2100 * (u + cc) := by omega
    have hW' : mWd D aC ad' σ1 A T'.heap := by rw [e1]; exact p5.weak hin
    have hsr : sR ad' σ1.1.length (psh v' (S.drop nA)) ((v'.map (vv ad')).toList ++ st.drop nA) := by
      cases v' with
      | none => exact sR_ad p3 p4 h2
      | some x => exact ⟨⟨Or.inl rfl, (p6 x rfl).1⟩, sR_ad p3 p4 h2⟩
    have key := kr v' p1 ad' T'.heap (locs ++ Lc) ls _ (by omega) (fun k hk => (p3 k (by omega)).trans (g1 k hk)) hW' (fun k hk => (p4' k hk).trans (g2 k hk)) k3 (lR_ad p3 p4 hL) hsr
    rw [← hsum] at key
    obtain ⟨t2, a1, b1⟩ := key T' rfl X'
    exact ⟨t2, stp t2 a1, b1⟩
  · obtain ⟨k1, k2, k3⟩ := vx_keep q0 e1 hS (fun q _ h => hin q h) hin hLc hF
    have hsum : 2100 * u + 2100 * cc = 2100 * (u + cc) := by omega
    have hW' : mWd D aC ad' σ1 A T'.heap := by rw [e1]; exact p5.weak hin
    have key := kx ex p1 ad' T'.heap (locs ++ Lc) ls _ q ce (by omega) (fun k hk => (p3 k (by omega)).trans (g1 k hk)) hW' (fun k hk => (p4' k hk).trans (g2 k hk)) k3 (lR_ad p3 p4 hL) (sR_ad p3 p4 h2) (by rw [e1]; exact hce) hcv (by rw [← p2]; exact hcl)
    rw [← hsum] at key
    obtain ⟨t2, a1, b1⟩ := key T' rfl X'
    exact ⟨t2, stp.trans a1, b1⟩
theorem cWs_pay (F : Fx P m d sc p l e R s mid args below meth c D aC ad0 n0 M0 A) (a : Nat) (ha : cW P a ∈ lw_gd) : ∀ w ∈ cWs P a, ∀ (a' : Array Value) (U : State), s.WarmedH U.vm → w.before a' U = true := by
  intro w hw a' U hWm
  have hw' : w ∈ lw_gd := by
    rcases List.mem_cons.mp hw with rfl | h
    · exact ha
    · exact h
  exact word_at hWm (good_of_word (gd_good w hw')) (F.ts w hw')
theorem cW_code {a : Nat} (h : (P a).1.2.2.2.2.2.2 = []) : cW P a = .code (P a).1.1 (P a).1.2.1 (P a).1.2.2.1 (P a).1.2.2.2.1 := by
  unfold cW
  rw [h]
theorem cW_codeW {a : Nat} (h : (P a).1.2.2.2.2.2.2 ≠ []) : cW P a = .codeWith (P a).1.1 (P a).1.2.1 (P a).1.2.2.1 (P a).1.2.2.2.1 (P a).1.2.2.2.2.2.2 := by
  unfold cW
  cases hx : (P a).1.2.2.2.2.2.2 with
  | nil => exact absurd hx h
  | cons x y => rfl
theorem callB_at (F : Fx P m d sc p l e R s mid args below meth c D aC ad0 n0 M0 A) {a d' idx n : Nat} {st : Bool} (hd : d = d' + 1) (hm : mOk P a st) (hh : (P a).1.2.2.2.2.2.2 = []) (hn : n = (P a).1.2.2.2.2.2.1 - (if st = true then 0 else 1)) (hl : (Cond.methodLink (P m).1.1.cls idx (P a).1.1).before args s = true) :
    CallB R s args (P m).1.1.cls idx (P a).1.1 (P a).1.2.1 (P a).1.2.2.1 (P a).1.2.2.2.1 (cWs P a) (cRm P a d') (P a).1.2.2.2.2.1 (2100 * (P a).1.2.2.2.2.1) n := by
  obtain ⟨m1, m2, m3, m4, m5, m6, m7, m8⟩ := hm
  have hrm := F.rm
  refine ⟨rfl, rfl, (by show d' + 10 + 1 ≤ R.frames; omega), (by show 8 + ((P a).1.2.2.1 + 11) + (40 * d' + 300) ≤ R.locals; omega), cWs_pay F a m3, (by rw [← cW_code hh]; exact List.mem_cons_self), (by rw [← cW_code hh]; exact F.ts _ m3), F.ts _ m4, m2, fun sig h => ?_, hl⟩
  rw [h] at m6
  rw [hn]
  exact (Option.some.inj m6).symm
theorem callN_at (F : Fx P m d sc p l e R s mid args below meth c D aC ad0 n0 M0 A) {a d' idx n : Nat} {st : Bool} {host : String} (hd : d = d' + 1) (hm : mOk P a st) (hh : (P a).1.2.2.2.2.2.2 = []) (hn : n = (P a).1.2.2.2.2.2.1 - (if st = true then 0 else 1)) (hl : (Cond.methodLinkNest (P m).1.1.cls idx (P a).1.1 host).before args s = true) :
    va_CN R s args (P m).1.1.cls idx (P a).1.1 host (P a).1.2.1 (P a).1.2.2.1 (P a).1.2.2.2.1 (cWs P a) (cRm P a d') (P a).1.2.2.2.2.1 (2100 * (P a).1.2.2.2.2.1) n := by
  obtain ⟨m1, m2, m3, m4, m5, m6, m7, m8⟩ := hm
  have hrm := F.rm
  refine ⟨⟨rfl, rfl, (by show d' + 10 + 1 ≤ R.frames; omega), (by show 8 + ((P a).1.2.2.1 + 11) + (40 * d' + 300) ≤ R.locals; omega), cWs_pay F a m3, (by rw [← cW_code hh]; exact List.mem_cons_self)⟩, (by rw [← cW_code hh]; exact F.ts _ m3), F.ts _ m4, m2, fun sig h => ?_, hl⟩
  rw [h] at m6
  rw [hn]
  exact (Option.some.inj m6).symm
theorem fix_at (F : Fx P m d sc p l e R s mid args below meth c D aC ad0 n0 M0 A) : CallFix p mid c (P m).1.2.1 (P m).1.2.2.1 s args lw_gd (P m).1.1.cls := ⟨F.exec, F.code, F.maxL, F.own, F.ts⟩
theorem bd_at (F : Fx P m d sc p l e R s mid args below meth c D aC ad0 n0 M0 A) {cc : Nat} (h : u + cc ≤ (P m).1.2.2.2.2.1) : u + cc ≤ R.cells ∧ 2100 * u + 2100 * cc ≤ R.slots := by
  have := F.bd
  exact ⟨by omega, by omega⟩
theorem rec_at (F : Fx P m d sc p l e R s mid args below meth c D aC ad0 n0 M0 A) {ad : Nat → Nat} {H : Heap} {k ci : Nat} {fs : List (Option (Option Nat))} {q : vw_C} (hW : mWd D aC ad σ A H) (hk : σ.1[k]? = some (0, ci, fs)) (hq : mcl[ci]? = some q) : ∃ cell : Cell, H[ad k]? = some cell ∧ cell.vm.isStatics = false ∧ s.vm.findClass q.1 = some cell.cls :=
  va_recv (q0 := k - 5) (ci := ci) F.kn.1 hW.1 hq (mws_get hk (hW.2.2.1.ge hk (Nat.zero_le 4)))
theorem rcv_some {as : List mV} {ci : Nat} (h : rcvOk σ as (ci + 1) = true) : ∃ k fs as', as = vr k :: as' ∧ σ.1[k]? = some (0, ci, fs) := by
  unfold rcvOk at h
  split at h
  · rename_i h0; cases h0
  · rename_i c0 k as' h0
    cases h0
    split at h
    · rename_i c1 fs hk
      have : c1 = ci := by simpa using h
      subst this
      exact ⟨k, fs, as', rfl, hk⟩
    · cases h
  · cases h
/-- the kinds of calls -/
theorem s_callV (F : Fx P m d sc p l e R s mid args below meth c D aC ad0 n0 M0 A) {a d' nA ci i idx : Nat} {o : mO} {σ1 : mS} {q : vw_C} (hn : nA ≤ S.length) (h8 : c2sum (S.drop nA) ≤ 8) (hu : u + (P a).1.2.2.2.2.1 ≤ (P m).1.2.2.2.2.1) (hnj : (S.take nA).all nj = true) (hrc : rcvOk σ (S.take nA).reverse (ci + 1) = true) (hq : mcl[ci]? = some q) (hqc : q.1 = (P a).1.1.cls) (hd' : d = d' + 1) (hm : mOk P a false) (hh : (P a).1.2.2.2.2.2.2 = []) (hnA : nA = (P a).1.2.2.2.2.2.1) (hsel : (P a).1.1.name ≠ "<init>")
    (hl : lw_tbl[i]? = some (.methodLink (P m).1.1.cls idx (P a).1.1)) (hd : decode (P m).1.2.1 pc = .ok (.invokevirtual idx, 3)) (hM : cMet P l a d' (S.take nA).reverse σ o σ1)
    (kr : ∀ v, o = .inl v → WG P m p l e R s mid args below meth c D aC ad0 n0 M0 A Q (pc + 3) (u + (P a).1.2.2.2.2.1) L (psh v (S.drop nA)) σ1) (kx : ∀ ex, o = .inr ex → XG P m p l e R s mid args below meth c D aC ad0 n0 M0 A Q pc (u + (P a).1.2.2.2.2.1) L (S.drop nA) σ1 ex) : WG P m p l e R s mid args below meth c D aC ad0 n0 M0 A Q pc u L S σ := by
  refine s_go F (a := a) hn hnj rfl (fun ad H locs ls st rest g0 g1 hW g2 hS hsz hst hsum hok => ?_) kr kx
  obtain ⟨k, fs, as', has, hk⟩ := rcv_some hrc
  have hm' := hm
  obtain ⟨m1, m2, m3, m4, m5, m6, m7, m8⟩ := hm
  obtain ⟨i1, i2, i3⟩ := m8 rfl
  rw [has] at hM hst hok ⊢
  have hlen : (vr k :: as').length = nA := by rw [← has]; simp; omega
  refine vx_runV (As := as'.map (vv ad)) (b := ad k) (C := (P a).1.1.cls) (n := nA - 1) (fix_at F) (hM D aC ad H.size) ⟨callB_at F hd' hm' hh (by rw [hnA]; rfl) (gd_at F hl rfl), F.ts _ i1, F.ts _ (i3.resolve_left hsel)⟩ ⟨cPre_blind, by rw [← hqc]; exact rec_at F hW hk hq, fun U hU hWm => cPre_at F g0 g1 hW g2 hS hok hU hWm⟩ rfl (by simp at hlen ⊢; omega) hsz (by rw [hst, List.map_cons, List.reverse_cons, List.append_assoc]; rfl) (by show 2 * 0 + _ ≤ 8; omega) hd (bd_at F hu)
theorem s_callS (F : Fx P m d sc p l e R s mid args below meth c D aC ad0 n0 M0 A) {a d' nA i idx : Nat} {o : mO} {σ1 : mS} (hn : nA ≤ S.length) (h8 : c2sum (S.drop nA) ≤ 8) (hu : u + (P a).1.2.2.2.2.1 ≤ (P m).1.2.2.2.2.1) (hnj : (S.take nA).all nj = true) (hd' : d = d' + 1) (hm : mOk P a true) (hh : (P a).1.2.2.2.2.2.2 = []) (hnA : nA = (P a).1.2.2.2.2.2.1)
    (hl : lw_tbl[i]? = some (.methodLink (P m).1.1.cls idx (P a).1.1)) (hd : decode (P m).1.2.1 pc = .ok (.invokestatic idx, 3)) (hM : cMet P l a d' (S.take nA).reverse σ o σ1)
    (kr : ∀ v, o = .inl v → WG P m p l e R s mid args below meth c D aC ad0 n0 M0 A Q (pc + 3) (u + (P a).1.2.2.2.2.1) L (psh v (S.drop nA)) σ1) (kx : ∀ ex, o = .inr ex → XG P m p l e R s mid args below meth c D aC ad0 n0 M0 A Q pc (u + (P a).1.2.2.2.2.1) L (S.drop nA) σ1 ex) : WG P m p l e R s mid args below meth c D aC ad0 n0 M0 A Q pc u L S σ := by
  refine s_go F (a := a) hn hnj rfl (fun ad H locs ls st rest g0 g1 hW g2 hS hsz hst hsum hok => ?_) kr kx
  have hm' := hm
  obtain ⟨m1, m2, m3, m4, m5, m6, m7, m8⟩ := hm
  refine vx_runS (As := ((S.take nA).reverse).map (vv ad)) (n := nA) (fix_at F) (hM D aC ad H.size) ⟨callB_at F hd' hm' hh (by rw [hnA]; rfl) (gd_at F hl rfl), F.ts _ (m7 rfl)⟩ ⟨cPre_blind, fun U hU hWm => cPre_at F g0 g1 hW g2 hS hok hU hWm⟩ rfl (by simp; omega) hsz hst (by show 2 * 0 + _ ≤ 8; omega) hd (bd_at F hu)
theorem s_callSN (F : Fx P m d sc p l e R s mid args below meth c D aC ad0 n0 M0 A) {a d' nA i idx : Nat} {host : String} {o : mO} {σ1 : mS} (hn : nA ≤ S.length) (h8 : c2sum (S.drop nA) ≤ 8) (hu : u + (P a).1.2.2.2.2.1 ≤ (P m).1.2.2.2.2.1) (hnj : (S.take nA).all nj = true) (hd' : d = d' + 1) (hm : mOk P a true) (hh : (P a).1.2.2.2.2.2.2 = []) (hnA : nA = (P a).1.2.2.2.2.2.1)
    (hl : lw_tbl[i]? = some (.methodLinkNest (P m).1.1.cls idx (P a).1.1 host)) (hd : decode (P m).1.2.1 pc = .ok (.invokestatic idx, 3)) (hM : cMet P l a d' (S.take nA).reverse σ o σ1)
    (kr : ∀ v, o = .inl v → WG P m p l e R s mid args below meth c D aC ad0 n0 M0 A Q (pc + 3) (u + (P a).1.2.2.2.2.1) L (psh v (S.drop nA)) σ1) (kx : ∀ ex, o = .inr ex → XG P m p l e R s mid args below meth c D aC ad0 n0 M0 A Q pc (u + (P a).1.2.2.2.2.1) L (S.drop nA) σ1 ex) : WG P m p l e R s mid args below meth c D aC ad0 n0 M0 A Q pc u L S σ := by
  refine s_go F (a := a) hn hnj rfl (fun ad H locs ls st rest g0 g1 hW g2 hS hsz hst hsum hok => ?_) kr kx
  have hm' := hm
  obtain ⟨m1, m2, m3, m4, m5, m6, m7, m8⟩ := hm
  refine vx_runSN (As := ((S.take nA).reverse).map (vv ad)) (n := nA) (fix_at F) (hM D aC ad H.size) ⟨callN_at F hd' hm' hh (by rw [hnA]; rfl) (va_Nw.use rfl (ng_at F hl rfl)), F.ts _ (m7 rfl), trivial⟩ ⟨cPre_blind, fun U hU hWm => cPre_at F g0 g1 hW g2 hS hok hU hWm⟩ rfl (by simp; omega) hsz hst (by show 2 * 0 + _ ≤ 8; omega) hd (bd_at F hu)
theorem s_callSX (F : Fx P m d sc p l e R s mid args below meth c D aC ad0 n0 M0 A) {a d' nA i idx : Nat} {o : mO} {σ1 : mS} (hn : nA ≤ S.length) (h8 : c2sum (S.drop nA) ≤ 8) (hu : u + (P a).1.2.2.2.2.1 ≤ (P m).1.2.2.2.2.1) (hnj : (S.take nA).all nj = true) (hd' : d = d' + 1) (hm : mOk P a true) (hh : (P a).1.2.2.2.2.2.2 ≠ []) (hnA : nA = (P a).1.2.2.2.2.2.1)
    (hl : lw_tbl[i]? = some (.methodLink (P m).1.1.cls idx (P a).1.1)) (hd : decode (P m).1.2.1 pc = .ok (.invokestatic idx, 3)) (hM : cMet P l a d' (S.take nA).reverse σ o σ1)
    (kr : ∀ v, o = .inl v → WG P m p l e R s mid args below meth c D aC ad0 n0 M0 A Q (pc + 3) (u + (P a).1.2.2.2.2.1) L (psh v (S.drop nA)) σ1) (kx : ∀ ex, o = .inr ex → XG P m p l e R s mid args below meth c D aC ad0 n0 M0 A Q pc (u + (P a).1.2.2.2.2.1) L (S.drop nA) σ1 ex) : WG P m p l e R s mid args below meth c D aC ad0 n0 M0 A Q pc u L S σ := by
  refine s_go F (a := a) hn hnj rfl (fun ad H locs ls st rest g0 g1 hW g2 hS hsz hst hsum hok => ?_) kr kx
  have hm' := hm
  obtain ⟨m1, m2, m3, m4, m5, m6, m7, m8⟩ := hm
  have hrm := F.rm
  refine vx_runSX (As := ((S.take nA).reverse).map (vv ad)) (n := nA) (hh := (P a).1.2.2.2.2.2.2) (bytes := (P a).1.2.1) (maxL := (P a).1.2.2.1) (ret := (P a).1.2.2.2.1) (fix_at F) (hM D aC ad H.size) ⟨⟨rfl, rfl, (by show d' + 10 + 1 ≤ R.frames; omega), (by show 8 + ((P a).1.2.2.1 + 11) + (40 * d' + 300) ≤ R.locals; omega), cWs_pay F a m3, (by rw [← cW_codeW hh]; exact List.mem_cons_self)⟩, (by rw [← cW_codeW hh]; exact F.ts _ m3), F.ts _ m4, m2, fun sig h => ?_, gd_at F hl rfl, F.ts _ (m7 rfl)⟩ ⟨cPre_blind, fun U hU hWm => cPre_at F g0 g1 hW g2 hS hok hU hWm⟩ rfl (by simp; omega) hsz hst (by show 2 * 0 + _ ≤ 8; omega) hd (bd_at F hu)
  rw [h] at m6
  rw [hnA]
  exact (Option.some.inj m6).symm
theorem s_callI (F : Fx P m d sc p l e R s mid args below meth c D aC ad0 n0 M0 A) {a d' nA ci i idx : Nat} {o : mO} {σ1 : mS} (hn : nA ≤ S.length) (h8 : c2sum (S.drop nA) ≤ 8) (hu : u + (P a).1.2.2.2.2.1 ≤ (P m).1.2.2.2.2.1) (hnj : (S.take nA).all nj = true) (hrc : rcvOk σ (S.take nA).reverse (ci + 1) = true) (hd' : d = d' + 1) (hm : mOk P a false) (hh : (P a).1.2.2.2.2.2.2 = []) (hnA : nA = (P a).1.2.2.2.2.2.1) (hin : (P a).1.1.name = "<init>") (hrt : (P a).1.2.2.2.1 = none)
    (hl : lw_tbl[i]? = some (.methodLink (P m).1.1.cls idx (P a).1.1)) (hd : decode (P m).1.2.1 pc = .ok (.invokespecial idx, 3)) (hM : cMet P l a d' (S.take nA).reverse σ o σ1)
    (kr : ∀ v, o = .inl v → WG P m p l e R s mid args below meth c D aC ad0 n0 M0 A Q (pc + 3) (u + (P a).1.2.2.2.2.1) L (psh v (S.drop nA)) σ1) (kx : ∀ ex, o = .inr ex → XG P m p l e R s mid args below meth c D aC ad0 n0 M0 A Q pc (u + (P a).1.2.2.2.2.1) L (S.drop nA) σ1 ex) : WG P m p l e R s mid args below meth c D aC ad0 n0 M0 A Q pc u L S σ := by
  refine s_go F (a := a) hn hnj rfl (fun ad H locs ls st rest g0 g1 hW g2 hS hsz hst hsum hok => ?_) kr kx
  obtain ⟨k, fs, as', has, hk⟩ := rcv_some hrc
  have hm' := hm
  obtain ⟨m1, m2, m3, m4, m5, m6, m7, m8⟩ := hm
  obtain ⟨i1, i2, i3⟩ := m8 rfl
  rw [has] at hM hst hok ⊢
  have hlen : (vr k :: as').length = nA := by rw [← has]; simp; omega
  have hcb := callB_at F (n := nA - 1) hd' hm' hh (by rw [hnA]; rfl) (gd_at F hl rfl)
  rw [hrt] at hcb
  refine vx_runI (As := as'.map (vv ad)) (b := ad k) (n := nA - 1) (fix_at F) (hM D aC ad H.size) ⟨hcb, hin, F.ts _ i1⟩ ⟨cPre_blind, fun U hU hWm => cPre_at F g0 g1 hW g2 hS hok hU hWm⟩ rfl (by simp at hlen ⊢; omega) hsz (by rw [hst, List.map_cons, List.reverse_cons, List.append_assoc]; rfl) (by show 2 * 0 + _ ≤ 8; omega) hd (bd_at F hu)
theorem s_callIN (F : Fx P m d sc p l e R s mid args below meth c D aC ad0 n0 M0 A) {a d' nA ci i idx : Nat} {host : String} {o : mO} {σ1 : mS} (hn : nA ≤ S.length) (h8 : c2sum (S.drop nA) ≤ 8) (hu : u + (P a).1.2.2.2.2.1 ≤ (P m).1.2.2.2.2.1) (hnj : (S.take nA).all nj = true) (hrc : rcvOk σ (S.take nA).reverse (ci + 1) = true) (hd' : d = d' + 1) (hm : mOk P a false) (hh : (P a).1.2.2.2.2.2.2 = []) (hnA : nA = (P a).1.2.2.2.2.2.1) (hin : (P a).1.1.name = "<init>") (hrt : (P a).1.2.2.2.1 = none)
    (hl : lw_tbl[i]? = some (.methodLinkNest (P m).1.1.cls idx (P a).1.1 host)) (hd : decode (P m).1.2.1 pc = .ok (.invokespecial idx, 3)) (hM : cMet P l a d' (S.take nA).reverse σ o σ1)
    (kr : ∀ v, o = .inl v → WG P m p l e R s mid args below meth c D aC ad0 n0 M0 A Q (pc + 3) (u + (P a).1.2.2.2.2.1) L (psh v (S.drop nA)) σ1) (kx : ∀ ex, o = .inr ex → XG P m p l e R s mid args below meth c D aC ad0 n0 M0 A Q pc (u + (P a).1.2.2.2.2.1) L (S.drop nA) σ1 ex) : WG P m p l e R s mid args below meth c D aC ad0 n0 M0 A Q pc u L S σ := by
  refine s_go F (a := a) hn hnj rfl (fun ad H locs ls st rest g0 g1 hW g2 hS hsz hst hsum hok => ?_) kr kx
  obtain ⟨k, fs, as', has, hk⟩ := rcv_some hrc
  have hm' := hm
  obtain ⟨m1, m2, m3, m4, m5, m6, m7, m8⟩ := hm
  obtain ⟨i1, i2, i3⟩ := m8 rfl
  rw [has] at hM hst hok ⊢
  have hlen : (vr k :: as').length = nA := by rw [← has]; simp; omega
  have hcb := callN_at F (n := nA - 1) (host := host) hd' hm' hh (by rw [hnA]; rfl) (va_Nw.use rfl (ng_at F hl rfl))
  rw [hrt] at hcb
  refine vx_runIN (As := as'.map (vv ad)) (b := ad k) (n := nA - 1) (fix_at F) (hM D aC ad H.size) ⟨hcb, hin, F.ts _ i1⟩ ⟨cPre_blind, fun U hU hWm => cPre_at F g0 g1 hW g2 hS hok hU hWm⟩ rfl (by simp at hlen ⊢; omega) hsz (by rw [hst, List.map_cons, List.reverse_cons, List.append_assoc]; rfl) (by show 2 * 0 + _ ≤ 8; omega) hd (bd_at F hu)
end CA
end
section
/-! THE WORDS OF THE EXCEPTIONS -/
def exI (e : Nat) : Nat := match e with
  | 0 => 64
  | 1 => 81
  | 2 => 96
  | 3 => 213
  | _ => 146
def exS : List String := ["java/lang/RuntimeException", "java/lang/Exception"]
def exX (e : Nat) : Nat := match e with
  | 2 => 13
  | _ => 7
def exB (e : Nat) : ByteArray := match e with
  | 2 => prog_27_method_4_code
  | _ => Bundle.six
theorem thr_ws : ∀ ex, ex < 5 → ∀ w ∈ nx_at RX9 (exI ex) (exN ex) (exX ex) (exB ex) exS, w ∈ lw_gd ∨ w ∈ lw_ng := by
  have key : ∀ ws : List Cond, ws.all (fun w => decide (w ∈ lw_tbl) && (goodWord w || mNg w)) = true → ∀ w ∈ ws, w ∈ lw_gd ∨ w ∈ lw_ng := by
    intro ws h w hw
    have h1 := List.all_eq_true.mp h w hw
    simp only [Bool.and_eq_true, decide_eq_true_eq, Bool.or_eq_true] at h1
    rcases h1.2 with h2 | h2
    · exact Or.inl (List.mem_filter.mpr ⟨h1.1, h2⟩)
    · exact Or.inr (List.mem_filter.mpr ⟨h1.1, h2⟩)
  intro ex hex
  rcases (show ex = 0 ∨ ex = 1 ∨ ex = 2 ∨ ex = 3 ∨ ex = 4 by omega) with rfl | rfl | rfl | rfl | rfl
  · exact key _ (by decide +kernel)
  · exact key _ (by decide +kernel)
  · exact key _ (by decide +kernel)
  · exact key _ (by decide +kernel)
  · exact key _ (by decide +kernel)
theorem thr_dec : ∀ ex, ex < 5 → decode (exB ex) 0 = .ok (.aload_n 0, 1) ∧ decode (exB ex) 1 = .ok (.aload_n 1, 1) ∧ decode (exB ex) 2 = .ok (.invokespecial (exX ex), 3) ∧ decode (exB ex) 5 = .ok (.return_, 1) := by
  intro ex hex
  rcases (show ex = 0 ∨ ex = 1 ∨ ex = 2 ∨ ex = 3 ∨ ex = 4 by omega) with rfl | rfl | rfl | rfl | rfl <;> exact ⟨by decide +kernel, by decide +kernel, by decide +kernel, by decide +kernel⟩
theorem thr_in : ∀ ex, ex < 5 → Cond.initialized (exN ex) ∈ lw_gd := by
  intro ex hex
  rcases (show ex = 0 ∨ ex = 1 ∨ ex = 2 ∨ ex = 3 ∨ ex = 4 by omega) with rfl | rfl | rfl | rfl | rfl
  · exact gd_all (ws := [Cond.initialized (exN 0)]) (by decide +kernel) _ (List.mem_singleton.mpr rfl)
  · exact gd_all (ws := [Cond.initialized (exN 1)]) (by decide +kernel) _ (List.mem_singleton.mpr rfl)
  · exact gd_all (ws := [Cond.initialized (exN 2)]) (by decide +kernel) _ (List.mem_singleton.mpr rfl)
  · exact gd_all (ws := [Cond.initialized (exN 3)]) (by decide +kernel) _ (List.mem_singleton.mpr rfl)
  · exact gd_all (ws := [Cond.initialized (exN 4)]) (by decide +kernel) _ (List.mem_singleton.mpr rfl)
theorem thr_fit : ∀ ex, ex < 5 → Bundle.fit (exN ex) = true := by
  intro ex hex
  rcases (show ex = 0 ∨ ex = 1 ∨ ex = 2 ∨ ex = 3 ∨ ex = 4 by omega) with rfl | rfl | rfl | rfl | rfl <;> decide +kernel
end
section
/-! ENDS OF A METHOD -/
def retAt (P : mP) (m pc : Nat) (v : Option mV) (S : List mV) : Prop :=
  (decode (P m).1.2.1 pc = .ok (.return_, 1) ∧ (P m).1.2.2.2.1 = none ∧ v = none ∧ S = []) ∨
  (∃ x, decode (P m).1.2.1 pc = .ok (.ireturn, 1) ∧ ((P m).1.2.2.2.1 = some .int ∨ ((P m).1.2.2.2.1 = some .boolean ∧ bit? x = true)) ∧ v = some (vi x) ∧ S = [vi x]) ∨
  (∃ x, decode (P m).1.2.1 pc = .ok (.dreturn, 1) ∧ (P m).1.2.2.2.1 = some .double ∧ v = some (vd x) ∧ S = [vd x])
def thrAt (P : mP) (m pc ex : Nat) : Prop := (P m).1.1.cls = RX9 ∧ (P m).1.2.2.2.2.2.2 = [] ∧ ex < 5 ∧ ∃ (ik is : Nat) (text : String), Cond.classLink RX9 ik (exN ex) ∈ lw_gd ∧ Cond.stringRef RX9 is text ∈ lw_tbl ∧ decode (P m).1.2.1 pc = .ok (.new ik, 3) ∧ decode (P m).1.2.1 (pc + 3) = .ok (.dup, 1) ∧
  ((decode (P m).1.2.1 (pc + 4) = .ok (.ldc is, 2) ∧ decode (P m).1.2.1 (pc + 6) = .ok (.invokespecial (exI ex), 3) ∧ decode (P m).1.2.1 (pc + 9) = .ok (.athrow, 1)) ∨
   (decode (P m).1.2.1 (pc + 4) = .ok (.ldc_w is, 3) ∧ decode (P m).1.2.1 (pc + 7) = .ok (.invokespecial (exI ex), 3) ∧ decode (P m).1.2.1 (pc + 10) = .ok (.athrow, 1)))
def Fin (P : mP) (m : Nat) (p : Program) (l : Launch) (e : Env) (R : Room) (s : State) (mid : MethodId) (args : Array Value) (below : List Frame) (meth : Method) (c : Code) (D : va_G) (aC : FieldType → ClassId) (ad0 : Nat → Nat) (n0 : Nat) (M0 : mM) (A : Nat → Prop) (Q : State → Prop) (o : mO) (σ' : mS) : Prop :=
  (∀ v, o = .inl v → ∀ pc u L S, u ≤ (P m).1.2.2.2.2.1 → retAt P m pc v S → WG P m p l e R s mid args below meth c D aC ad0 n0 M0 A Q pc u L S σ') ∧
  (∀ ex, o = .inr ex → ∀ pc u L S, u + 1 ≤ (P m).1.2.2.2.2.1 → S.length ≤ 20 → thrAt P m pc ex → WG P m p l e R s mid args below meth c D aC ad0 n0 M0 A Q pc u L S σ') ∧
  (∀ ex, o = .inr ex → ∀ pc u L S, u ≤ (P m).1.2.2.2.2.1 → (P m).1.2.2.2.2.2.2 = [] → XG P m p l e R s mid args below meth c D aC ad0 n0 M0 A Q pc u L S σ' ex)
theorem ng_tab {w : Cond} (h : w ∈ lw_ng) : w.onTables = true := by
  have h1 := (List.mem_filter.mp h).2
  unfold mNg at h1
  split at h1
  · rfl
  · rfl
  · rfl
  · rfl
  · cases h1
theorem gd_ot {w : Cond} (h : w ∈ lw_gd) : vx_ot w = true := by
  unfold vx_ot
  rw [gd_good w h, Bool.or_true]
theorem ng_ot {w : Cond} (h : w ∈ lw_ng) : vx_ot w = true := by
  unfold vx_ot
  rw [ng_tab h, Bool.true_or]
section EN
variable {P : mP} {m d : Nat} {sc : Bool} {p : Program} {l : Launch} {e : Env} {R : Room} {s : State} {mid : MethodId} {args : Array Value} {below : List Frame} {meth : Method} {c : Code} {D : va_G} {aC : FieldType → ClassId} {ad0 : Nat → Nat} {n0 : Nat} {M0 : mM} {A : Nat → Prop} {Q : State → Prop}
variable {pc u : Nat} {L S : List mV} {σ : mS}
theorem mWd.grow {ad : Nat → Nat} {H H1 : Heap} (h : mWd D aC ad σ A H) (hq : ∀ q : Nat, q < H.size → H1[q]? = H[q]?) : mWd D aC ad σ A H1 := ⟨h.1.kept (fun k q hk => hq _ (h.1 k q hk).lt), h.2⟩
theorem fin_meth {σ0 : mS} {o : mO} {σ' : mS} (F : Fx P m d sc p l e R s mid args below meth c D aC ad0 σ0.1.length σ0.2 (mA ad0 σ0.1.length s.heap.size)) :
    Fin P m p l e R s mid args below meth c D aC ad0 σ0.1.length σ0.2 (mA ad0 σ0.1.length s.heap.size) (vx_MQ below (cQ D aC ad0 s.heap.size σ0 o σ') (cX D aC ad0 s.heap.size σ0 o σ') args s (P m).1.2.2.2.2.1 (2100 * (P m).1.2.2.2.2.1) (mA ad0 σ0.1.length s.heap.size)) o σ' := by
  refine ⟨fun v hv pc u L S hu hr => ?_, fun ex hx pc u L S hu hS20 hr => ?_, fun ex hx pc u L S hu hh => ?_⟩
  · subst hv
    intro ad H locs ls st g0 g1 hW g2 hS hL hT
    refine W.widen (k := (P m).1.2.2.2.2.1) (n := 2100 * (P m).1.2.2.2.2.1) hu (by omega) ?_
    have hpost : ∀ (t : State) (x : Option Value), t.heap = H → x = v.map (vv ad) → (∀ y, v = some y → okV σ'.1.length y ∧ y ≠ vj) → cQ D aC ad0 s.heap.size σ0 (.inl v) σ' args s (.returned x) t := by
      intro t x ht hx hy
      exact ⟨⟨v, ad, rfl, by rw [hx], g1, g0, g2, by rw [ht]; exact hW, hy⟩, hS.F ht⟩
    rcases hr with ⟨r1, r2, rfl, rfl⟩ | ⟨x, r1, r2, rfl, rfl⟩ | ⟨x, r1, r2, rfl, rfl⟩
    · cases st with
      | cons _ _ => exact hT.elim
      | nil => exact vx_ret (W.vret F.exec F.code (F.ret.trans r2) (fun t ht hWm => hpost t none ht rfl (fun y hy => by cases hy)) hS.2.2 r1 F.locks)
    · obtain ⟨y, st', rfl, h1, h2, h3⟩ := sR_cons hT
      cases sv_i h1
      cases st' with
      | cons _ _ => exact h3.elim
      | nil =>
        have hq : ∀ t : State, t.heap = H → s.WarmedH t.vm → cQ D aC ad0 s.heap.size σ0 (.inl (some (vi x))) σ' args s (.returned (some (.int (Int32.ofInt x)))) t := fun t ht hWm => hpost t _ ht rfl (fun y hy => by cases hy; exact ⟨h2, fun z => by cases z⟩)
        rcases r2 with r2 | ⟨r2, r3⟩
        · exact vx_ret (W.iret F.exec F.code (F.ret.trans r2) hq hS.2.2 r1 F.locks)
        · refine vx_ret (W.zret (ty := .boolean) F.exec F.code (F.ret.trans r2) ?_ hq hS.2.2 r1 F.locks)
          unfold bit? at r3
          rw [Bool.or_eq_true, decide_eq_true_eq, decide_eq_true_eq] at r3
          rcases r3 with rfl | rfl <;> rfl
    · obtain ⟨y, st', rfl, h1, h2, h3⟩ := sR_cons hT
      cases sv_d h1
      cases st' with
      | cons _ _ => exact h3.elim
      | nil => exact vx_ret (W.dret F.exec F.code (F.ret.trans r2) (fun t ht hWm => hpost t _ ht rfl (fun y hy => by cases hy; exact ⟨trivial, fun z => by cases z⟩)) hS.2.2 r1 F.locks)
  · subst hx
    intro ad H locs ls st g0 g1 hW g2 hS hL hT
    obtain ⟨t1, t2, t3, ik, is, text, t4, t5, t6, t7, t8⟩ := hr
    obtain ⟨sa, hsa⟩ := F.kn.2.2.1 RX9 is text t5
    have hown := F.own
    rw [t1] at hown
    have hrm := F.rm
    have hb := F.bd
    have hs := sR_le hT hS20
    have htab : ∀ z, ∀ x ∈ c.exceptionTable.toList, covers x z = false := by
      intro z x hx
      rw [F.tab, t2] at hx
      cases hx
    have hat : ∀ w ∈ nx_at RX9 (exI ex) (exN ex) (exX ex) (exB ex) exS, w.before args s = true := fun w hw => by
      rcases thr_ws ex t3 w hw with h | h
      · exact F.ts w h
      · exact va_Nw.use (ng_tab h) (F.kn.2.1 w h)
    have hgd : ∀ w ∈ Cond.classLink RX9 ik (exN ex) :: Cond.initialized (exN ex) :: nx_at RX9 (exI ex) (exN ex) (exX ex) (exB ex) exS, vx_ot w = true := by
      intro w hw
      rcases List.mem_cons.mp hw with rfl | hw
      · exact gd_ot t4
      · rcases List.mem_cons.mp hw with rfl | hw
        · exact gd_ot (thr_in ex t3)
        · rcases thr_ws ex t3 w hw with h | h
          · exact gd_ot h
          · exact ng_ot h
    have hxx : ∀ t : State, s.vm.Alike t.vm → H.size ≤ t.heap.size → (∀ q : Nat, q < H.size → t.heap[q]? = H[q]?) → cX D aC ad0 s.heap.size σ0 (.inr ex) σ' (exN ex) s t := by
      intro t hvm hz hq
      refine ⟨ex, ad, rfl, rfl, g1, g0, g2, hW.grow hq, Nat.le_trans hS.1 hz, fun q h1 h2 => ?_⟩
      rw [hq q (Nat.lt_of_lt_of_le h1 hS.1)]
      exact hS.2.1 q h1 h2
    rcases t8 with ⟨t8, t9, t10⟩ | ⟨t8, t9, t10⟩
    · exact nx_throwS (names := exS) (text := text) F.exec F.code F.ntr (thr_dec ex t3).1 (thr_dec ex t3).2.1 (thr_dec ex t3).2.2.1 (thr_dec ex t3).2.2.2 hown (thr_fit ex t3) (by decide +kernel) (F.ts _ t4) (F.ts _ (thr_in ex t3)) hsa hat hgd F.st0.2.2.2.2.1 F.st0.2.2.2.2.2 hS ((lR_sz hL).trans F.maxL.symm) t6 t7 t8 t9 t10 (htab _) (by show 2 + 3 < _; omega) (by show _ + (13 * (2 + 1) + 43) ≤ _; omega) (by omega) (by omega) F.locks hxx hS.2.2 (by omega) (by omega)
    · exact nx_throwSW (names := exS) (text := text) F.exec F.code F.ntr (thr_dec ex t3).1 (thr_dec ex t3).2.1 (thr_dec ex t3).2.2.1 (thr_dec ex t3).2.2.2 hown (thr_fit ex t3) (by decide +kernel) (F.ts _ t4) (F.ts _ (thr_in ex t3)) hsa hat hgd F.st0.2.2.2.2.1 F.st0.2.2.2.2.2 hS ((lR_sz hL).trans F.maxL.symm) t6 t7 t8 t9 t10 (htab _) (by show 2 + 3 < _; omega) (by show _ + (13 * (2 + 1) + 43) ≤ _; omega) (by omega) (by omega) F.locks hxx hS.2.2 (by omega) (by omega)
  · subst hx
    intro ad H locs ls st q ce g0 g1 hW g2 hS hL hT hce hcv hcl
    refine vx_out (E := exN ex) (ce := ce) (fun x hx => ?_) F.locks hce hcv hcl (fun t ht hvm => ?_) hS.2.2 hu (by omega)
    · rw [F.tab, hh] at hx
      cases hx
    · refine ⟨ex, ad, rfl, rfl, g1, g0, g2, by rw [ht]; exact hW, hS.F ht⟩
end EN
end
section
/-! THE CHECK OF A STRAIGHT INSTRUCTION, AND THAT IT SUFFICES -/
def rgb (n : Int) : Bool := decide (-2147483648 ≤ n) && decide (n < 2147483648)
theorem rgb_ok {n : Int} (h : rgb n = true) : inR n := by
  unfold rgb at h
  simp only [Bool.and_eq_true, decide_eq_true_eq] at h
  exact h
def fldOK (P : mP) (m a b pos idx : Nat) : Bool := match mcl[a]? with
  | some q => decide (lw_tbl[pos]? = some (.fieldLink (P m).1.1.cls idx (q.2.1 b).1 (q.2.1 b).2.1 (q.2.1 b).2.2.1))
  | none => false
def refT (t : FieldType) : Bool := match t with
  | .object _ => true
  | .array _ => true
  | _ => false
def putOK (P : mP) (m a b kd : Nat) : Bool := match mcl[a]? with
  | some q => match kd with
    | 0 => !(q.2.1 b).2.2.2 && decide (mty a b = .int)
    | 1 => !(q.2.1 b).2.2.2 && decide (mty a b = .boolean)
    | _ => ((q.2.1 b).2.2.2 && refT (mty a b)) && (decide ((P m).1.1.name = "<init>") && decide ((q.2.1 b).1 = (P m).1.1.cls))
  | none => false
def okI (P : mP) (m : Nat) (j : Instr) (a b pos kd len : Nat) : Bool := match j with
  | .iconst n => decide (len = 1) && rgb n
  | .bipush n => decide (len = 2) && (rgb n && decide ((Int8.ofInt n).toInt32 = Int32.ofInt n))
  | .sipush n => decide (len = 3) && (rgb n && decide ((Int16.ofInt n).toInt32 = Int32.ofInt n))
  | .lconst _ => decide (len = 1)
  | .dconst _ => decide (len = 1)
  | .iload_n _ => decide (len = 1)
  | .iload _ => decide (len = 2)
  | .aload_n _ => decide (len = 1)
  | .aload _ => decide (len = 2)
  | .dload_n _ => decide (len = 1)
  | .dload _ => decide (len = 2)
  | .istore_n _ => decide (len = 1)
  | .istore _ => decide (len = 2)
  | .astore_n _ => decide (len = 1)
  | .astore _ => decide (len = 2)
  | .dstore_n _ => decide (len = 1)
  | .dstore _ => decide (len = 2)
  | .iinc _ _ => decide (len = 3)
  | .iadd => decide (len = 1)
  | .isub => decide (len = 1)
  | .imul => decide (len = 1)
  | .ineg => decide (len = 1)
  | .irem => decide (len = 1)
  | .idiv => decide (len = 1)
  | .iand => decide (len = 1)
  | .i2l => decide (len = 1)
  | .i2c => decide (len = 1)
  | .i2d => decide (len = 1)
  | .lcmp => decide (len = 1)
  | .dcmp _ => decide (len = 1)
  | .dup => decide (len = 1)
  | .pop => decide (len = 1)
  | .dup2 => decide (len = 1)
  | .dup_x1 => decide (len = 1)
  | .getfield idx => decide (len = 3) && fldOK P m a b pos idx
  | .putfield idx => decide (len = 3) && (fldOK P m a b pos idx && putOK P m a b kd)
  | .getstatic idx => decide (len = 3) && (decide (a < 3) && (decide (lw_tbl[pos]? = some (.fieldLink (P m).1.1.cls idx "SpatialPoints" (stN a) "[I")) || decide (lw_tbl[pos]? = some (.fieldLinkNest (P m).1.1.cls idx "SpatialPoints" (stN a) "[I" "SpatialPoints"))))
  | .invokestatic idx => decide (len = 3) && (match a with
    | 1 => decide (lw_tbl[pos]? = some (.methodLink (P m).1.1.cls idx Lib.Math.max.name))
    | 2 => decide (lw_tbl[pos]? = some (.methodLink (P m).1.1.cls idx Lib.Math.min.name))
    | _ => decide (lw_tbl[pos]? = some (.methodLink (P m).1.1.cls idx Lib.Math.abs.name)))
  | .invokespecial idx => decide (len = 3) && decide (lw_tbl[pos]? = some (.methodLink (P m).1.1.cls idx Lib.objectInit))
  | _ => false
section SO
variable {P : mP} {m d : Nat} {sc : Bool} {p : Program} {l : Launch} {e : Env} {R : Room} {s : State} {mid : MethodId} {args : Array Value} {below : List Frame} {meth : Method} {c : Code} {D : va_G} {aC : FieldType → ClassId} {ad0 : Nat → Nat} {n0 : Nat} {M0 : mM} {A : Nat → Prop} {Q : State → Prop}
variable {pc u : Nat} {L S : List mV} {σ : mS}
theorem fld_ok {a b pos idx : Nat} (h : fldOK P m a b pos idx = true) : ∃ q, mcl[a]? = some q ∧ lw_tbl[pos]? = some (.fieldLink (P m).1.1.cls idx (q.2.1 b).1 (q.2.1 b).2.1 (q.2.1 b).2.2.1) := by
  unfold fldOK at h
  split at h
  · rename_i q hq
    exact ⟨q, hq, of_decide_eq_true h⟩
  · cases h
theorem refT_ok {t : FieldType} (h : refT t = true) : (∃ n, t = .object n) ∨ ∃ z, t = .array z := by
  unfold refT at h
  split at h
  · exact Or.inl ⟨_, rfl⟩
  · exact Or.inr ⟨_, rfl⟩
  · cases h
theorem ldn_some {n : Nat} {st' : mSt} (h : ldn L S σ n = some st') : ∃ x, L[n]? = some (vi x) ∧ st' = (L, vi x :: S, σ) := by
  unfold ldn at h
  split at h
  · rename_i x hx
    exact ⟨x, hx, (Option.some.inj h).symm⟩
  · cases h
theorem lda_some {n : Nat} {st' : mSt} (h : lda L S σ n = some st') : ∃ x, L[n]? = some (.inr (.inl x)) ∧ st' = (L, (.inr (.inl x)) :: S, σ) := by
  unfold lda at h
  split at h
  · rename_i x hx
    exact ⟨x, hx, (Option.some.inj h).symm⟩
  · cases h
theorem ldd_some {n : Nat} {st' : mSt} (h : ldd L S σ n = some st') : ∃ x, L[n]? = some (vd x) ∧ st' = (L, vd x :: S, σ) := by
  unfold ldd at h
  split at h
  · rename_i x hx
    exact ⟨x, hx, (Option.some.inj h).symm⟩
  · cases h
theorem sti_some {n : Nat} {st' : mSt} (h : sti L S σ n = some st') : ∃ x r L', S = vi x :: r ∧ stI L n (vi x) = some L' ∧ st' = (L', r, σ) := by
  unfold sti at h
  split at h
  · rename_i x r
    obtain ⟨L', h1, h2⟩ := Option.map_eq_some_iff.mp h
    exact ⟨x, r, L', rfl, h1, h2.symm⟩
  · cases h
theorem std_some {n : Nat} {st' : mSt} (h : std L S σ n = some st') : ∃ x r L', S = vd x :: r ∧ stD L n (vd x) = some L' ∧ st' = (L', r, σ) := by
  unfold std at h
  split at h
  · rename_i x r
    obtain ⟨L', h1, h2⟩ := Option.map_eq_some_iff.mp h
    exact ⟨x, r, L', rfl, h1, h2.symm⟩
  · cases h
theorem sta_some {n : Nat} {st' : mSt} (h : sta L S σ n = some st') : ∃ v r L', (v = vj ∨ ∃ x, v = .inr (.inl x)) ∧ S = v :: r ∧ stI L n v = some L' ∧ st' = (L', r, σ) := by
  unfold sta at h
  split at h
  · rename_i x r
    obtain ⟨L', h1, h2⟩ := Option.map_eq_some_iff.mp h
    exact ⟨_, r, L', Or.inr ⟨x, rfl⟩, rfl, h1, h2.symm⟩
  · rename_i r
    obtain ⟨L', h1, h2⟩ := Option.map_eq_some_iff.mp h
    exact ⟨_, r, L', Or.inl rfl, rfl, h1, h2.symm⟩
  · cases h
theorem ar2_some {f : Int → Int → Int} {st' : mSt} (h : ar2 L S σ f = some st') : ∃ y x r, S = vi y :: vi x :: r ∧ st' = (L, vi (f x y) :: r, σ) := by
  unfold ar2 at h
  split at h
  · exact ⟨_, _, _, rfl, (Option.some.inj h).symm⟩
  · cases h
theorem arp_some {f : Int → Int → Int} {st' : mSt} (h : arp L S σ f = some st') : ∃ y x r, 0 < y ∧ S = vi y :: vi x :: r ∧ st' = (L, vi (f x y) :: r, σ) := by
  unfold arp at h
  split at h
  · split at h
    · rename_i hd
      exact ⟨_, _, _, of_decide_eq_true hd, rfl, (Option.some.inj h).symm⟩
    · cases h
  · cases h
theorem gtf_some {a b : Nat} {st' : mSt} (h : gtf L S σ a b = some st') : ∃ k fs r v, S = vr k :: r ∧ σ.1[k]? = some (0, a, fs) ∧ ((fs[b]? = some none ∧ v = vi (σ.2 k b)) ∨ ∃ t, fs[b]? = some (some t) ∧ v = .inr (.inl t)) ∧ st' = (L, v :: r, σ) := by
  unfold gtf at h
  split at h
  · split at h
    · rename_i ci fs hk
      split at h
      · rename_i hc
        have hc' : ci = a := by simpa using hc
        subst hc'
        split at h
        · rename_i hb
          exact ⟨_, fs, _, _, rfl, hk, Or.inl ⟨hb, rfl⟩, (Option.some.inj h).symm⟩
        · rename_i t hb
          exact ⟨_, fs, _, _, rfl, hk, Or.inr ⟨t, hb, rfl⟩, (Option.some.inj h).symm⟩
        · cases h
      · cases h
    · cases h
  · cases h
theorem ptf_some {a b kd : Nat} {st' : mSt} (h : ptf L S σ a b kd = some st') : ∃ k fs r, σ.1[k]? = some (0, a, fs) ∧
    ((∃ x, S = vi x :: vr k :: r ∧ fs[b]? = some none ∧ (kd = 0 ∨ (kd = 1 ∧ bit? x = true)) ∧ st' = (L, r, (σ.1, mset σ.2 k b x))) ∨
     ∃ t t0, S = .inr (.inl t) :: vr k :: r ∧ fs[b]? = some (some t0) ∧ kd = 2 ∧ st' = (L, r, (σ.1.set k (0, a, fs.set b (some t)), σ.2))) := by
  unfold ptf at h
  split at h
  · split at h
    · rename_i ci fs hk
      split at h
      · rename_i hc
        have hc' : ci = a := by simpa using hc
        subst hc'
        split at h
        · rename_i hb
          exact ⟨_, fs, _, hk, Or.inl ⟨_, rfl, hb, Or.inl rfl, (Option.some.inj h).symm⟩⟩
        · rename_i hb
          split at h
          · rename_i hx
            exact ⟨_, fs, _, hk, Or.inl ⟨_, rfl, hb, Or.inr ⟨rfl, hx⟩, (Option.some.inj h).symm⟩⟩
          · cases h
        · rename_i t0 t hb
          exact ⟨_, fs, _, hk, Or.inr ⟨_, _, rfl, hb, rfl, (Option.some.inj h).symm⟩⟩
        · cases h
      · cases h
    · cases h
  · cases h
theorem str_ok (F : Fx P m d sc p l e R s mid args below meth c D aC ad0 n0 M0 A) {j : Instr} {a b pos kd len : Nat} {L' S' : List mV} {σ' : mS} (hu : u ≤ (P m).1.2.2.2.2.1) (hd : decode (P m).1.2.1 pc = .ok (j, len)) (hok : okI P m j a b pos kd len = true) (hs : sem j a b kd L S σ = some (L', S', σ')) (k : WG P m p l e R s mid args below meth c D aC ad0 n0 M0 A Q (pc + len) u L' S' σ') : WG P m p l e R s mid args below meth c D aC ad0 n0 M0 A Q pc u L S σ := by
  unfold sem at hs
  split at hs
  · cases hs
    have h := hok
    unfold okI at h
    simp only [Bool.and_eq_true, decide_eq_true_eq] at h
    obtain ⟨rfl, h⟩ := h
    exact s_iconst F hd (rgb_ok h) k
  · cases hs
    have h := hok
    unfold okI at h
    simp only [Bool.and_eq_true, decide_eq_true_eq] at h
    obtain ⟨rfl, h1, h2⟩ := h
    exact s_bipush F hd h2 (rgb_ok h1) k
  · cases hs
    have h := hok
    unfold okI at h
    simp only [Bool.and_eq_true, decide_eq_true_eq] at h
    obtain ⟨rfl, h1, h2⟩ := h
    exact s_sipush F hd h2 (rgb_ok h1) k
  · cases hs
    have e : len = 1 := of_decide_eq_true hok
    subst e
    exact s_lconst F hd k
  · split at hs
    · cases hs
      have e : len = 1 := of_decide_eq_true hok
      subst e
      exact s_dconst F hd k
    · cases hs
  · obtain ⟨x, h1, h2⟩ := ldn_some hs
    cases h2
    have e : len = 1 := of_decide_eq_true hok
    subst e
    exact s_iload_n F hd h1 k
  · obtain ⟨x, h1, h2⟩ := ldn_some hs
    cases h2
    have e : len = 2 := of_decide_eq_true hok
    subst e
    exact s_iload F hd h1 k
  · obtain ⟨x, h1, h2⟩ := lda_some hs
    cases h2
    have e : len = 1 := of_decide_eq_true hok
    subst e
    exact s_aload_n F hd h1 k
  · obtain ⟨x, h1, h2⟩ := lda_some hs
    cases h2
    have e : len = 2 := of_decide_eq_true hok
    subst e
    exact s_aload F hd h1 k
  · obtain ⟨x, h1, h2⟩ := ldd_some hs
    cases h2
    have e : len = 1 := of_decide_eq_true hok
    subst e
    exact s_dload_n F hd h1 k
  · obtain ⟨x, h1, h2⟩ := ldd_some hs
    cases h2
    have e : len = 2 := of_decide_eq_true hok
    subst e
    exact s_dload F hd h1 k
  · obtain ⟨x, r, L1, rfl, h1, h2⟩ := sti_some hs
    cases h2
    have e : len = 1 := of_decide_eq_true hok
    subst e
    exact s_istore_n F hd h1 k
  · obtain ⟨x, r, L1, rfl, h1, h2⟩ := sti_some hs
    cases h2
    have e : len = 2 := of_decide_eq_true hok
    subst e
    exact s_istore F hd h1 k
  · obtain ⟨v, r, L1, hv, rfl, h1, h2⟩ := sta_some hs
    cases h2
    have e : len = 1 := of_decide_eq_true hok
    subst e
    exact s_astore_n F hv hd h1 k
  · obtain ⟨v, r, L1, hv, rfl, h1, h2⟩ := sta_some hs
    cases h2
    have e : len = 2 := of_decide_eq_true hok
    subst e
    exact s_astore F hv hd h1 k
  · obtain ⟨x, r, L1, rfl, h1, h2⟩ := std_some hs
    cases h2
    have e : len = 1 := of_decide_eq_true hok
    subst e
    exact s_dstore_n F hd h1 k
  · obtain ⟨x, r, L1, rfl, h1, h2⟩ := std_some hs
    cases h2
    have e : len = 2 := of_decide_eq_true hok
    subst e
    exact s_dstore F hd h1 k
  · split at hs
    · rename_i x hx
      obtain ⟨L1, h1, h2⟩ := Option.map_eq_some_iff.mp hs
      cases h2
      have e : len = 3 := of_decide_eq_true hok
      subst e
      exact s_iinc F hd hx h1 k
    · cases hs
  · obtain ⟨y, x, r, rfl, h2⟩ := ar2_some hs
    cases h2
    have e : len = 1 := of_decide_eq_true hok
    subst e
    exact s_iadd F hd k
  · obtain ⟨y, x, r, rfl, h2⟩ := ar2_some hs
    cases h2
    have e : len = 1 := of_decide_eq_true hok
    subst e
    exact s_isub F hd k
  · obtain ⟨y, x, r, rfl, h2⟩ := ar2_some hs
    cases h2
    have e : len = 1 := of_decide_eq_true hok
    subst e
    exact s_imul F hd k
  · split at hs
    · cases hs
      have e : len = 1 := of_decide_eq_true hok
      subst e
      exact s_ineg F hd k
    · cases hs
  · obtain ⟨y, x, r, h0, rfl, h2⟩ := arp_some hs
    cases h2
    have e : len = 1 := of_decide_eq_true hok
    subst e
    exact s_irem F h0 hd k
  · obtain ⟨y, x, r, h0, rfl, h2⟩ := arp_some hs
    cases h2
    have e : len = 1 := of_decide_eq_true hok
    subst e
    exact s_idiv F h0 hd k
  · split at hs
    · split at hs
      · rename_i hy
        have hy' := of_decide_eq_true hy
        subst hy'
        cases hs
        have e : len = 1 := of_decide_eq_true hok
        subst e
        exact s_iand F hd k
      · cases hs
    · cases hs
  · split at hs
    · cases hs
      have e : len = 1 := of_decide_eq_true hok
      subst e
      exact s_i2l F hd k
    · cases hs
  · split at hs
    · cases hs
      have e : len = 1 := of_decide_eq_true hok
      subst e
      exact s_i2c F hd k
    · cases hs
  · split at hs
    · cases hs
      have e : len = 1 := of_decide_eq_true hok
      subst e
      exact s_i2d F hd k
    · cases hs
  · split at hs
    · cases hs
      have e : len = 1 := of_decide_eq_true hok
      subst e
      exact s_lcmp F hd k
    · cases hs
  · split at hs
    · cases hs
      have e : len = 1 := of_decide_eq_true hok
      subst e
      exact s_dcmp F hd k
    · cases hs
  · split at hs
    · split at hs
      · rename_i hc
        cases hs
        have e : len = 1 := of_decide_eq_true hok
        subst e
        exact s_dup F hc hd k
      · cases hs
    · cases hs
  · split at hs
    · split at hs
      · rename_i hc
        cases hs
        have e : len = 1 := of_decide_eq_true hok
        subst e
        exact s_pop F hc hd k
      · cases hs
    · cases hs
  · split at hs
    · split at hs
      · rename_i hc
        cases hs
        rw [Bool.or_eq_false_iff] at hc
        have e : len = 1 := of_decide_eq_true hok
        subst e
        exact s_dup2 F hc.1 hc.2 hd k
      · cases hs
    · cases hs
  · split at hs
    · split at hs
      · rename_i hc
        cases hs
        rw [Bool.or_eq_false_iff] at hc
        have e : len = 1 := of_decide_eq_true hok
        subst e
        exact s_dup_x1 F hc.1 hc.2 hd k
      · cases hs
    · cases hs
  · obtain ⟨kk, fs, r, v, rfl, h1, h2, h3⟩ := gtf_some hs
    cases h3
    have h := hok
    unfold okI at h
    simp only [Bool.and_eq_true, decide_eq_true_eq] at h
    obtain ⟨rfl, h⟩ := h
    obtain ⟨q, hq, hl⟩ := fld_ok h
    exact s_getf F h1 hq hl hd h2 k
  · obtain ⟨kk, fs, r, h1, h2⟩ := ptf_some hs
    have h := hok
    unfold okI at h
    simp only [Bool.and_eq_true, decide_eq_true_eq] at h
    obtain ⟨rfl, h, hp⟩ := h
    obtain ⟨q, hq, hl⟩ := fld_ok h
    unfold putOK at hp
    rw [hq] at hp
    rcases h2 with ⟨x, rfl, h3, h4, h5⟩ | ⟨t, t0, rfl, h3, rfl, h5⟩
    · cases h5
      rcases h4 with rfl | ⟨rfl, h4⟩
      · have hp : (!(q.2.1 b).2.2.2 && decide (mty a b = .int)) = true := hp
        simp only [Bool.and_eq_true, decide_eq_true_eq, Bool.not_eq_true'] at hp
        exact s_putf F h1 hq hl hd h3 hp.1 (Or.inl hp.2) k
      · have hp : (!(q.2.1 b).2.2.2 && decide (mty a b = .boolean)) = true := hp
        simp only [Bool.and_eq_true, decide_eq_true_eq, Bool.not_eq_true'] at hp
        exact s_putf F h1 hq hl hd h3 hp.1 (Or.inr ⟨hp.2, h4⟩) k
    · cases h5
      have hp : (((q.2.1 b).2.2.2 && refT (mty a b)) && (decide ((P m).1.1.name = "<init>") && decide ((q.2.1 b).1 = (P m).1.1.cls))) = true := hp
      simp only [Bool.and_eq_true, decide_eq_true_eq] at hp
      exact s_putr F h1 hq hl hd h3 hp.1.1 hp.2.1 hp.2.2 (refT_ok hp.1.2) k
  · cases hs
    have h := hok
    unfold okI at h
    simp only [Bool.and_eq_true, decide_eq_true_eq, Bool.or_eq_true] at h
    obtain ⟨rfl, h1, h2⟩ := h
    rcases h2 with h2 | h2
    · exact s_gets F h1 h2 hd k
    · exact s_getsN F h1 h2 hd k
  · have h := hok
    unfold okI at h
    rw [Bool.and_eq_true, decide_eq_true_eq] at h
    obtain ⟨rfl, h⟩ := h
    split at hs
    · rename_i hl0
      obtain ⟨y, x, r, rfl, h2⟩ := ar2_some hs
      cases h2
      have hl9 := of_decide_eq_true hl0
      exact s_max F hu (by simp at hl9; omega) (of_decide_eq_true h) hd k
    · rename_i hl0
      obtain ⟨y, x, r, rfl, h2⟩ := ar2_some hs
      cases h2
      have hl9 := of_decide_eq_true hl0
      exact s_min F hu (by simp at hl9; omega) (of_decide_eq_true h) hd k
    · rename_i hl0
      split at hs
      · cases hs
        have hl9 := of_decide_eq_true hl0
        exact s_abs F hu (by simp at hl9; omega) (of_decide_eq_true h) hd k
      · cases hs
    · cases hs
  · have h := hok
    unfold okI at h
    simp only [Bool.and_eq_true, decide_eq_true_eq] at h
    obtain ⟨rfl, h⟩ := h
    split at hs
    · rename_i hl0
      cases hs
      have hl9 := of_decide_eq_true hl0
      exact s_objI F (by simp at hl9; omega) h hd k
    · cases hs
  · cases hs
end SO
end
section
/-! THE CHECK OF A BLOCK'S END, OF A BLOCK, OF A METHOD -/
def pcB (P : mP) (m b : Nat) : Nat := match (P m).2[b]? with
  | some q => q.1
  | none => 0
def exH (k : Nat) : Option Nat := match k with
  | 13 => some 0
  | 15 => some 1
  | 21 => some 2
  | 40 => some 4
  | 67 => some 3
  | _ => none
def fndH (pc e : Nat) : List (Nat × Nat × Nat × Nat) → Option Nat
  | [] => none
  | q :: r => match decide (q.1 ≤ pc) && decide (pc < q.2.1) with
    | false => fndH pc e r
    | true => match exH q.2.2.2 with
      | none => none
      | some e' => match decide (e' = e) with
        | true => some q.2.2.1
        | false => fndH pc e r
def hOk (P : mP) (m pc : Nat) (hs : List Nat) : Bool := match (P m).1.2.2.2.2.2.2 with
  | [] => hs.all fun h => decide (h ≤ 1)
  | q :: hh => decide ((P m).1.1.cls = RL) && (decide (hs.length ≤ 5) && (List.range 5).all fun e => match hs.getD e 1 with
    | 0 => false
    | 1 => true
    | t + 2 => decide (fndH pc e (q :: hh) = some (pcB P m t)))
abbrev mZ : Type := Nat → Bool × List Nat
def okM (P : mP) (Z : mZ) (a : Nat) : Bool :=
  (plainName (P a).1.1.cls && (decide ((P a).1.1.cls ≠ "java/lang/invoke/MethodHandle") && decide ((P a).1.1.cls ≠ "java/lang/invoke/VarHandle"))) &&
  ((decide (lw_tbl[(Z a).2.getD 0 0]? = some (cW P a)) && (decide (lw_tbl[(Z a).2.getD 1 0]? = some (.initialized (P a).1.1.cls)) && decide ((P a).1.2.2.1 ≤ 20))) &&
  (decide ((parseMethodDescriptor (P a).1.1.desc).map (fun d => d.parameters.length) = some ((P a).1.2.2.2.2.2.1 - (if (Z a).1 = true then 0 else 1))) &&
   (match (Z a).1 with
    | true => decide (lw_tbl[(Z a).2.getD 2 0]? = some (.static (P a).1.1))
    | false => decide (lw_tbl[(Z a).2.getD 2 0]? = some (.instanceMethod (P a).1.1)) && (decide (1 ≤ (P a).1.2.2.2.2.2.1) && (decide ((P a).1.1.name = "<init>") || decide (lw_tbl[(Z a).2.getD 3 0]? = some (.selects (P a).1.1.cls (P a).1.1 (P a).1.1)))))))
def ok3 (P : mP) (m pc a b : Nat) (j : Instr) (len : Nat) : Bool := match j with
  | .ifCond _ off => decide (len = 3) && (decide ((pc : Int) + off = (pcB P m a : Int)) && decide (pc + 3 = pcB P m b))
  | .if_icmp _ off => decide (len = 3) && (decide ((pc : Int) + off = (pcB P m a : Int)) && decide (pc + 3 = pcB P m b))
  | _ => false
def ok4 (P : mP) (m pc a b : Nat) (ts : List Nat) (j : Instr) : Bool := match j with
  | .tableswitch dflt lo hi offs => (decide (lo = (b : Int)) && (decide (ts.length = offs.size) && decide (hi = lo + ts.length - 1))) && (decide ((pc : Int) + dflt = (pcB P m a : Int)) && (List.range ts.length).all fun i => match offs[i]? with
    | some off => decide ((pc : Int) + off = (pcB P m (ts.getD i a) : Int))
    | none => false)
  | .lookupswitch dflt ps => ((ps.toList.zip (ps.toList.drop 1)).all (fun (a, next) => a.1 < next.1) && decide (ps.toList.map (fun q => q.1) = (List.range ts.length).map fun (i : Nat) => (b : Int) + (i : Int))) && (decide ((pc : Int) + dflt = (pcB P m a : Int)) && decide (ps.toList.map (fun q => (pc : Int) + q.2) = ts.map fun t => (pcB P m t : Int)))
  | _ => false
def ok5 (P : mP) (m a : Nat) (j : Instr) (len : Nat) : Bool := decide (len = 1) && (match a with
  | 0 => decide (j = .return_) && decide ((P m).1.2.2.2.1 = none)
  | 1 => decide (j = .ireturn) && decide ((P m).1.2.2.2.1 = some .int)
  | 2 => decide (j = .ireturn) && decide ((P m).1.2.2.2.1 = some .boolean)
  | _ => decide (j = .dreturn) && decide ((P m).1.2.2.2.1 = some .double))
def ok6 (P : mP) (Z : mZ) (N m pc a b pos : Nat) (fl : List Nat) (j : Instr) (len : Nat) : Bool := match fl with
  | n :: cc :: cm :: rc :: hs => ((decide (a < N) && decide (len = 3)) && ((decide (n = (P a).1.2.2.2.2.2.1) && decide (cc = (P a).1.2.2.2.2.1)) && (decide (cm = (P m).1.2.2.2.2.1) && (decide (pcB P m b = pc + 3) && hOk P m pc hs)))) && (match j with
    | .invokevirtual idx => match rc with
      | 0 => false
      | ci + 1 => match mcl[ci]? with
        | none => false
        | some q => (decide (q.1 = (P a).1.1.cls) && (decide ((Z a).1 = false) && decide ((P a).1.2.2.2.2.2.2 = []))) && (decide ((P a).1.1.name ≠ "<init>") && decide (lw_tbl[pos]? = some (.methodLink (P m).1.1.cls idx (P a).1.1)))
    | .invokestatic idx => decide ((Z a).1 = true) && (decide (lw_tbl[pos]? = some (.methodLink (P m).1.1.cls idx (P a).1.1)) || (decide ((P a).1.2.2.2.2.2.2 = []) && (match lw_tbl[pos]? with
      | some (.methodLinkNest o k y h) => decide (o = (P m).1.1.cls) && (decide (k = idx) && decide (y = (P a).1.1))
      | _ => false)))
    | .invokespecial idx => match rc with
      | 0 => false
      | _ + 1 => (decide ((Z a).1 = false) && (decide ((P a).1.2.2.2.2.2.2 = []) && (decide ((P a).1.1.name = "<init>") && decide ((P a).1.2.2.2.1 = none)))) && (decide (lw_tbl[pos]? = some (.methodLink (P m).1.1.cls idx (P a).1.1)) || (match lw_tbl[pos]? with
        | some (.methodLinkNest o k y h) => decide (o = (P m).1.1.cls) && (decide (k = idx) && decide (y = (P a).1.1))
        | _ => false))
    | _ => false)
  | _ => false
def ok7 (P : mP) (m pc a pos : Nat) (fl : List Nat) (j : Instr) (len : Nat) : Bool := match fl, j with
  | cm :: p2 :: _, .new ik => (decide (cm = (P m).1.2.2.2.2.1) && (decide (len = 3) && (decide (a < 5) && decide ((P m).1.1.cls = RX9)))) && (decide ((P m).1.2.2.2.2.2.2 = []) && (decide (lw_tbl[pos]? = some (.classLink RX9 ik (exN a))) && (match lw_tbl[p2]? with
    | some (.stringRef o k _) => decide (o = RX9) && (decide (decode (P m).1.2.1 (pc + 3) = .ok (.dup, 1)) &&
      ((decide (decode (P m).1.2.1 (pc + 4) = .ok (.ldc k, 2)) && (decide (decode (P m).1.2.1 (pc + 6) = .ok (.invokespecial (exI a), 3)) && decide (decode (P m).1.2.1 (pc + 9) = .ok (.athrow, 1)))) ||
       (decide (decode (P m).1.2.1 (pc + 4) = .ok (.ldc_w k, 3)) && (decide (decode (P m).1.2.1 (pc + 7) = .ok (.invokespecial (exI a), 3)) && decide (decode (P m).1.2.1 (pc + 10) = .ok (.athrow, 1))))))
    | _ => false)))
  | _, _ => false
def ok8 (P : mP) (sc : Bool) (m pc a b : Nat) (len : Nat) : Bool := decide (len = 1) && (decide (pcB P m a = pc + 1) && (decide (b = 0) || sc))
def ok9 (P : mP) (m pc a pos : Nat) (j : Instr) (len : Nat) : Bool := decide (pcB P m a = pc + len) && (match j with
  | .invokestatic idx => decide (len = 3) && decide (lw_tbl[pos]? = some (.methodLink (P m).1.1.cls idx arraycopyName))
  | _ => decide (len = 1))
def nulB (v : Value) (z : Nat) : Bool := match v, z with
  | .int x, 0 => decide (x = 0)
  | .null, _ + 1 => true
  | _, _ => false
def ok10 (P : mP) (m pc a b pos : Nat) (fl : List Nat) (j : Instr) (len : Nat) : Bool := match fl with
  | cm :: q :: fs => decide (cm = (P m).1.2.2.2.2.1) && (match j with
    | .new idx => (decide (len = 3) && decide (pcB P m a = pc + 3)) && (match mcl[b]? with
      | some c => (decide (fs.length = c.2.2) && decide (c.2.2 ≤ 2100)) && (decide (lw_tbl[pos]? = some (.classLink (P m).1.1.cls idx c.1)) && (List.range fs.length).all fun j => nulB (defaultValue (mty b j)) (fs.getD j 0))
      | none => false)
    | .newarray t => (decide (len = 2) && decide (pcB P m a = pc + 2)) && (decide (atK t = q) && decide (q ≠ 0))
    | .invokevirtual idx => (decide (len = 3) && decide (pcB P m a = pc + 6)) && (decide (lw_tbl[pos]? = some (.methodLink (P m).1.1.cls idx ⟨"[I", "clone", "()Ljava/lang/Object;"⟩)) && (match decode (P m).1.2.1 (pc + 3) with
      | .ok (.checkcast k, l2) => decide (l2 = 3) && decide (lw_tbl[q]? = some (.classLink (P m).1.1.cls k "[I"))
      | _ => false))
    | _ => false)
  | _ => false
def okT (P : mP) (Z : mZ) (N : Nat) (sc : Bool) (m pc : Nat) (i : mI) : Bool := match decide (i.1 = 1) with
  | true => decide (pcB P m i.2.2.1 = pc)
  | false => match decode (P m).1.2.1 pc with
    | .error _ => false
    | .ok (j, len) => decide (i.2.1 = j) && (match i.1 with
      | 2 => match j with
        | .goto off => decide (len = 3) && decide ((pc : Int) + off = (pcB P m i.2.2.1 : Int))
        | _ => false
      | 3 => ok3 P m pc i.2.2.1 i.2.2.2.1 j len
      | 4 => ok4 P m pc i.2.2.1 i.2.2.2.1 i.2.2.2.2.2 j
      | 5 => ok5 P m i.2.2.1 j len
      | 6 => ok6 P Z N m pc i.2.2.1 i.2.2.2.1 i.2.2.2.2.1 i.2.2.2.2.2 j len
      | 7 => ok7 P m pc i.2.2.1 i.2.2.2.2.1 i.2.2.2.2.2 j len
      | 8 => ok8 P sc m pc i.2.2.1 i.2.2.2.1 len
      | 9 => ok9 P m pc i.2.2.1 i.2.2.2.2.1 j len
      | 10 => ok10 P m pc i.2.2.1 i.2.2.2.1 i.2.2.2.2.1 i.2.2.2.2.2 j len
      | _ => false)
def chkL (P : mP) (Z : mZ) (N : Nat) (sc : Bool) (m : Nat) : Nat → List mI → Bool
  | _, [] => true
  | pc, i :: r => match i.1 with
    | 0 => match decode (P m).1.2.1 pc with
      | .error _ => false
      | .ok (j, len) => (decide (i.2.1 = j) && okI P m j i.2.2.1 i.2.2.2.1 i.2.2.2.2.1 (i.2.2.2.2.2.headD 0) len) && chkL P Z N sc m (pc + len) r
    | _ => okT P Z N sc m pc i
def chkM (P : mP) (Z : mZ) (N : Nat) (sc : Bool) (m : Nat) : Bool := (decide (pcB P m 0 = 0) && decide ((P m).1.2.2.2.2.2.1 ≤ (P m).1.2.2.1)) && (P m).2.all fun q => chkL P Z N sc m q.1 q.2.2
theorem okM_ok {P : mP} {Z : mZ} {a : Nat} (h : okM P Z a = true) : mOk P a (Z a).1 := by
  unfold okM at h
  simp only [Bool.and_eq_true, decide_eq_true_eq] at h
  obtain ⟨⟨h1, h2, h3⟩, ⟨h4, h5, h6⟩, h7, h8⟩ := h
  refine ⟨h1, ⟨h2, h3⟩, gd_mem h4 ?_, gd_mem h5 rfl, h6, h7, fun hz => ?_, fun hz => ?_⟩
  · unfold cW
    split <;> rfl
  · rw [hz] at h8
    exact gd_mem (of_decide_eq_true h8) rfl
  · rw [hz] at h8
    simp only [Bool.and_eq_true, Bool.or_eq_true, decide_eq_true_eq] at h8
    exact ⟨gd_mem h8.1 rfl, h8.2.1, h8.2.2.imp id (fun q => gd_mem q rfl)⟩
theorem cls_at : ∀ (c : Nat) (q : vw_C), mcl[c]? = some q → ∃ i1 i2 : Nat, lw_tbl[i1]? = some (Cond.instantiable q.1 q.2.2) ∧ lw_tbl[i2]? = some (Cond.initialized q.1) := by
  have key : ∀ x y : Cond, (decide (x ∈ lw_tbl) && decide (y ∈ lw_tbl)) = true → ∃ i1 i2 : Nat, lw_tbl[i1]? = some x ∧ lw_tbl[i2]? = some y := by
    intro x y h
    rw [Bool.and_eq_true, decide_eq_true_eq, decide_eq_true_eq] at h
    obtain ⟨i, hi⟩ := List.mem_iff_getElem?.mp h.1
    obtain ⟨j, hj⟩ := List.mem_iff_getElem?.mp h.2
    exact ⟨i, j, hi, hj⟩
  intro c q hq
  match c, hq with
  | 0, hq => cases hq; exact key _ _ (by decide +kernel)
  | 1, hq => cases hq; exact key _ _ (by decide +kernel)
  | 2, hq => cases hq; exact key _ _ (by decide +kernel)
  | 3, hq => cases hq; exact key _ _ (by decide +kernel)
  | 4, hq => cases hq; exact key _ _ (by decide +kernel)
  | 5, hq => cases hq; exact key _ _ (by decide +kernel)
  | 6, hq => cases hq; exact key _ _ (by decide +kernel)
  | 7, hq => cases hq; exact key _ _ (by decide +kernel)
  | 8, hq => cases hq; exact key _ _ (by decide +kernel)
  | 9, hq => cases hq; exact key _ _ (by decide +kernel)
  | 10, hq => cases hq; exact key _ _ (by decide +kernel)
  | k + 11, hq => simp [mcl] at hq
end
section
/-! THE CHECKED MACHINE IS SOUND -/
theorem no_some {α : Type} {r : α} (h : (none : Option α) = some r) : False := by cases h
theorem getD_some {α : Type} {l : List α} {i : Nat} {x y : α} (h : l[i]? = some x) : l.getD i y = x := by
  rw [List.getD_eq_getElem?_getD, h]; rfl
theorem ite2 {p : Prop} [Decidable p] {A B : mR} {q : mO × mS} (h : (if p then A else B) = some q) : (p → A = some q) ∧ (¬ p → B = some q) :=
  ⟨fun z => by rwa [if_pos z] at h, fun z => by rwa [if_neg z] at h⟩
theorem cmp_ok {J : mJ} {u a b : Nat} {L r : List mV} {σ : mS} {c : ClassFile.Cond} {x y : Int} {q : mO × mS} (h : goCmp J u a b L r σ c x y = some q) : (cmpI c x y → J u a L r σ = some q) ∧ (¬ cmpI c x y → J u b L r σ = some q) := by
  cases c with
  | eq => exact ⟨(ite2 (p := x = y) h).1, (ite2 (p := x = y) h).2⟩
  | ne => exact ⟨fun z => (ite2 (p := x = y) h).2 z, fun z => (ite2 (p := x = y) h).1 (Decidable.not_not.mp z)⟩
  | lt => exact ⟨(ite2 (p := x < y) h).1, (ite2 (p := x < y) h).2⟩
  | ge => exact ⟨fun z => (ite2 (p := x < y) h).2 (Int.not_lt.mpr z), fun z => (ite2 (p := x < y) h).1 (Int.not_le.mp z)⟩
  | gt => exact ⟨(ite2 (p := y < x) h).1, (ite2 (p := y < x) h).2⟩
  | le => exact ⟨fun z => (ite2 (p := y < x) h).2 (Int.not_lt.mpr z), fun z => (ite2 (p := y < x) h).1 (Int.not_le.mp z)⟩
theorem look_ok {P : mP} {m pc a : Nat} {dflt x : Int} (hd : (pc : Int) + dflt = (pcB P m a : Int)) : ∀ (ts : List Nat) (l : List (Int × Int)) (b : Nat), l.map (fun q => q.1) = (List.range ts.length).map (fun (i : Nat) => (b : Int) + (i : Int)) → l.map (fun q => (pc : Int) + q.2) = ts.map (fun t => (pcB P m t : Int)) →
    (pc : Int) + Op.lookupswitch.offset l dflt x = (pcB P m (swT b ts a x) : Int)
  | [], l, b, h1, h2 => by
    cases l with
    | cons _ _ => simp at h2
    | nil =>
      rw [Op.lookupswitch.offset_nil, hd]
      unfold swT
      split <;> rfl
  | t :: ts, l, b, h1, h2 => by
    cases l with
    | nil => simp at h2
    | cons q l =>
      obtain ⟨k, o⟩ := q
      rw [List.length_cons, List.range_succ_eq_map, List.map_cons, List.map_cons, List.map_map] at h1
      obtain ⟨e1, e2⟩ := List.cons.inj h1
      rw [List.map_cons, List.map_cons] at h2
      obtain ⟨f1, f2⟩ := List.cons.inj h2
      have e1 : k = (b : Int) := by simpa using e1
      have ih := look_ok (x := x) hd ts l (b + 1) (by
        rw [e2]
        apply List.map_congr_left
        intro i _
        show (b : Int) + ((i + 1 : Nat) : Int) = ((b + 1 : Nat) : Int) + (i : Int)
        omega) f2
      rw [Op.lookupswitch.offset_cons]
      by_cases hx : k = x
      · rw [if_pos hx, ← hx, e1]
        unfold swT
        rw [if_neg (by omega), show ((b : Int) - (b : Int)).toNat = 0 by omega]
        exact f1
      · rw [if_neg hx, ih]
        have : swT ((b + 1 : Nat) : Int) ts a x = swT (b : Int) (t :: ts) a x := by
          unfold swT
          by_cases h3 : x < (b : Int)
          · rw [if_pos h3, if_pos (by omega)]
          · rw [if_neg h3, if_neg (by omega), show (x - (b : Int)).toNat = (x - ((b + 1 : Nat) : Int)).toNat + 1 by omega]
            rfl
        rw [this]
theorem exH_ok {k e : Nat} (h : exH k = some e) : e < 5 ∧ k ≠ 0 ∧ Cond.classLink RL k (exN e) ∈ lw_gd := by
  unfold exH at h
  split at h
  · cases h; exact ⟨by decide, by decide, gd_all (ws := [Cond.classLink RL 13 (exN 0)]) (by decide +kernel) _ (List.mem_singleton.mpr rfl)⟩
  · cases h; exact ⟨by decide, by decide, gd_all (ws := [Cond.classLink RL 15 (exN 1)]) (by decide +kernel) _ (List.mem_singleton.mpr rfl)⟩
  · cases h; exact ⟨by decide, by decide, gd_all (ws := [Cond.classLink RL 21 (exN 2)]) (by decide +kernel) _ (List.mem_singleton.mpr rfl)⟩
  · cases h; exact ⟨by decide, by decide, gd_all (ws := [Cond.classLink RL 40 (exN 4)]) (by decide +kernel) _ (List.mem_singleton.mpr rfl)⟩
  · cases h; exact ⟨by decide, by decide, gd_all (ws := [Cond.classLink RL 67 (exN 3)]) (by decide +kernel) _ (List.mem_singleton.mpr rfl)⟩
  · cases h
theorem ex_self {e : Nat} (h : e < 5) : Cond.castable (exN e) (exN e) ∈ lw_ng := by
  rcases (show e = 0 ∨ e = 1 ∨ e = 2 ∨ e = 3 ∨ e = 4 by omega) with rfl | rfl | rfl | rfl | rfl <;> exact List.mem_filter.mpr ⟨by decide +kernel, rfl⟩
abbrev enT (q : Nat × Nat × Nat × Nat) : ExceptionTableEntry := ⟨q.1, q.2.1, q.2.2.1, q.2.2.2⟩
theorem fndH_ok {pc e hp : Nat} : ∀ l : List (Nat × Nat × Nat × Nat), fndH pc e l = some hp → ∃ (pre : List (Nat × Nat × Nat × Nat)) (x : Nat × Nat × Nat × Nat) (suf : List (Nat × Nat × Nat × Nat)), l = pre ++ x :: suf ∧ (∀ z ∈ pre, covers (enT z) pc = false ∨ ∃ e', exH z.2.2.2 = some e' ∧ e' ≠ e) ∧ covers (enT x) pc = true ∧ exH x.2.2.2 = some e ∧ x.2.2.1 = hp
  | [], h => by cases h
  | q :: r, h => by
    have h' := h
    unfold fndH at h'
    split at h'
    · rename_i hc
      obtain ⟨pre, x, suf, h1, h2, h3⟩ := fndH_ok r h'
      refine ⟨q :: pre, x, suf, by rw [h1]; rfl, fun z hz => ?_, h3⟩
      rcases List.mem_cons.mp hz with rfl | hz
      · exact Or.inl hc
      · exact h2 z hz
    · rename_i hc
      split at h'
      · cases h'
      · rename_i e' he
        split at h'
        · rename_i hee
          cases h'
          have := of_decide_eq_true hee
          subst this
          exact ⟨[], q, r, rfl, fun z hz => by simp at hz, hc, he, rfl⟩
        · rename_i hee
          obtain ⟨pre, x, suf, h1, h2, h3⟩ := fndH_ok r h'
          refine ⟨q :: pre, x, suf, by rw [h1]; rfl, fun z hz => ?_, h3⟩
          rcases List.mem_cons.mp hz with rfl | hz
          · exact Or.inr ⟨e', he, of_decide_eq_false hee⟩
          · exact h2 z hz
section TE
variable {P : mP} {m d : Nat} {sc : Bool} {p : Program} {l : Launch} {e : Env} {R : Room} {s : State} {mid : MethodId} {args : Array Value} {below : List Frame} {meth : Method} {c : Code} {D : va_G} {aC : FieldType → ClassId} {ad0 : Nat → Nat} {n0 : Nat} {M0 : mM} {A : Nat → Prop} {Q : State → Prop}
variable {pc u : Nat} {L S : List mV} {σ : mS}
variable {J : mJ} {C : mC} {Z : mZ} {N : Nat} {o : mO} {σ' : mS}
theorem catch_ok (F : Fx P m d sc p l e R s mid args below meth c D aC ad0 n0 M0 A) {ex hp : Nat} {h0 : List (Nat × Nat × Nat × Nat)} (hcl : (P m).1.1.cls = RL) (ht : (P m).1.2.2.2.2.2.2 = h0) (hf : fndH pc ex h0 = some hp) (k : WG P m p l e R s mid args below meth c D aC ad0 n0 M0 A Q hp u L [vj] σ) : XG P m p l e R s mid args below meth c D aC ad0 n0 M0 A Q pc u L S σ ex := by
  intro ad H locs ls st q ce g0 g1 hW g2 hS hL hT hce hcv hcl9
  obtain ⟨pre, x, suf, h1, h2, h3, h4, h5⟩ := fndH_ok h0 hf
  obtain ⟨e1, e2, e3⟩ := exH_ok h4
  have hown := F.own
  rw [hcl] at hown
  subst h5
  refine vx_catch (own := RL) (name := exN ex) (E := exN ex) (ce := ce) hown (pre.map enT) (enT x) (suf.map enT) ?_ (fun z hz => ?_) h3 e2 (F.ts _ e3) (va_Nw.use rfl (F.kn.2.1 _ (ex_self e1))) hce hcv hcl9 (k ad H locs ls _ g0 g1 hW g2 hS hL ⟨⟨Or.inr ⟨rfl, q, rfl⟩, trivial⟩, trivial⟩)
  · rw [F.tab, ht, h1]
    show List.map _ (pre ++ x :: suf) = _
    rw [List.map_append, List.map_cons]
  · obtain ⟨y, hy, rfl⟩ := List.mem_map.mp hz
    rcases h2 y hy with h | ⟨e', he, hne⟩
    · exact Or.inl h
    · obtain ⟨f1, f2, f3⟩ := exH_ok he
      exact Or.inr ⟨f2, exN e', F.ts _ f3, F.kn.2.2.2 ex e' e1 f1 (Ne.symm hne)⟩
theorem t3 (F : Fx P m d sc p l e R s mid args below meth c D aC ad0 n0 M0 A) {a b pos len : Nat} {fl : List Nat} {j : Instr} (hu : u ≤ (P m).1.2.2.2.2.1) (hd : decode (P m).1.2.1 pc = .ok (j, len)) (hok : ok3 P m pc a b j len = true) (hJ : ∀ u b L S σ, J u b L S σ = some (o, σ') → u ≤ (P m).1.2.2.2.2.1 → WG P m p l e R s mid args below meth c D aC ad0 n0 M0 A Q (pcB P m b) u L S σ) (h : goT J C u L S σ (3, j, a, b, pos, fl) = some (o, σ')) : WG P m p l e R s mid args below meth c D aC ad0 n0 M0 A Q pc u L S σ := by
  unfold ok3 at hok
  split at hok
  · simp only [Bool.and_eq_true, decide_eq_true_eq] at hok
    obtain ⟨rfl, h1, h2⟩ := hok
    rcases S with _ | ⟨x | v, r⟩
    · exact (no_some h).elim
    · obtain ⟨k1, k2⟩ := cmp_ok (J := J) h
      exact s_if F hd h1 (fun q => hJ _ _ _ _ _ (k1 q) hu) (fun q => by rw [h2]; exact hJ _ _ _ _ _ (k2 q) hu)
    · exact (no_some h).elim
  · simp only [Bool.and_eq_true, decide_eq_true_eq] at hok
    obtain ⟨rfl, h1, h2⟩ := hok
    rcases S with _ | ⟨x | v, r⟩
    · exact (no_some h).elim
    · rcases r with _ | ⟨y | v, r⟩
      · exact (no_some h).elim
      · obtain ⟨k1, k2⟩ := cmp_ok (J := J) h
        exact s_icmp F hd h1 (fun q => hJ _ _ _ _ _ (k1 q) hu) (fun q => by rw [h2]; exact hJ _ _ _ _ _ (k2 q) hu)
      · exact (no_some h).elim
    · exact (no_some h).elim
  · cases hok
theorem s_look (F : Fx P m d sc p l e R s mid args below meth c D aC ad0 n0 M0 A) {dflt : Int} {ps : Array (Int × Int)} {len a b : Nat} {ts : List Nat} {x : Int} {r : List mV} (hd : decode (P m).1.2.1 pc = .ok (.lookupswitch dflt ps, len)) (h0 : (ps.toList.zip (ps.toList.drop 1)).all (fun (a, next) => a.1 < next.1) = true) (h1 : ps.toList.map (fun q => q.1) = (List.range ts.length).map (fun (i : Nat) => (b : Int) + (i : Int))) (h2 : (pc : Int) + dflt = (pcB P m a : Int)) (h3 : ps.toList.map (fun q => (pc : Int) + q.2) = ts.map (fun t => (pcB P m t : Int)))
    (k : WG P m p l e R s mid args below meth c D aC ad0 n0 M0 A Q (pcB P m (swT b ts a x)) u L r σ) : WG P m p l e R s mid args below meth c D aC ad0 n0 M0 A Q pc u L (vi x :: r) σ := by
  intro ad H locs ls st g0 g1 hW g2 hS hL hT
  obtain ⟨_, st', rfl, f1, f2, f3⟩ := sR_cons hT
  cases sv_i f1
  refine lv_lookup F.exec F.code hd h0 rfl ?_ (k ad H locs ls _ g0 g1 hW g2 hS hL f3)
  rw [ofI_toInt f2]
  exact look_ok h2 ts ps.toList b h1 h3
theorem t4 (F : Fx P m d sc p l e R s mid args below meth c D aC ad0 n0 M0 A) {a b pos len : Nat} {fl : List Nat} {j : Instr} (hu : u ≤ (P m).1.2.2.2.2.1) (hd : decode (P m).1.2.1 pc = .ok (j, len)) (hok : ok4 P m pc a b fl j = true) (hJ : ∀ u b L S σ, J u b L S σ = some (o, σ') → u ≤ (P m).1.2.2.2.2.1 → WG P m p l e R s mid args below meth c D aC ad0 n0 M0 A Q (pcB P m b) u L S σ) (h : goT J C u L S σ (4, j, a, b, pos, fl) = some (o, σ')) : WG P m p l e R s mid args below meth c D aC ad0 n0 M0 A Q pc u L S σ := by
  rcases S with _ | ⟨x | v, r⟩
  · exact (no_some h).elim
  · replace h : J u (swT (b : Int) fl a x) L r σ = some (o, σ') := h
    unfold ok4 at hok
    split at hok
    · simp only [Bool.and_eq_true, decide_eq_true_eq] at hok
      obtain ⟨⟨rfl, h1, h2⟩, h3, h4⟩ := hok
      refine s_table F (pcs := pcB P m) hd h1 h2 h3 (fun i hi => ?_) (hJ _ _ _ _ _ h hu)
      have h5 := List.all_eq_true.mp h4 i (List.mem_range.mpr hi)
      split at h5
      · rename_i off ho
        exact ⟨off, ho, of_decide_eq_true h5⟩
      · cases h5
    · simp only [Bool.and_eq_true, decide_eq_true_eq] at hok
      obtain ⟨⟨h0, h1⟩, h2, h3⟩ := hok
      exact s_look F hd h0 h1 h2 h3 (hJ _ _ _ _ _ h hu)
    · cases hok
  · exact (no_some h).elim
theorem t5 (F : Fx P m d sc p l e R s mid args below meth c D aC ad0 n0 M0 A) {a b pos len : Nat} {fl : List Nat} {j : Instr} (hu : u ≤ (P m).1.2.2.2.2.1) (hd : decode (P m).1.2.1 pc = .ok (j, len)) (hok : ok5 P m a j len = true) (hF : Fin P m p l e R s mid args below meth c D aC ad0 n0 M0 A Q o σ') (h : goT J C u L S σ (5, j, a, b, pos, fl) = some (o, σ')) : WG P m p l e R s mid args below meth c D aC ad0 n0 M0 A Q pc u L S σ := by
  replace h : goRet S σ a = some (o, σ') := h
  unfold ok5 at hok
  rw [Bool.and_eq_true, decide_eq_true_eq] at hok
  obtain ⟨rfl, hok⟩ := hok
  unfold goRet at h
  split at h
  · simp only [Bool.and_eq_true, decide_eq_true_eq] at hok
    obtain ⟨rfl, h1⟩ := hok
    cases h
    exact hF.1 _ rfl pc u L _ hu (Or.inl ⟨hd, h1, rfl, rfl⟩)
  · rename_i x
    simp only [Bool.and_eq_true, decide_eq_true_eq] at hok
    obtain ⟨rfl, h1⟩ := hok
    cases h
    exact hF.1 _ rfl pc u L _ hu (Or.inr (Or.inl ⟨_, hd, Or.inl h1, rfl, rfl⟩))
  · rename_i x
    simp only [Bool.and_eq_true, decide_eq_true_eq] at hok
    obtain ⟨rfl, h1⟩ := hok
    split at h
    · rename_i hb
      cases h
      exact hF.1 _ rfl pc u L _ hu (Or.inr (Or.inl ⟨_, hd, Or.inr ⟨h1, hb⟩, rfl, rfl⟩))
    · cases h
  · rename_i x
    simp only [Bool.and_eq_true, decide_eq_true_eq] at hok
    obtain ⟨rfl, h1⟩ := hok
    cases h
    exact hF.1 _ rfl pc u L _ hu (Or.inr (Or.inr ⟨_, hd, h1, rfl, rfl⟩))
  · cases h
theorem t7 (F : Fx P m d sc p l e R s mid args below meth c D aC ad0 n0 M0 A) {a b pos len : Nat} {fl : List Nat} {j : Instr} (hd : decode (P m).1.2.1 pc = .ok (j, len)) (hok : ok7 P m pc a pos fl j len = true) (hF : Fin P m p l e R s mid args below meth c D aC ad0 n0 M0 A Q o σ') (h : goT J C u L S σ (7, j, a, b, pos, fl) = some (o, σ')) : WG P m p l e R s mid args below meth c D aC ad0 n0 M0 A Q pc u L S σ := by
  unfold ok7 at hok
  split at hok
  · rename_i cm p2 r ik
    simp only [Bool.and_eq_true, decide_eq_true_eq] at hok
    obtain ⟨⟨rfl, rfl, h1, h2⟩, h3, h4, h5⟩ := hok
    split at h5
    · rename_i o9 k9 tx hw
      simp only [Bool.and_eq_true, Bool.or_eq_true, decide_eq_true_eq] at h5
      obtain ⟨rfl, h6, h7⟩ := h5
      replace h : (match decide (u + 1 ≤ (P m).1.2.2.2.2.1) && decide (S.length ≤ 20) with
        | true => some (.inr a, σ)
        | false => none) = some (o, σ') := h
      split at h
      · rename_i hc
        rw [Bool.and_eq_true, decide_eq_true_eq, decide_eq_true_eq] at hc
        cases h
        exact hF.2.1 a rfl pc u L S hc.1 hc.2 ⟨h2, h3, h1, ik, k9, tx, gd_mem h4 rfl, List.mem_of_getElem? hw, hd, h6, h7⟩
      · cases h
    · cases h5
  · cases hok
theorem t8 (F : Fx P m d sc p l e R s mid args below meth c D aC ad0 n0 M0 A) {a b pos len : Nat} {fl : List Nat} {j : Instr} (hu : u ≤ (P m).1.2.2.2.2.1) (hd : decode (P m).1.2.1 pc = .ok (j, len)) (hok : ok8 P sc m pc a b len = true) (hJ : ∀ u b L S σ, J u b L S σ = some (o, σ') → u ≤ (P m).1.2.2.2.2.1 → WG P m p l e R s mid args below meth c D aC ad0 n0 M0 A Q (pcB P m b) u L S σ) (h : goT J C u L S σ (8, j, a, b, pos, fl) = some (o, σ')) : WG P m p l e R s mid args below meth c D aC ad0 n0 M0 A Q pc u L S σ := by
  replace h : goRd J u a L S σ j b = some (o, σ') := h
  unfold ok8 at hok
  simp only [Bool.and_eq_true, Bool.or_eq_true, decide_eq_true_eq] at hok
  obtain ⟨rfl, h1, h2⟩ := hok
  unfold goRd at h
  split at h
  · split at h
    · split at h
      · rename_i hx
        exact s_iald F hx hd (by rw [← h1]; exact hJ _ _ _ _ _ h hu)
      · cases h
    · rename_i hb
      have hsc : sc = true := by
        rcases h2 with h2 | h2
        · exact absurd h2 hb
        · exact h2
      split at h
      · split at h
        · rename_i hx
          exact s_sld F hsc hx hd (by rw [← h1]; exact hJ _ _ _ _ _ h hu)
        · cases h
      · cases h
  · split at h
    · rename_i hx
      exact s_cald F hx hd (by rw [← h1]; exact hJ _ _ _ _ _ h hu)
    · cases h
  · split at h
    · rename_i hx
      exact s_lald F hx hd (by rw [← h1]; exact hJ _ _ _ _ _ h hu)
    · cases h
  · split at h
    · rename_i hx
      exact s_dald F hx hd (by rw [← h1]; exact hJ _ _ _ _ _ h hu)
    · cases h
  · split at h
    · split at h
      · rename_i hx
        exact s_alen F hx hd (by rw [← h1]; exact hJ _ _ _ _ _ h hu)
      · cases h
    · rename_i hb
      have hsc : sc = true := by
        rcases h2 with h2 | h2
        · exact absurd h2 hb
        · exact h2
      split at h
      · exact s_slen F hsc hd (by rw [← h1]; exact hJ _ _ _ _ _ h hu)
      · cases h
  · split at h
    · rename_i hx
      exact s_dadd F hx hd (by rw [← h1]; exact hJ _ _ _ _ _ h hu)
    · cases h
  · split at h
    · rename_i hx
      exact s_ddiv F hx hd (by rw [← h1]; exact hJ _ _ _ _ _ h hu)
    · cases h
  · cases h
theorem t9 (F : Fx P m d sc p l e R s mid args below meth c D aC ad0 n0 M0 A) {a b pos len : Nat} {fl : List Nat} {j : Instr} (hu : u ≤ (P m).1.2.2.2.2.1) (hd : decode (P m).1.2.1 pc = .ok (j, len)) (hok : ok9 P m pc a pos j len = true) (hJ : ∀ u b L S σ, J u b L S σ = some (o, σ') → u ≤ (P m).1.2.2.2.2.1 → WG P m p l e R s mid args below meth c D aC ad0 n0 M0 A Q (pcB P m b) u L S σ) (h : goT J C u L S σ (9, j, a, b, pos, fl) = some (o, σ')) : WG P m p l e R s mid args below meth c D aC ad0 n0 M0 A Q pc u L S σ := by
  replace h : goWr J u a L S σ j = some (o, σ') := h
  unfold ok9 at hok
  rw [Bool.and_eq_true, decide_eq_true_eq] at hok
  obtain ⟨h1, hok⟩ := hok
  unfold goWr at h
  split at h
  · have e1 : len = 1 := of_decide_eq_true hok
    subst e1
    split at h
    · rename_i hx
      exact s_iast F hx hd (by rw [← h1]; exact hJ _ _ _ _ _ h hu)
    · cases h
  · have e1 : len = 1 := of_decide_eq_true hok
    subst e1
    split at h
    · rename_i hx
      exact s_cast F hx.1 hx.2 hd (by rw [← h1]; exact hJ _ _ _ _ _ h hu)
    · cases h
  · have e1 : len = 1 := of_decide_eq_true hok
    subst e1
    split at h
    · rename_i hx
      exact s_last F hx hd (by rw [← h1]; exact hJ _ _ _ _ _ h hu)
    · cases h
  · have e1 : len = 1 := of_decide_eq_true hok
    subst e1
    split at h
    · rename_i hx
      exact s_dast F hx hd (by rw [← h1]; exact hJ _ _ _ _ _ h hu)
    · cases h
  · have hok := hok
    simp only [Bool.and_eq_true, decide_eq_true_eq] at hok
    obtain ⟨rfl, h2⟩ := hok
    split at h
    · rename_i hx
      obtain ⟨⟨rfl, rfl, h3⟩, h4, h5, h6⟩ := hx
      exact s_copy F h3 h4 h5 h6 h2 hd (by rw [← h1]; exact hJ _ _ _ _ _ h hu)
    · cases h
  · cases h
theorem nul_ok {v : Value} {z : Nat} : nulB v z = true → v = match z with
  | 0 => .int 0
  | _ => .null := by
  intro h
  unfold nulB at h
  split at h
  · have := of_decide_eq_true h
    subst this
    rfl
  · rfl
  · cases h
theorem t10 (F : Fx P m d sc p l e R s mid args below meth c D aC ad0 n0 M0 A) {a b pos len : Nat} {fl : List Nat} {j : Instr} (hd : decode (P m).1.2.1 pc = .ok (j, len)) (hok : ok10 P m pc a b pos fl j len = true) (hJ : ∀ u b L S σ, J u b L S σ = some (o, σ') → u ≤ (P m).1.2.2.2.2.1 → WG P m p l e R s mid args below meth c D aC ad0 n0 M0 A Q (pcB P m b) u L S σ) (h : goT J C u L S σ (10, j, a, b, pos, fl) = some (o, σ')) : WG P m p l e R s mid args below meth c D aC ad0 n0 M0 A Q pc u L S σ := by
  unfold ok10 at hok
  split at hok
  · rename_i cm q fs
    replace h : goNw J u a b L S σ j cm q fs = some (o, σ') := h
    rw [Bool.and_eq_true, decide_eq_true_eq] at hok
    obtain ⟨rfl, hok⟩ := hok
    unfold goNw at h
    split at h
    · simp only [Bool.and_eq_true, decide_eq_true_eq] at hok
      obtain ⟨⟨rfl, h1⟩, h2⟩ := hok
      split at h2
      · rename_i c9 hc9
        simp only [Bool.and_eq_true, decide_eq_true_eq] at h2
        obtain ⟨⟨h3, h4⟩, h5, h6⟩ := h2
        obtain ⟨i1, i2, j1, j2⟩ := cls_at b c9 hc9
        split at h
        · rename_i hu
          have hu := of_decide_eq_true hu
          exact s_new (i3 := 0) F hu hc9 h3 (fun j hj => nul_ok (List.all_eq_true.mp h6 j (List.mem_range.mpr hj))) h5 j1 j2 h4 hd (by rw [← h1]; exact hJ _ _ _ _ _ h hu)
        · cases h
      · cases h2
    · simp only [Bool.and_eq_true, decide_eq_true_eq] at hok
      obtain ⟨⟨rfl, h1⟩, rfl, h2⟩ := hok
      split at h
      · rename_i hu
        simp only [Bool.and_eq_true, decide_eq_true_eq] at hu
        exact s_newa F hu.1 h2 hu.2 hd (by rw [← h1]; exact hJ _ _ _ _ _ h hu.1)
      · cases h
    · simp only [Bool.and_eq_true, decide_eq_true_eq] at hok
      obtain ⟨⟨rfl, h1⟩, h2, h3⟩ := hok
      split at h3
      · rename_i k l2 hd2
        simp only [Bool.and_eq_true, decide_eq_true_eq] at h3
        obtain ⟨rfl, h4⟩ := h3
        split at h
        · rename_i hu hk
          simp only [Bool.and_eq_true, decide_eq_true_eq] at hu
          exact s_clone F hu.1 hu.2 hk h2 h4 hd hd2 (by rw [← h1]; exact hJ _ _ _ _ _ h hu.1)
        · cases h
      · cases h3
    · cases h
  · cases hok
theorem nest_ok {pos idx : Nat} {own : String} {y : MethodName} (h : (match lw_tbl[pos]? with
    | some (.methodLinkNest o k y' _) => decide (o = own) && (decide (k = idx) && decide (y' = y))
    | _ => false) = true) : ∃ host, lw_tbl[pos]? = some (.methodLinkNest own idx y host) := by
  split at h
  · rename_i o k y' hh hw
    simp only [Bool.and_eq_true, decide_eq_true_eq] at h
    obtain ⟨rfl, rfl, rfl⟩ := h
    exact ⟨hh, hw⟩
  · cases h
theorem t6 (F : Fx P m d sc p l e R s mid args below meth c D aC ad0 n0 M0 A) {a b pos len : Nat} {fl : List Nat} {j : Instr} (hd : decode (P m).1.2.1 pc = .ok (j, len)) (hok : ok6 P Z N m pc a b pos fl j len = true) (hZ : ∀ a, a < N → mOk P a (Z a).1) (hF : Fin P m p l e R s mid args below meth c D aC ad0 n0 M0 A Q o σ') (hC : ∀ a as σ o1 σ1, a < N → as.all nj = true → as.length = (P a).1.2.2.2.2.2.1 → C a as σ = some (o1, σ1) → ∃ d', d = d' + 1 ∧ cMet P l a d' as σ o1 σ1)
    (hJ : ∀ u b L S σ, J u b L S σ = some (o, σ') → u ≤ (P m).1.2.2.2.2.1 → WG P m p l e R s mid args below meth c D aC ad0 n0 M0 A Q (pcB P m b) u L S σ) (h : goT J C u L S σ (6, j, a, b, pos, fl) = some (o, σ')) : WG P m p l e R s mid args below meth c D aC ad0 n0 M0 A Q pc u L S σ := by
  unfold ok6 at hok
  split at hok
  · rename_i n cc cm rc hs
    rw [Bool.and_eq_true] at hok
    obtain ⟨hk, hok⟩ := hok
    simp only [Bool.and_eq_true, decide_eq_true_eq] at hk
    obtain ⟨⟨haN, rfl⟩, ⟨hn, rfl⟩, rfl, hpb, hhs⟩ := hk
    have hz := hZ a haN
    replace h : (match ((decide (n ≤ S.length) && decide (c2sum (S.drop n) ≤ 8)) && decide (u + (P a).1.2.2.2.2.1 ≤ (P m).1.2.2.2.2.1)) && ((S.take n).all nj && rcvOk σ (S.take n).reverse rc) with
      | true => callK (C a (S.take n).reverse σ) (fun v σ1 => J (u + (P a).1.2.2.2.2.1) b L (psh v (S.drop n)) σ1) (fun e σ1 => match hs.getD e 1 with
        | 0 => some (.inr e, σ1)
        | 1 => none
        | t + 2 => J (u + (P a).1.2.2.2.2.1) t L [vj] σ1)
      | false => none) = some (o, σ') := h
    split at h
    · rename_i hd0
      simp only [Bool.and_eq_true, decide_eq_true_eq] at hd0
      obtain ⟨⟨⟨h1, h2⟩, h3⟩, h4, h5⟩ := hd0
      cases hc : C a (S.take n).reverse σ with
      | none => rw [hc] at h; exact (no_some h).elim
      | some q =>
        obtain ⟨o1, σ1⟩ := q
        rw [hc] at h
        obtain ⟨d', hd', hM⟩ := hC _ _ _ _ _ haN (by rw [List.all_reverse]; exact h4) (by rw [List.length_reverse, List.length_take, ← hn]; omega) hc
        have kr : ∀ v, o1 = .inl v → WG P m p l e R s mid args below meth c D aC ad0 n0 M0 A Q (pc + 3) (u + (P a).1.2.2.2.2.1) L (psh v (S.drop n)) σ1 := by
          intro v hv
          subst hv
          rw [← hpb]
          exact hJ _ _ _ _ _ h h3
        have kx : ∀ ex, o1 = .inr ex → XG P m p l e R s mid args below meth c D aC ad0 n0 M0 A Q pc (u + (P a).1.2.2.2.2.1) L (S.drop n) σ1 ex := by
          intro ex hx
          subst hx
          replace h : (match hs.getD ex 1 with
            | 0 => some (.inr ex, σ1)
            | 1 => none
            | t + 2 => J (u + (P a).1.2.2.2.2.1) t L [vj] σ1) = some (o, σ') := h
          unfold hOk at hhs
          split at hhs
          · rename_i hnil
            split at h
            · cases h
              exact hF.2.2 ex rfl pc _ L _ h3 hnil
            · cases h
            · rename_i t ht
              rw [List.getD_eq_getElem?_getD] at ht
              cases hq : hs[ex]? with
              | none => rw [hq] at ht; simp at ht
              | some w =>
                rw [hq] at ht
                have := of_decide_eq_true (List.all_eq_true.mp hhs w (List.mem_of_getElem? hq))
                have ht : w = t + 2 := ht
                omega
          · rename_i q0 hh ht0
            simp only [Bool.and_eq_true, decide_eq_true_eq] at hhs
            obtain ⟨f1, f2, f3⟩ := hhs
            by_cases hex : ex < 5
            · have f4 := List.all_eq_true.mp f3 ex (List.mem_range.mpr hex)
              split at f4
              · cases f4
              · rename_i hg
                rw [hg] at h
                cases h
              · rename_i t hg
                rw [hg] at h
                exact catch_ok F f1 ht0 (of_decide_eq_true f4) (hJ _ _ _ _ _ h h3)
            · have hg : hs.getD ex 1 = 1 := by
                rw [List.getD_eq_getElem?_getD, List.getElem?_eq_none (by omega)]
                rfl
              rw [hg] at h
              cases h
        split at hok
        · split at hok
          · cases hok
          · rename_i ci
            split at hok
            · cases hok
            · rename_i q hq
              simp only [Bool.and_eq_true, decide_eq_true_eq] at hok
              obtain ⟨⟨k1, k2, k3⟩, k4, k5⟩ := hok
              rw [k2] at hz
              exact s_callV F h1 h2 h3 h4 h5 hq k1 hd' hz k3 hn k4 k5 hd hM kr kx
        · simp only [Bool.and_eq_true, Bool.or_eq_true, decide_eq_true_eq] at hok
          obtain ⟨k2, k5⟩ := hok
          rw [k2] at hz
          by_cases k3 : (P a).1.2.2.2.2.2.2 = []
          · rcases k5 with k5 | ⟨-, k5⟩
            · exact s_callS F h1 h2 h3 h4 hd' hz k3 hn k5 hd hM kr kx
            · obtain ⟨host, k6⟩ := nest_ok k5
              exact s_callSN F h1 h2 h3 h4 hd' hz k3 hn k6 hd hM kr kx
          · rcases k5 with k5 | ⟨k4, -⟩
            · exact s_callSX F h1 h2 h3 h4 hd' hz k3 hn k5 hd hM kr kx
            · exact absurd k4 k3
        · split at hok
          · cases hok
          · rename_i ci
            rw [Bool.and_eq_true, Bool.or_eq_true] at hok
            obtain ⟨hk, k5⟩ := hok
            simp only [Bool.and_eq_true, decide_eq_true_eq] at hk
            obtain ⟨k2, k3, k4, k6⟩ := hk
            rw [k2] at hz
            rcases k5 with k5 | k5
            · exact s_callI F h1 h2 h3 h4 h5 hd' hz k3 hn k4 k6 (of_decide_eq_true k5) hd hM kr kx
            · obtain ⟨host, k7⟩ := nest_ok k5
              exact s_callIN F h1 h2 h3 h4 h5 hd' hz k3 hn k4 k6 k7 hd hM kr kx
        · cases hok
    · cases h
  · cases hok
theorem term_ok (F : Fx P m d sc p l e R s mid args below meth c D aC ad0 n0 M0 A) {i : mI} (hu : u ≤ (P m).1.2.2.2.2.1) (hok : okT P Z N sc m pc i = true) (hZ : ∀ a, a < N → mOk P a (Z a).1) (hF : Fin P m p l e R s mid args below meth c D aC ad0 n0 M0 A Q o σ') (hC : ∀ a as σ o1 σ1, a < N → as.all nj = true → as.length = (P a).1.2.2.2.2.2.1 → C a as σ = some (o1, σ1) → ∃ d', d = d' + 1 ∧ cMet P l a d' as σ o1 σ1)
    (hJ : ∀ u b L S σ, J u b L S σ = some (o, σ') → u ≤ (P m).1.2.2.2.2.1 → WG P m p l e R s mid args below meth c D aC ad0 n0 M0 A Q (pcB P m b) u L S σ) (h : goT J C u L S σ i = some (o, σ')) : WG P m p l e R s mid args below meth c D aC ad0 n0 M0 A Q pc u L S σ := by
  obtain ⟨k, ins, a, b, pos, fl⟩ := i
  unfold okT at hok
  split at hok
  · rename_i hk
    have hk : k = 1 := of_decide_eq_true hk
    subst hk
    have e1 : pcB P m a = pc := of_decide_eq_true hok
    subst e1
    exact hJ _ _ _ _ _ h hu
  · split at hok
    · cases hok
    · rename_i j len hd
      rw [Bool.and_eq_true, decide_eq_true_eq] at hok
      obtain ⟨e1, hok⟩ := hok
      have e1 : ins = j := e1
      subst e1
      split at hok
      · rename_i hk
        have hk : k = 2 := hk
        subst hk
        split at hok
        · simp only [Bool.and_eq_true, decide_eq_true_eq] at hok
          obtain ⟨rfl, h1⟩ := hok
          exact s_goto F hd h1 (hJ _ _ _ _ _ h hu)
        · cases hok
      · rename_i hk
        have hk : k = 3 := hk
        subst hk
        exact t3 F hu hd hok hJ h
      · rename_i hk
        have hk : k = 4 := hk
        subst hk
        exact t4 F hu hd hok hJ h
      · rename_i hk
        have hk : k = 5 := hk
        subst hk
        exact t5 F hu hd hok hF h
      · rename_i hk
        have hk : k = 6 := hk
        subst hk
        exact t6 F hd hok hZ hF hC hJ h
      · rename_i hk
        have hk : k = 7 := hk
        subst hk
        exact t7 F hd hok hF h
      · rename_i hk
        have hk : k = 8 := hk
        subst hk
        exact t8 F hu hd hok hJ h
      · rename_i hk
        have hk : k = 9 := hk
        subst hk
        exact t9 F hu hd hok hJ h
      · rename_i hk
        have hk : k = 10 := hk
        subst hk
        exact t10 F hd hok hJ h
      · cases hok
theorem chk_ok (F : Fx P m d sc p l e R s mid args below meth c D aC ad0 n0 M0 A) (hu : u ≤ (P m).1.2.2.2.2.1) : ∀ (code : List mI) (pc : Nat) (st st' : mSt) (i : mI), chkL P Z N sc m pc code = true → runS code st = some (st', i) → ∃ pc', okT P Z N sc m pc' i = true ∧ (WG P m p l e R s mid args below meth c D aC ad0 n0 M0 A Q pc' u st'.1 st'.2.1 st'.2.2 → WG P m p l e R s mid args below meth c D aC ad0 n0 M0 A Q pc u st.1 st.2.1 st.2.2)
  | [], pc, st, st', i, _, hr => by cases hr
  | j :: r, pc, st, st', i, hc, hr => by
    obtain ⟨k, ins, a, b, pos, fl⟩ := j
    obtain ⟨L, S, σ⟩ := st
    cases k with
    | zero =>
      unfold chkL at hc
      have hc : (match decode (P m).1.2.1 pc with
        | .error _ => false
        | .ok (j, len) => (decide (ins = j) && okI P m j a b pos (fl.headD 0) len) && chkL P Z N sc m (pc + len) r) = true := hc
      split at hc
      · cases hc
      · rename_i j len hd
        simp only [Bool.and_eq_true, decide_eq_true_eq] at hc
        obtain ⟨⟨rfl, h1⟩, h2⟩ := hc
        unfold runS at hr
        have hr : (match sem ins a b (fl.headD 0) L S σ with
          | some st' => runS r st'
          | none => none) = some (st', i) := hr
        split at hr
        · rename_i st2 hs
          obtain ⟨L2, S2, σ2⟩ := st2
          obtain ⟨pc', h3, h4⟩ := chk_ok F hu r (pc + len) _ _ _ h2 hr
          exact ⟨pc', h3, fun g => str_ok F hu hd h1 hs (h4 g)⟩
        · cases hr
    | succ k =>
      cases hr
      exact ⟨pc, hc, id⟩
end TE
end
section
/-! EVERY RUN OF THE CHECKED MACHINE IS A METHOD'S CONTRACT -/
def okP (P : mP) (Z : mZ) (N : Nat) : Prop := ∀ a, a < N → okM P Z a = true ∧ chkM P Z N false a = true
section ME
variable {P : mP} {m d : Nat} {sc : Bool} {p : Program} {l : Launch} {e : Env} {R : Room} {s : State} {mid : MethodId} {args : Array Value} {below : List Frame} {meth : Method} {c : Code} {D : va_G} {aC : FieldType → ClassId} {ad0 : Nat → Nat} {n0 : Nat} {M0 : mM} {A : Nat → Prop} {Q : State → Prop}
variable {pc u : Nat} {L S : List mV} {σ : mS}
variable {J : mJ} {C : mC} {Z : mZ} {N : Nat} {o : mO} {σ' : mS}
theorem msk_G {bs : List Bool} (k : WG P m p l e R s mid args below meth c D aC ad0 n0 M0 A Q pc u (msk bs L) S σ) : WG P m p l e R s mid args below meth c D aC ad0 n0 M0 A Q pc u L S σ := fun ad H locs ls st g0 g1 hW g2 hS hL hT => k ad H locs ls st g0 g1 hW g2 hS (lR_msk bs hL) hT
theorem block_ok (F : Fx P m d sc p l e R s mid args below meth c D aC ad0 n0 M0 A) {b : Nat} (hu : u ≤ (P m).1.2.2.2.2.1) (hok : chkM P Z N sc m = true) (hZ : ∀ a, a < N → mOk P a (Z a).1) (hF : Fin P m p l e R s mid args below meth c D aC ad0 n0 M0 A Q o σ') (hC : ∀ a as σ o1 σ1, a < N → as.all nj = true → as.length = (P a).1.2.2.2.2.2.1 → C a as σ = some (o1, σ1) → ∃ d', d = d' + 1 ∧ cMet P l a d' as σ o1 σ1)
    (hJ : ∀ u b L S σ, J u b L S σ = some (o, σ') → u ≤ (P m).1.2.2.2.2.1 → WG P m p l e R s mid args below meth c D aC ad0 n0 M0 A Q (pcB P m b) u L S σ) (h : goP P m J C u b L S σ = some (o, σ')) : WG P m p l e R s mid args below meth c D aC ad0 n0 M0 A Q (pcB P m b) u L S σ := by
  unfold goP at h
  split at h
  · cases h
  · rename_i q hq
    unfold goB at h
    split at h
    · cases h
    · rename_i st' i hr
      unfold chkM at hok
      rw [Bool.and_eq_true] at hok
      have h1 := List.all_eq_true.mp hok.2 q (List.mem_of_getElem? hq)
      obtain ⟨pc', h2, h3⟩ := chk_ok (Q := Q) F hu q.2.2 q.1 _ _ _ h1 hr
      have e1 : pcB P m b = q.1 := by unfold pcB; rw [hq]
      rw [e1]
      exact h3 (term_ok F hu h2 hZ hF hC (fun u' b' L1 S1 σ1 hj hu' => msk_G (hJ _ _ _ _ _ hj hu')) h)
theorem nj_cat {ad : Nat → Nat} {w : mV} (h : nj w = true) : (vv ad w).category ≠ 2 := by
  rcases w with x | (_ | y) | z
  · exact (show (1 : Nat) ≠ 2 by decide)
  · exact (show (1 : Nat) ≠ 2 by decide)
  · exact (show (1 : Nat) ≠ 2 by decide)
  · cases h
theorem args_in {ad : Nat → Nat} : ∀ (as : List mV) (k : Nat), as.all nj = true → ∀ (i : Nat) (v : mV), as[i]? = some v → (k + i, vv ad v) ∈ lv_args k (as.map (vv ad))
  | [], k, _, i, v, h => by simp at h
  | w :: as, k, hn, i, v, h => by
    rw [List.all_cons, Bool.and_eq_true] at hn
    have hc : (vv ad w).category ≠ 2 := by
      exact nj_cat hn.1
    rw [List.map_cons]
    unfold lv_args
    rw [if_neg hc]
    cases i with
    | zero =>
      rw [List.getElem?_cons_zero] at h
      cases h
      exact List.mem_cons_self
    | succ i =>
      rw [List.getElem?_cons_succ] at h
      have := args_in (ad := ad) as (k + 1) hn.2 i v h
      rw [show k + (i + 1) = k + 1 + i by omega]
      exact List.mem_cons_of_mem _ this
theorem sl_len {ad : Nat → Nat} : ∀ (as : List mV), as.all nj = true → (lg_sl (as.map (vv ad))).length = as.length
  | [], _ => rfl
  | w :: as, hn => by
    rw [List.all_cons, Bool.and_eq_true] at hn
    have hc : (vv ad w).category ≠ 2 := by
      exact nj_cat hn.1
    have h1 := sl_len (ad := ad) as hn.2
    unfold lg_sl at h1 ⊢
    rw [List.map_cons, List.flatMap_cons, if_neg hc, List.length_append, h1]
    simp
    omega
theorem entry_lR {ad : Nat → Nat} {n a : Nat} {as : List mV} (hn : as.all nj = true) (hl : as.length ≤ (P a).1.2.2.1) (hok : ∀ v ∈ as, okV n v ∧ v ≠ vj) : lR ad n (pPad P a as) ((lg_sl (as.map (vv ad)) ++ List.replicate ((P a).1.2.2.1 - (lg_sl (as.map (vv ad))).length) Slot.unset).toArray) (P a).1.2.2.1 := by
  refine ⟨?_, lv_args 0 (as.map (vv ad)), lv_entry _ (by rw [sl_len as hn]; exact hl), fun i v hi hv => ?_⟩
  · unfold pPad
    rw [List.length_append, List.length_replicate]
    omega
  · unfold pPad at hi
    by_cases hia : i < as.length
    · rw [List.getElem?_append_left hia] at hi
      refine ⟨(hok v (List.mem_of_getElem? hi)).1, ?_⟩
      have := args_in (ad := ad) as 0 hn i v hi
      rw [Nat.zero_add] at this
      exact this
    · rw [List.getElem?_append_right (by omega)] at hi
      have := List.mem_of_getElem? hi
      exact absurd (List.eq_of_mem_replicate this) hv
/-- what runs from a block of a method's frame, ends -/
def okB (P : mP) (Z : mZ) (N : Nat) (l : Launch) (n : Nat) : Prop :=
  ∀ (m d : Nat) (sc : Bool) (p : Program) (e : Env) (R : Room) (s : State) (mid : MethodId) (args : Array Value) (below : List Frame) (meth : Method) (c : Code) (D : va_G) (aC : FieldType → ClassId) (ad0 : Nat → Nat) (n0 : Nat) (M0 : mM) (A : Nat → Prop) (Q : State → Prop) (u b : Nat) (L S : List mV) (σ : mS) (o : mO) (σ' : mS),
    chkM P Z N sc m = true → Fx P m d sc p l e R s mid args below meth c D aC ad0 n0 M0 A → Fin P m p l e R s mid args below meth c D aC ad0 n0 M0 A Q o σ' → u ≤ (P m).1.2.2.2.2.1 → exec P n d m u b L S σ = some (o, σ') → WG P m p l e R s mid args below meth c D aC ad0 n0 M0 A Q (pcB P m b) u L S σ
theorem meth_of {n a : Nat} {as : List mV} (hl : l.stackTraces = false) (hP : okP P Z N) (hB : okB P Z N l n) (ha : a < N) (hnj : as.all nj = true) (hln : as.length = (P a).1.2.2.2.2.2.1) (hr : exec P n d a 0 0 (pPad P a as) [] σ = some (o, σ')) : cMet P l a d as σ o σ' := by
  intro D aC ad sz
  obtain ⟨q1, q2⟩ := hP a ha
  have hm := okM_ok q1
  have q3 := q2
  unfold chkM at q3
  simp only [Bool.and_eq_true, decide_eq_true_eq] at q3
  obtain ⟨⟨q4, q5⟩, -⟩ := q3
  have body : ∀ (p : Program) (e : Env) (s : State) (mid : MethodId) (args : Array Value) (below : List Frame) (meth : Method) (c : Code) (s₁ : State), BodyLoose p l (P a).1.1 (headSpec (cWs P a) (cRm P a d)) (P a).1.2.1 (P a).1.2.2.1 (P a).1.2.2.2.1 e s mid args below meth c s₁ → c.maxLocals = (P a).1.2.2.1 → c.exceptionTable.toList = tableOf (P a).1.2.2.2.2.2.2 → cPre D aC ad sz as σ args s →
      W p l e (headSpec (cWs P a) (cRm P a d)).room s mid args below meth c s.heap [] 0 0 (vx_MQ below (cQ D aC ad sz σ o σ') (cX D aC ad sz σ o σ') args s (P a).1.2.2.2.2.1 (2100 * (P a).1.2.2.2.2.1) (mA ad σ.1.length sz)) (entryFrame mid args (P a).1.2.2.1) := by
    intro p e s mid args below meth c s₁ B hml htab hPc
    obtain ⟨hargs, hsz, hkn, hst, hW, hok⟩ := hPc
    have hts := atoms_spec (ws := cWs P a) B.pre
    subst hsz
    have F : Fx P a d false p l e (headSpec (cWs P a) (cRm P a d)).room s mid args below meth c D aC ad σ.1.length σ.2 (mA ad σ.1.length s.heap.size) :=
      ⟨B.exec, B.bytes, hml, findClass_of_methodNamed B.named, fun w hw => hts w (List.mem_cons_of_mem _ hw), B.notSynchronized, hkn, hst, fun q hq => Or.inr hq, ⟨Nat.le_refl _, Nat.le_refl _⟩, ⟨Nat.le_refl _, Nat.le_refl _⟩, htab, (fun z => by cases z), (name_of_methodNamed B.named B.method).1, hW.2.2.1.1, hl, B.returns⟩
    have key := hB a d false p e _ s mid args below meth c D aC ad σ.1.length σ.2 (mA ad σ.1.length s.heap.size) _ 0 0 (pPad P a as) [] σ o σ' q2 F (fin_meth (o := o) (σ' := σ') F) (Nat.zero_le _) hr
    rw [q4] at key
    have k2 := key ad s.heap [] _ [] (Nat.le_refl _) (fun k _ => rfl) hW (fun k _ => rfl) ⟨Nat.le_refl _, fun q _ _ => rfl, fun z hz => by cases hz⟩ (entry_lR hnj (by omega) hok) trivial
    rw [hargs, lg_entry_eq]
    rw [← hargs]
    exact k2
  have hm' := hm
  obtain ⟨m1, -⟩ := hm
  cases hh : (P a).1.2.2.2.2.2.2 with
  | nil =>
    refine vx_ofW (ws' := lw_gd) (cc := (P a).1.2.1) (maxL := (P a).1.2.2.1) (ret := (P a).1.2.2.2.1) m1 (by unfold cWs; rw [cW_code hh]) (fun p e s m args below meth c s₁ B hml htab hPc => ?_)
    refine body p e s m args below meth c s₁ B hml ?_ hPc
    rw [hh]
    cases ht : c.exceptionTable.toList with
    | nil => rfl
    | cons x y => exact (htab x (by rw [ht]; exact List.mem_cons_self)).elim
  | cons x y =>
    have hne : (P a).1.2.2.2.2.2.2 ≠ [] := by rw [hh]; exact List.cons_ne_nil _ _
    refine vx_ofWH (ws' := lw_gd) (cc := (P a).1.2.1) (maxL := (P a).1.2.2.1) (ret := (P a).1.2.2.2.1) (hh := (P a).1.2.2.2.2.2.2) m1 (by unfold cWs; rw [cW_codeW hne]) (fun p e s m args below meth c s₁ B hml hPc => ?_)
    refine body p e s m args below meth c s₁ B hml ?_ hPc
    have hts := atoms_spec (ws := cWs P a) B.pre
    exact vx_table (x := (P a).1.1) B (hts _ (by unfold cWs; rw [← cW_codeW hne]; exact List.mem_cons_self))
theorem exec_ok (hl : l.stackTraces = false) (hP : okP P Z N) : ∀ n, okB P Z N l n
  | 0 => by
    intro m d sc p e R s mid args below meth c D aC ad0 n0 M0 A Q u b L S σ o σ' hc F hF hu h
    cases h
  | n + 1 => by
    intro m d sc p e R s mid args below meth c D aC ad0 n0 M0 A Q u b L S σ o σ' hc F hF hu h
    have ih := exec_ok hl hP n
    refine block_ok F hu hc (fun a ha => okM_ok (hP a ha).1) hF (fun a as σ2 o1 σ1 ha hnj hln hr => ?_) (fun u' b' L' S' σ2 h' hu' => ih m d sc p e R s mid args below meth c D aC ad0 n0 M0 A Q u' b' L' S' σ2 o σ' hc F hF hu' h') h
    cases d with
    | zero => cases hr
    | succ d => exact ⟨d, rfl, meth_of hl hP ih ha hnj hln hr⟩
/-- the contract of a method, by its run -/
theorem run_met {a : Nat} {as : List mV} (hl : l.stackTraces = false) (hP : okP P Z N) (ha : a < N) (hnj : as.all nj = true) (hln : as.length = (P a).1.2.2.2.2.2.1) (hr : run P d a as σ = some (o, σ')) : cMet P l a d as σ o σ' := by
  obtain ⟨n, hn⟩ := ev_ex hr
  exact meth_of hl hP (exec_ok hl hP n) ha hnj hln hn
/-- a run from a block of a frame that stands -/
theorem ev_ok (F : Fx P m d sc p l e R s mid args below meth c D aC ad0 n0 M0 A) {b : Nat} (hl : l.stackTraces = false) (hP : okP P Z N) (hc : chkM P Z N sc m = true) (hF : Fin P m p l e R s mid args below meth c D aC ad0 n0 M0 A Q o σ') (hu : u ≤ (P m).1.2.2.2.2.1) (hr : ev P d m u b L S σ = some (o, σ')) : WG P m p l e R s mid args below meth c D aC ad0 n0 M0 A Q (pcB P m b) u L S σ := by
  obtain ⟨n, hn⟩ := ev_ex hr
  exact exec_ok hl hP n m d sc p e R s mid args below meth c D aC ad0 n0 M0 A Q u b L S σ o σ' hc F hF hu hn
end ME
end
