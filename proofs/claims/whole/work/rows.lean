section
-- ===== PART A: goes FIRST, ahead of the names: the tables' words, and 'selects' of the private methods out of them =====
/-- a private method of a class that the tables say can be made, by its rows of tables_1 -/
def lw_okq (q : MethodName × Nat) : Prop := (q.1.cls ≠ "java/lang/invoke/MethodHandle" ∧ q.1.cls ≠ "java/lang/invoke/VarHandle") ∧ Cond.instantiable q.1.cls q.2 ∈ tables_1 ∧ Cond.privateMethod q.1 ∈ tables_1 ∧ Cond.instanceMethod q.1 ∈ tables_1
theorem lw_p0 : lw_okq (⟨"BarcodeEngine", "tally", "(I)LBarcodeEngine$Tally;"⟩, 12) := ⟨⟨by decide +kernel, by decide +kernel⟩, List.mem_of_getElem? (i := 26) (by decide +kernel), List.mem_of_getElem? (i := 287) (by decide +kernel), List.mem_of_getElem? (i := 288) (by decide +kernel)⟩
theorem lw_p1 : lw_okq (⟨"java/lang/Throwable", "fillInStackTrace", "(I)Ljava/lang/Throwable;"⟩, 6) := ⟨⟨by decide +kernel, by decide +kernel⟩, List.mem_of_getElem? (i := 333) (by decide +kernel), List.mem_of_getElem? (i := 331) (by decide +kernel), List.mem_of_getElem? (i := 332) (by decide +kernel)⟩
theorem lw_p2 : lw_okq (⟨"BarcodeEngine$Tally", "supportedLength", "(I[LBarcodeEngine$Scan;I)I"⟩, 6) := ⟨⟨by decide +kernel, by decide +kernel⟩, List.mem_of_getElem? (i := 113) (by decide +kernel), List.mem_of_getElem? (i := 500) (by decide +kernel), List.mem_of_getElem? (i := 501) (by decide +kernel)⟩
theorem lw_p3 : lw_okq (⟨"BarcodeEngine$Tally", "countVotes", "(LBarcodeEngine$Reading;)V"⟩, 6) := ⟨⟨by decide +kernel, by decide +kernel⟩, List.mem_of_getElem? (i := 113) (by decide +kernel), List.mem_of_getElem? (i := 546) (by decide +kernel), List.mem_of_getElem? (i := 547) (by decide +kernel)⟩
theorem lw_p4 : lw_okq (⟨"BarcodeEngine$Tally", "addVotes", "(LBarcodeEngine$Sequence;I)V"⟩, 6) := ⟨⟨by decide +kernel, by decide +kernel⟩, List.mem_of_getElem? (i := 113) (by decide +kernel), List.mem_of_getElem? (i := 550) (by decide +kernel), List.mem_of_getElem? (i := 551) (by decide +kernel)⟩
theorem lw_p5 : lw_okq (⟨"BarcodeEngine$Tally", "majorityAt", "(I)I"⟩, 6) := ⟨⟨by decide +kernel, by decide +kernel⟩, List.mem_of_getElem? (i := 113) (by decide +kernel), List.mem_of_getElem? (i := 554) (by decide +kernel), List.mem_of_getElem? (i := 555) (by decide +kernel)⟩
theorem lw_p6 : lw_okq (⟨"BarcodeEngine", "problemOf", "(LBarcodeEngine$Tally;I)I"⟩, 12) := ⟨⟨by decide +kernel, by decide +kernel⟩, List.mem_of_getElem? (i := 26) (by decide +kernel), List.mem_of_getElem? (i := 562) (by decide +kernel), List.mem_of_getElem? (i := 563) (by decide +kernel)⟩
theorem lw_p7 : lw_okq (⟨"BarcodeEngine", "appendBytes", "(I)V"⟩, 12) := ⟨⟨by decide +kernel, by decide +kernel⟩, List.mem_of_getElem? (i := 26) (by decide +kernel), List.mem_of_getElem? (i := 613) (by decide +kernel), List.mem_of_getElem? (i := 614) (by decide +kernel)⟩
theorem lw_p8 : lw_okq (⟨"BarcodeEngine", "requireTextLength", "(I)V"⟩, 12) := ⟨⟨by decide +kernel, by decide +kernel⟩, List.mem_of_getElem? (i := 26) (by decide +kernel), List.mem_of_getElem? (i := 626) (by decide +kernel), List.mem_of_getElem? (i := 627) (by decide +kernel)⟩
theorem lw_p9 : lw_okq (⟨"BarcodeEngine", "takeText", "(I)V"⟩, 12) := ⟨⟨by decide +kernel, by decide +kernel⟩, List.mem_of_getElem? (i := 26) (by decide +kernel), List.mem_of_getElem? (i := 647) (by decide +kernel), List.mem_of_getElem? (i := 648) (by decide +kernel)⟩
theorem lw_p10 : lw_okq (⟨"BarcodeEngine", "isCode", "(LBarcodeEngine$Symbology;)Z"⟩, 12) := ⟨⟨by decide +kernel, by decide +kernel⟩, List.mem_of_getElem? (i := 26) (by decide +kernel), List.mem_of_getElem? (i := 739) (by decide +kernel), List.mem_of_getElem? (i := 740) (by decide +kernel)⟩
theorem lw_p11 : lw_okq (⟨"BarcodeEngine", "requireRoomForScan", "()V"⟩, 12) := ⟨⟨by decide +kernel, by decide +kernel⟩, List.mem_of_getElem? (i := 26) (by decide +kernel), List.mem_of_getElem? (i := 753) (by decide +kernel), List.mem_of_getElem? (i := 754) (by decide +kernel)⟩
theorem lw_p12 : lw_okq (⟨"BarcodeEngine", "addPrinted", "(LBarcodeEngine$Row;III)V"⟩, 12) := ⟨⟨by decide +kernel, by decide +kernel⟩, List.mem_of_getElem? (i := 26) (by decide +kernel), List.mem_of_getElem? (i := 785) (by decide +kernel), List.mem_of_getElem? (i := 786) (by decide +kernel)⟩
theorem lw_p13 : lw_okq (⟨"BarcodeEngine", "keepScan", "(LBarcodeEngine$Scan;)I"⟩, 12) := ⟨⟨by decide +kernel, by decide +kernel⟩, List.mem_of_getElem? (i := 26) (by decide +kernel), List.mem_of_getElem? (i := 791) (by decide +kernel), List.mem_of_getElem? (i := 792) (by decide +kernel)⟩
theorem lw_p14 : lw_okq (⟨"BarcodeEngine", "forget", "(LBarcodeEngine$Scan;)V"⟩, 12) := ⟨⟨by decide +kernel, by decide +kernel⟩, List.mem_of_getElem? (i := 26) (by decide +kernel), List.mem_of_getElem? (i := 795) (by decide +kernel), List.mem_of_getElem? (i := 796) (by decide +kernel)⟩
theorem lw_p15 : lw_okq (⟨"BarcodeEngine", "rightValue", "(LBarcodeEngine$Symbology;I)I"⟩, 12) := ⟨⟨by decide +kernel, by decide +kernel⟩, List.mem_of_getElem? (i := 26) (by decide +kernel), List.mem_of_getElem? (i := 820) (by decide +kernel), List.mem_of_getElem? (i := 821) (by decide +kernel)⟩
def lw_privs_1 : List (MethodName × Nat) := [(⟨"BarcodeEngine", "tally", "(I)LBarcodeEngine$Tally;"⟩, 12), (⟨"java/lang/Throwable", "fillInStackTrace", "(I)Ljava/lang/Throwable;"⟩, 6), (⟨"BarcodeEngine$Tally", "supportedLength", "(I[LBarcodeEngine$Scan;I)I"⟩, 6), (⟨"BarcodeEngine$Tally", "countVotes", "(LBarcodeEngine$Reading;)V"⟩, 6), (⟨"BarcodeEngine$Tally", "addVotes", "(LBarcodeEngine$Sequence;I)V"⟩, 6), (⟨"BarcodeEngine$Tally", "majorityAt", "(I)I"⟩, 6), (⟨"BarcodeEngine", "problemOf", "(LBarcodeEngine$Tally;I)I"⟩, 12), (⟨"BarcodeEngine", "appendBytes", "(I)V"⟩, 12), (⟨"BarcodeEngine", "requireTextLength", "(I)V"⟩, 12), (⟨"BarcodeEngine", "takeText", "(I)V"⟩, 12), (⟨"BarcodeEngine", "isCode", "(LBarcodeEngine$Symbology;)Z"⟩, 12), (⟨"BarcodeEngine", "requireRoomForScan", "()V"⟩, 12), (⟨"BarcodeEngine", "addPrinted", "(LBarcodeEngine$Row;III)V"⟩, 12), (⟨"BarcodeEngine", "keepScan", "(LBarcodeEngine$Scan;)I"⟩, 12), (⟨"BarcodeEngine", "forget", "(LBarcodeEngine$Scan;)V"⟩, 12), (⟨"BarcodeEngine", "rightValue", "(LBarcodeEngine$Symbology;I)I"⟩, 12)]
theorem lw_r1 : ∀ q ∈ lw_privs_1, lw_okq q := List.forall_mem_cons.mpr ⟨lw_p0, List.forall_mem_cons.mpr ⟨lw_p1, List.forall_mem_cons.mpr ⟨lw_p2, List.forall_mem_cons.mpr ⟨lw_p3, List.forall_mem_cons.mpr ⟨lw_p4, List.forall_mem_cons.mpr ⟨lw_p5, List.forall_mem_cons.mpr ⟨lw_p6, List.forall_mem_cons.mpr ⟨lw_p7, List.forall_mem_cons.mpr ⟨lw_p8, List.forall_mem_cons.mpr ⟨lw_p9, List.forall_mem_cons.mpr ⟨lw_p10, List.forall_mem_cons.mpr ⟨lw_p11, List.forall_mem_cons.mpr ⟨lw_p12, List.forall_mem_cons.mpr ⟨lw_p13, List.forall_mem_cons.mpr ⟨lw_p14, List.forall_mem_cons.mpr ⟨lw_p15, fun _ h => absurd h List.not_mem_nil⟩⟩⟩⟩⟩⟩⟩⟩⟩⟩⟩⟩⟩⟩⟩⟩
theorem lw_p16 : lw_okq (⟨"BarcodeEngine", "requireScan", "(I)V"⟩, 12) := ⟨⟨by decide +kernel, by decide +kernel⟩, List.mem_of_getElem? (i := 26) (by decide +kernel), List.mem_of_getElem? (i := 883) (by decide +kernel), List.mem_of_getElem? (i := 884) (by decide +kernel)⟩
theorem lw_p17 : lw_okq (⟨"BarcodeEngine", "reading", "(II)LBarcodeEngine$Reading;"⟩, 12) := ⟨⟨by decide +kernel, by decide +kernel⟩, List.mem_of_getElem? (i := 26) (by decide +kernel), List.mem_of_getElem? (i := 963) (by decide +kernel), List.mem_of_getElem? (i := 964) (by decide +kernel)⟩
theorem lw_p18 : lw_okq (⟨"BarcodeEngine", "drawWhole", "(LBarcodeEngine$Symbology;LBarcodeEngine$Reading;)V"⟩, 12) := ⟨⟨by decide +kernel, by decide +kernel⟩, List.mem_of_getElem? (i := 26) (by decide +kernel), List.mem_of_getElem? (i := 1030) (by decide +kernel), List.mem_of_getElem? (i := 1031) (by decide +kernel)⟩
theorem lw_p19 : lw_okq (⟨"BarcodeEngineModel", "canPrint", "(IIII)Z"⟩, 33) := ⟨⟨by decide +kernel, by decide +kernel⟩, List.mem_of_getElem? (i := 1167) (by decide +kernel), List.mem_of_getElem? (i := 1292) (by decide +kernel), List.mem_of_getElem? (i := 1293) (by decide +kernel)⟩
theorem lw_p20 : lw_okq (⟨"BarcodeEngineModel", "areCharacters", "(II)Z"⟩, 33) := ⟨⟨by decide +kernel, by decide +kernel⟩, List.mem_of_getElem? (i := 1167) (by decide +kernel), List.mem_of_getElem? (i := 1305) (by decide +kernel), List.mem_of_getElem? (i := 1306) (by decide +kernel)⟩
theorem lw_p21 : lw_okq (⟨"BarcodeEngineModel", "laysModules", "(II)V"⟩, 33) := ⟨⟨by decide +kernel, by decide +kernel⟩, List.mem_of_getElem? (i := 1167) (by decide +kernel), List.mem_of_getElem? (i := 1321) (by decide +kernel), List.mem_of_getElem? (i := 1322) (by decide +kernel)⟩
theorem lw_p22 : lw_okq (⟨"BarcodeEngineModel", "laysEan", "()V"⟩, 33) := ⟨⟨by decide +kernel, by decide +kernel⟩, List.mem_of_getElem? (i := 1167) (by decide +kernel), List.mem_of_getElem? (i := 1325) (by decide +kernel), List.mem_of_getElem? (i := 1326) (by decide +kernel)⟩
theorem lw_p23 : lw_okq (⟨"BarcodeEngineModel", "laysOnes", "(I)V"⟩, 33) := ⟨⟨by decide +kernel, by decide +kernel⟩, List.mem_of_getElem? (i := 1167) (by decide +kernel), List.mem_of_getElem? (i := 1329) (by decide +kernel), List.mem_of_getElem? (i := 1330) (by decide +kernel)⟩
theorem lw_p24 : lw_okq (⟨"BarcodeEngineModel", "lays", "(I)V"⟩, 33) := ⟨⟨by decide +kernel, by decide +kernel⟩, List.mem_of_getElem? (i := 1167) (by decide +kernel), List.mem_of_getElem? (i := 1333) (by decide +kernel), List.mem_of_getElem? (i := 1334) (by decide +kernel)⟩
theorem lw_p25 : lw_okq (⟨"BarcodeEngineModel", "laysPairs", "(I)V"⟩, 33) := ⟨⟨by decide +kernel, by decide +kernel⟩, List.mem_of_getElem? (i := 1167) (by decide +kernel), List.mem_of_getElem? (i := 1337) (by decide +kernel), List.mem_of_getElem? (i := 1338) (by decide +kernel)⟩
theorem lw_p26 : lw_okq (⟨"BarcodeEngineModel", "laysCodabar", "(I)V"⟩, 33) := ⟨⟨by decide +kernel, by decide +kernel⟩, List.mem_of_getElem? (i := 1167) (by decide +kernel), List.mem_of_getElem? (i := 1344) (by decide +kernel), List.mem_of_getElem? (i := 1345) (by decide +kernel)⟩
theorem lw_p27 : lw_okq (⟨"BarcodeEngineModel", "isScan", "(I)Z"⟩, 33) := ⟨⟨by decide +kernel, by decide +kernel⟩, List.mem_of_getElem? (i := 1167) (by decide +kernel), List.mem_of_getElem? (i := 1373) (by decide +kernel), List.mem_of_getElem? (i := 1374) (by decide +kernel)⟩
theorem lw_p28 : lw_okq (⟨"BarcodeEngineModel", "hasWidth", "(II)Z"⟩, 33) := ⟨⟨by decide +kernel, by decide +kernel⟩, List.mem_of_getElem? (i := 1167) (by decide +kernel), List.mem_of_getElem? (i := 1381) (by decide +kernel), List.mem_of_getElem? (i := 1382) (by decide +kernel)⟩
theorem lw_p29 : lw_okq (⟨"BarcodeEngineModel", "laysRow", "(IZ)V"⟩, 33) := ⟨⟨by decide +kernel, by decide +kernel⟩, List.mem_of_getElem? (i := 1167) (by decide +kernel), List.mem_of_getElem? (i := 1397) (by decide +kernel), List.mem_of_getElem? (i := 1398) (by decide +kernel)⟩
theorem lw_p30 : lw_okq (⟨"BarcodeEngineModel", "reads", "(II)Z"⟩, 33) := ⟨⟨by decide +kernel, by decide +kernel⟩, List.mem_of_getElem? (i := 1167) (by decide +kernel), List.mem_of_getElem? (i := 1419) (by decide +kernel), List.mem_of_getElem? (i := 1420) (by decide +kernel)⟩
theorem lw_p31 : lw_okq (⟨"BarcodeEngineModel", "readsScan", "(II)V"⟩, 33) := ⟨⟨by decide +kernel, by decide +kernel⟩, List.mem_of_getElem? (i := 1167) (by decide +kernel), List.mem_of_getElem? (i := 1423) (by decide +kernel), List.mem_of_getElem? (i := 1424) (by decide +kernel)⟩
def lw_privs_2 : List (MethodName × Nat) := [(⟨"BarcodeEngine", "requireScan", "(I)V"⟩, 12), (⟨"BarcodeEngine", "reading", "(II)LBarcodeEngine$Reading;"⟩, 12), (⟨"BarcodeEngine", "drawWhole", "(LBarcodeEngine$Symbology;LBarcodeEngine$Reading;)V"⟩, 12), (⟨"BarcodeEngineModel", "canPrint", "(IIII)Z"⟩, 33), (⟨"BarcodeEngineModel", "areCharacters", "(II)Z"⟩, 33), (⟨"BarcodeEngineModel", "laysModules", "(II)V"⟩, 33), (⟨"BarcodeEngineModel", "laysEan", "()V"⟩, 33), (⟨"BarcodeEngineModel", "laysOnes", "(I)V"⟩, 33), (⟨"BarcodeEngineModel", "lays", "(I)V"⟩, 33), (⟨"BarcodeEngineModel", "laysPairs", "(I)V"⟩, 33), (⟨"BarcodeEngineModel", "laysCodabar", "(I)V"⟩, 33), (⟨"BarcodeEngineModel", "isScan", "(I)Z"⟩, 33), (⟨"BarcodeEngineModel", "hasWidth", "(II)Z"⟩, 33), (⟨"BarcodeEngineModel", "laysRow", "(IZ)V"⟩, 33), (⟨"BarcodeEngineModel", "reads", "(II)Z"⟩, 33), (⟨"BarcodeEngineModel", "readsScan", "(II)V"⟩, 33)]
theorem lw_r2 : ∀ q ∈ lw_privs_2, lw_okq q := List.forall_mem_cons.mpr ⟨lw_p16, List.forall_mem_cons.mpr ⟨lw_p17, List.forall_mem_cons.mpr ⟨lw_p18, List.forall_mem_cons.mpr ⟨lw_p19, List.forall_mem_cons.mpr ⟨lw_p20, List.forall_mem_cons.mpr ⟨lw_p21, List.forall_mem_cons.mpr ⟨lw_p22, List.forall_mem_cons.mpr ⟨lw_p23, List.forall_mem_cons.mpr ⟨lw_p24, List.forall_mem_cons.mpr ⟨lw_p25, List.forall_mem_cons.mpr ⟨lw_p26, List.forall_mem_cons.mpr ⟨lw_p27, List.forall_mem_cons.mpr ⟨lw_p28, List.forall_mem_cons.mpr ⟨lw_p29, List.forall_mem_cons.mpr ⟨lw_p30, List.forall_mem_cons.mpr ⟨lw_p31, fun _ h => absurd h List.not_mem_nil⟩⟩⟩⟩⟩⟩⟩⟩⟩⟩⟩⟩⟩⟩⟩⟩
theorem lw_p32 : lw_okq (⟨"BarcodeEngineModel", "isWhole", "(II)Z"⟩, 33) := ⟨⟨by decide +kernel, by decide +kernel⟩, List.mem_of_getElem? (i := 1167) (by decide +kernel), List.mem_of_getElem? (i := 1427) (by decide +kernel), List.mem_of_getElem? (i := 1428) (by decide +kernel)⟩
theorem lw_p33 : lw_okq (⟨"BarcodeEngineModel", "isWholeFrom", "(II)Z"⟩, 33) := ⟨⟨by decide +kernel, by decide +kernel⟩, List.mem_of_getElem? (i := 1167) (by decide +kernel), List.mem_of_getElem? (i := 1431) (by decide +kernel), List.mem_of_getElem? (i := 1432) (by decide +kernel)⟩
theorem lw_p34 : lw_okq (⟨"BarcodeEngineModel", "isBeginning", "(II)Z"⟩, 33) := ⟨⟨by decide +kernel, by decide +kernel⟩, List.mem_of_getElem? (i := 1167) (by decide +kernel), List.mem_of_getElem? (i := 1435) (by decide +kernel), List.mem_of_getElem? (i := 1436) (by decide +kernel)⟩
theorem lw_p35 : lw_okq (⟨"BarcodeEngineModel", "exists", "(II)Z"⟩, 33) := ⟨⟨by decide +kernel, by decide +kernel⟩, List.mem_of_getElem? (i := 1167) (by decide +kernel), List.mem_of_getElem? (i := 1442) (by decide +kernel), List.mem_of_getElem? (i := 1443) (by decide +kernel)⟩
theorem lw_p36 : lw_okq (⟨"BarcodeEngineModel", "sevenAt", "(I)I"⟩, 33) := ⟨⟨by decide +kernel, by decide +kernel⟩, List.mem_of_getElem? (i := 1167) (by decide +kernel), List.mem_of_getElem? (i := 1446) (by decide +kernel), List.mem_of_getElem? (i := 1447) (by decide +kernel)⟩
theorem lw_p37 : lw_okq (⟨"BarcodeEngineModel", "readsWides", "(III)Z"⟩, 33) := ⟨⟨by decide +kernel, by decide +kernel⟩, List.mem_of_getElem? (i := 1167) (by decide +kernel), List.mem_of_getElem? (i := 1450) (by decide +kernel), List.mem_of_getElem? (i := 1451) (by decide +kernel)⟩
theorem lw_p38 : lw_okq (⟨"BarcodeEngineModel", "areEven", "(II)Z"⟩, 33) := ⟨⟨by decide +kernel, by decide +kernel⟩, List.mem_of_getElem? (i := 1167) (by decide +kernel), List.mem_of_getElem? (i := 1454) (by decide +kernel), List.mem_of_getElem? (i := 1455) (by decide +kernel)⟩
theorem lw_p39 : lw_okq (⟨"BarcodeEngineModel", "leastOf", "(II)I"⟩, 33) := ⟨⟨by decide +kernel, by decide +kernel⟩, List.mem_of_getElem? (i := 1167) (by decide +kernel), List.mem_of_getElem? (i := 1458) (by decide +kernel), List.mem_of_getElem? (i := 1459) (by decide +kernel)⟩
theorem lw_p40 : lw_okq (⟨"BarcodeEngineModel", "isWholeEan", "(I)Z"⟩, 33) := ⟨⟨by decide +kernel, by decide +kernel⟩, List.mem_of_getElem? (i := 1167) (by decide +kernel), List.mem_of_getElem? (i := 1462) (by decide +kernel), List.mem_of_getElem? (i := 1463) (by decide +kernel)⟩
theorem lw_p41 : lw_okq (⟨"BarcodeEngineModel", "readsDigits", "(I)Z"⟩, 33) := ⟨⟨by decide +kernel, by decide +kernel⟩, List.mem_of_getElem? (i := 1167) (by decide +kernel), List.mem_of_getElem? (i := 1466) (by decide +kernel), List.mem_of_getElem? (i := 1467) (by decide +kernel)⟩
theorem lw_p42 : lw_okq (⟨"BarcodeEngineModel", "readsDigit", "(I)Z"⟩, 33) := ⟨⟨by decide +kernel, by decide +kernel⟩, List.mem_of_getElem? (i := 1167) (by decide +kernel), List.mem_of_getElem? (i := 1470) (by decide +kernel), List.mem_of_getElem? (i := 1471) (by decide +kernel)⟩
theorem lw_p43 : lw_okq (⟨"BarcodeEngineModel", "signsOne", "(II)V"⟩, 33) := ⟨⟨by decide +kernel, by decide +kernel⟩, List.mem_of_getElem? (i := 1167) (by decide +kernel), List.mem_of_getElem? (i := 1483) (by decide +kernel), List.mem_of_getElem? (i := 1484) (by decide +kernel)⟩
theorem lw_p44 : lw_okq (⟨"BarcodeEngineModel", "isEnd", "(II)Z"⟩, 33) := ⟨⟨by decide +kernel, by decide +kernel⟩, List.mem_of_getElem? (i := 1167) (by decide +kernel), List.mem_of_getElem? (i := 1487) (by decide +kernel), List.mem_of_getElem? (i := 1488) (by decide +kernel)⟩
theorem lw_p45 : lw_okq (⟨"BarcodeEngineModel", "isWholePairs", "(I)Z"⟩, 33) := ⟨⟨by decide +kernel, by decide +kernel⟩, List.mem_of_getElem? (i := 1167) (by decide +kernel), List.mem_of_getElem? (i := 1494) (by decide +kernel), List.mem_of_getElem? (i := 1495) (by decide +kernel)⟩
theorem lw_p46 : lw_okq (⟨"BarcodeEngineModel", "readsPair", "(I)Z"⟩, 33) := ⟨⟨by decide +kernel, by decide +kernel⟩, List.mem_of_getElem? (i := 1167) (by decide +kernel), List.mem_of_getElem? (i := 1498) (by decide +kernel), List.mem_of_getElem? (i := 1499) (by decide +kernel)⟩
theorem lw_p47 : lw_okq (⟨"BarcodeEngineModel", "readsFive", "(I)Z"⟩, 33) := ⟨⟨by decide +kernel, by decide +kernel⟩, List.mem_of_getElem? (i := 1167) (by decide +kernel), List.mem_of_getElem? (i := 1502) (by decide +kernel), List.mem_of_getElem? (i := 1503) (by decide +kernel)⟩
def lw_privs_3 : List (MethodName × Nat) := [(⟨"BarcodeEngineModel", "isWhole", "(II)Z"⟩, 33), (⟨"BarcodeEngineModel", "isWholeFrom", "(II)Z"⟩, 33), (⟨"BarcodeEngineModel", "isBeginning", "(II)Z"⟩, 33), (⟨"BarcodeEngineModel", "exists", "(II)Z"⟩, 33), (⟨"BarcodeEngineModel", "sevenAt", "(I)I"⟩, 33), (⟨"BarcodeEngineModel", "readsWides", "(III)Z"⟩, 33), (⟨"BarcodeEngineModel", "areEven", "(II)Z"⟩, 33), (⟨"BarcodeEngineModel", "leastOf", "(II)I"⟩, 33), (⟨"BarcodeEngineModel", "isWholeEan", "(I)Z"⟩, 33), (⟨"BarcodeEngineModel", "readsDigits", "(I)Z"⟩, 33), (⟨"BarcodeEngineModel", "readsDigit", "(I)Z"⟩, 33), (⟨"BarcodeEngineModel", "signsOne", "(II)V"⟩, 33), (⟨"BarcodeEngineModel", "isEnd", "(II)Z"⟩, 33), (⟨"BarcodeEngineModel", "isWholePairs", "(I)Z"⟩, 33), (⟨"BarcodeEngineModel", "readsPair", "(I)Z"⟩, 33), (⟨"BarcodeEngineModel", "readsFive", "(I)Z"⟩, 33)]
theorem lw_r3 : ∀ q ∈ lw_privs_3, lw_okq q := List.forall_mem_cons.mpr ⟨lw_p32, List.forall_mem_cons.mpr ⟨lw_p33, List.forall_mem_cons.mpr ⟨lw_p34, List.forall_mem_cons.mpr ⟨lw_p35, List.forall_mem_cons.mpr ⟨lw_p36, List.forall_mem_cons.mpr ⟨lw_p37, List.forall_mem_cons.mpr ⟨lw_p38, List.forall_mem_cons.mpr ⟨lw_p39, List.forall_mem_cons.mpr ⟨lw_p40, List.forall_mem_cons.mpr ⟨lw_p41, List.forall_mem_cons.mpr ⟨lw_p42, List.forall_mem_cons.mpr ⟨lw_p43, List.forall_mem_cons.mpr ⟨lw_p44, List.forall_mem_cons.mpr ⟨lw_p45, List.forall_mem_cons.mpr ⟨lw_p46, List.forall_mem_cons.mpr ⟨lw_p47, fun _ h => absurd h List.not_mem_nil⟩⟩⟩⟩⟩⟩⟩⟩⟩⟩⟩⟩⟩⟩⟩⟩
theorem lw_p48 : lw_okq (⟨"BarcodeEngineModel", "isWholeCodabar", "(I)Z"⟩, 33) := ⟨⟨by decide +kernel, by decide +kernel⟩, List.mem_of_getElem? (i := 1167) (by decide +kernel), List.mem_of_getElem? (i := 1506) (by decide +kernel), List.mem_of_getElem? (i := 1507) (by decide +kernel)⟩
theorem lw_p49 : lw_okq (⟨"BarcodeEngineModel", "readsSeven", "(IZ)Z"⟩, 33) := ⟨⟨by decide +kernel, by decide +kernel⟩, List.mem_of_getElem? (i := 1167) (by decide +kernel), List.mem_of_getElem? (i := 1510) (by decide +kernel), List.mem_of_getElem? (i := 1511) (by decide +kernel)⟩
theorem lw_p50 : lw_okq (⟨"BarcodeEngineModel", "keeps", "(II)V"⟩, 33) := ⟨⟨by decide +kernel, by decide +kernel⟩, List.mem_of_getElem? (i := 1167) (by decide +kernel), List.mem_of_getElem? (i := 1514) (by decide +kernel), List.mem_of_getElem? (i := 1515) (by decide +kernel)⟩
theorem lw_p51 : lw_okq (⟨"BarcodeEngineModel", "hasParts", "(II)Z"⟩, 33) := ⟨⟨by decide +kernel, by decide +kernel⟩, List.mem_of_getElem? (i := 1167) (by decide +kernel), List.mem_of_getElem? (i := 1518) (by decide +kernel), List.mem_of_getElem? (i := 1519) (by decide +kernel)⟩
theorem lw_p52 : lw_okq (⟨"BarcodeEngineModel", "readsHead", "(II)V"⟩, 33) := ⟨⟨by decide +kernel, by decide +kernel⟩, List.mem_of_getElem? (i := 1167) (by decide +kernel), List.mem_of_getElem? (i := 1522) (by decide +kernel), List.mem_of_getElem? (i := 1523) (by decide +kernel)⟩
theorem lw_p53 : lw_okq (⟨"BarcodeEngineModel", "readsTail", "(II)V"⟩, 33) := ⟨⟨by decide +kernel, by decide +kernel⟩, List.mem_of_getElem? (i := 1167) (by decide +kernel), List.mem_of_getElem? (i := 1526) (by decide +kernel), List.mem_of_getElem? (i := 1527) (by decide +kernel)⟩
theorem lw_p54 : lw_okq (⟨"BarcodeEngineModel", "partsTo", "(II)I"⟩, 33) := ⟨⟨by decide +kernel, by decide +kernel⟩, List.mem_of_getElem? (i := 1167) (by decide +kernel), List.mem_of_getElem? (i := 1530) (by decide +kernel), List.mem_of_getElem? (i := 1531) (by decide +kernel)⟩
theorem lw_p55 : lw_okq (⟨"BarcodeEngineModel", "manyOf", "(II)I"⟩, 33) := ⟨⟨by decide +kernel, by decide +kernel⟩, List.mem_of_getElem? (i := 1167) (by decide +kernel), List.mem_of_getElem? (i := 1534) (by decide +kernel), List.mem_of_getElem? (i := 1535) (by decide +kernel)⟩
theorem lw_p56 : lw_okq (⟨"BarcodeEngineModel", "has", "(IIII)Z"⟩, 33) := ⟨⟨by decide +kernel, by decide +kernel⟩, List.mem_of_getElem? (i := 1167) (by decide +kernel), List.mem_of_getElem? (i := 1546) (by decide +kernel), List.mem_of_getElem? (i := 1547) (by decide +kernel)⟩
theorem lw_p57 : lw_okq (⟨"BarcodeEngineModel", "signOf", "(III)I"⟩, 33) := ⟨⟨by decide +kernel, by decide +kernel⟩, List.mem_of_getElem? (i := 1167) (by decide +kernel), List.mem_of_getElem? (i := 1550) (by decide +kernel), List.mem_of_getElem? (i := 1551) (by decide +kernel)⟩
theorem lw_p58 : lw_okq (⟨"BarcodeEngineModel", "weightOf", "(III)I"⟩, 33) := ⟨⟨by decide +kernel, by decide +kernel⟩, List.mem_of_getElem? (i := 1167) (by decide +kernel), List.mem_of_getElem? (i := 1558) (by decide +kernel), List.mem_of_getElem? (i := 1559) (by decide +kernel)⟩
theorem lw_p59 : lw_okq (⟨"BarcodeEngineModel", "measures", "(II)Z"⟩, 33) := ⟨⟨by decide +kernel, by decide +kernel⟩, List.mem_of_getElem? (i := 1167) (by decide +kernel), List.mem_of_getElem? (i := 1574) (by decide +kernel), List.mem_of_getElem? (i := 1575) (by decide +kernel)⟩
theorem lw_p60 : lw_okq (⟨"BarcodeEngineModel", "readsAll", "(I)V"⟩, 33) := ⟨⟨by decide +kernel, by decide +kernel⟩, List.mem_of_getElem? (i := 1167) (by decide +kernel), List.mem_of_getElem? (i := 1586) (by decide +kernel), List.mem_of_getElem? (i := 1587) (by decide +kernel)⟩
theorem lw_p61 : lw_okq (⟨"BarcodeEngineModel", "mostOverlap", "(II)I"⟩, 33) := ⟨⟨by decide +kernel, by decide +kernel⟩, List.mem_of_getElem? (i := 1167) (by decide +kernel), List.mem_of_getElem? (i := 1594) (by decide +kernel), List.mem_of_getElem? (i := 1595) (by decide +kernel)⟩
theorem lw_p62 : lw_okq (⟨"BarcodeEngineModel", "overlaps", "(III)Z"⟩, 33) := ⟨⟨by decide +kernel, by decide +kernel⟩, List.mem_of_getElem? (i := 1167) (by decide +kernel), List.mem_of_getElem? (i := 1598) (by decide +kernel), List.mem_of_getElem? (i := 1599) (by decide +kernel)⟩
theorem lw_p63 : lw_okq (⟨"BarcodeEngineModel", "mergesNow", "(III)I"⟩, 33) := ⟨⟨by decide +kernel, by decide +kernel⟩, List.mem_of_getElem? (i := 1167) (by decide +kernel), List.mem_of_getElem? (i := 1606) (by decide +kernel), List.mem_of_getElem? (i := 1607) (by decide +kernel)⟩
def lw_privs_4 : List (MethodName × Nat) := [(⟨"BarcodeEngineModel", "isWholeCodabar", "(I)Z"⟩, 33), (⟨"BarcodeEngineModel", "readsSeven", "(IZ)Z"⟩, 33), (⟨"BarcodeEngineModel", "keeps", "(II)V"⟩, 33), (⟨"BarcodeEngineModel", "hasParts", "(II)Z"⟩, 33), (⟨"BarcodeEngineModel", "readsHead", "(II)V"⟩, 33), (⟨"BarcodeEngineModel", "readsTail", "(II)V"⟩, 33), (⟨"BarcodeEngineModel", "partsTo", "(II)I"⟩, 33), (⟨"BarcodeEngineModel", "manyOf", "(II)I"⟩, 33), (⟨"BarcodeEngineModel", "has", "(IIII)Z"⟩, 33), (⟨"BarcodeEngineModel", "signOf", "(III)I"⟩, 33), (⟨"BarcodeEngineModel", "weightOf", "(III)I"⟩, 33), (⟨"BarcodeEngineModel", "measures", "(II)Z"⟩, 33), (⟨"BarcodeEngineModel", "readsAll", "(I)V"⟩, 33), (⟨"BarcodeEngineModel", "mostOverlap", "(II)I"⟩, 33), (⟨"BarcodeEngineModel", "overlaps", "(III)Z"⟩, 33), (⟨"BarcodeEngineModel", "mergesNow", "(III)I"⟩, 33)]
theorem lw_r4 : ∀ q ∈ lw_privs_4, lw_okq q := List.forall_mem_cons.mpr ⟨lw_p48, List.forall_mem_cons.mpr ⟨lw_p49, List.forall_mem_cons.mpr ⟨lw_p50, List.forall_mem_cons.mpr ⟨lw_p51, List.forall_mem_cons.mpr ⟨lw_p52, List.forall_mem_cons.mpr ⟨lw_p53, List.forall_mem_cons.mpr ⟨lw_p54, List.forall_mem_cons.mpr ⟨lw_p55, List.forall_mem_cons.mpr ⟨lw_p56, List.forall_mem_cons.mpr ⟨lw_p57, List.forall_mem_cons.mpr ⟨lw_p58, List.forall_mem_cons.mpr ⟨lw_p59, List.forall_mem_cons.mpr ⟨lw_p60, List.forall_mem_cons.mpr ⟨lw_p61, List.forall_mem_cons.mpr ⟨lw_p62, List.forall_mem_cons.mpr ⟨lw_p63, fun _ h => absurd h List.not_mem_nil⟩⟩⟩⟩⟩⟩⟩⟩⟩⟩⟩⟩⟩⟩⟩⟩
theorem lw_p64 : lw_okq (⟨"BarcodeEngineModel", "merges", "(III)I"⟩, 33) := ⟨⟨by decide +kernel, by decide +kernel⟩, List.mem_of_getElem? (i := 1167) (by decide +kernel), List.mem_of_getElem? (i := 1610) (by decide +kernel), List.mem_of_getElem? (i := 1611) (by decide +kernel)⟩
theorem lw_p65 : lw_okq (⟨"BarcodeEngineModel", "leastWeight", "(I)I"⟩, 33) := ⟨⟨by decide +kernel, by decide +kernel⟩, List.mem_of_getElem? (i := 1167) (by decide +kernel), List.mem_of_getElem? (i := 1622) (by decide +kernel), List.mem_of_getElem? (i := 1623) (by decide +kernel)⟩
theorem lw_p66 : lw_okq (⟨"BarcodeEngineModel", "lengthOf", "(I)I"⟩, 33) := ⟨⟨by decide +kernel, by decide +kernel⟩, List.mem_of_getElem? (i := 1167) (by decide +kernel), List.mem_of_getElem? (i := 1630) (by decide +kernel), List.mem_of_getElem? (i := 1631) (by decide +kernel)⟩
theorem lw_p67 : lw_okq (⟨"BarcodeEngineModel", "wholeLength", "()I"⟩, 33) := ⟨⟨by decide +kernel, by decide +kernel⟩, List.mem_of_getElem? (i := 1167) (by decide +kernel), List.mem_of_getElem? (i := 1634) (by decide +kernel), List.mem_of_getElem? (i := 1635) (by decide +kernel)⟩
theorem lw_p68 : lw_okq (⟨"BarcodeEngineModel", "hasAny", "(I)Z"⟩, 33) := ⟨⟨by decide +kernel, by decide +kernel⟩, List.mem_of_getElem? (i := 1167) (by decide +kernel), List.mem_of_getElem? (i := 1638) (by decide +kernel), List.mem_of_getElem? (i := 1639) (by decide +kernel)⟩
theorem lw_p69 : lw_okq (⟨"BarcodeEngineModel", "longestMerge", "(I)I"⟩, 33) := ⟨⟨by decide +kernel, by decide +kernel⟩, List.mem_of_getElem? (i := 1167) (by decide +kernel), List.mem_of_getElem? (i := 1642) (by decide +kernel), List.mem_of_getElem? (i := 1643) (by decide +kernel)⟩
theorem lw_p70 : lw_okq (⟨"BarcodeEngineModel", "hasPlace", "(II)Z"⟩, 33) := ⟨⟨by decide +kernel, by decide +kernel⟩, List.mem_of_getElem? (i := 1167) (by decide +kernel), List.mem_of_getElem? (i := 1650) (by decide +kernel), List.mem_of_getElem? (i := 1651) (by decide +kernel)⟩
theorem lw_p71 : lw_okq (⟨"BarcodeEngineModel", "laysVotes", "(I)I"⟩, 33) := ⟨⟨by decide +kernel, by decide +kernel⟩, List.mem_of_getElem? (i := 1167) (by decide +kernel), List.mem_of_getElem? (i := 1654) (by decide +kernel), List.mem_of_getElem? (i := 1655) (by decide +kernel)⟩
theorem lw_p72 : lw_okq (⟨"BarcodeEngineModel", "adds", "(III)V"⟩, 33) := ⟨⟨by decide +kernel, by decide +kernel⟩, List.mem_of_getElem? (i := 1167) (by decide +kernel), List.mem_of_getElem? (i := 1658) (by decide +kernel), List.mem_of_getElem? (i := 1659) (by decide +kernel)⟩
theorem lw_p73 : lw_okq (⟨"BarcodeEngineModel", "allAt", "(I)I"⟩, 33) := ⟨⟨by decide +kernel, by decide +kernel⟩, List.mem_of_getElem? (i := 1167) (by decide +kernel), List.mem_of_getElem? (i := 1662) (by decide +kernel), List.mem_of_getElem? (i := 1663) (by decide +kernel)⟩
theorem lw_p74 : lw_okq (⟨"BarcodeEngineModel", "votedAt", "(I)I"⟩, 33) := ⟨⟨by decide +kernel, by decide +kernel⟩, List.mem_of_getElem? (i := 1167) (by decide +kernel), List.mem_of_getElem? (i := 1671) (by decide +kernel), List.mem_of_getElem? (i := 1672) (by decide +kernel)⟩
theorem lw_p75 : lw_okq (⟨"BarcodeEngineModel", "problemOf", "(I)I"⟩, 33) := ⟨⟨by decide +kernel, by decide +kernel⟩, List.mem_of_getElem? (i := 1167) (by decide +kernel), List.mem_of_getElem? (i := 1683) (by decide +kernel), List.mem_of_getElem? (i := 1684) (by decide +kernel)⟩
theorem lw_p76 : lw_okq (⟨"BarcodeEngineModel", "doubtFrom", "(II)I"⟩, 33) := ⟨⟨by decide +kernel, by decide +kernel⟩, List.mem_of_getElem? (i := 1167) (by decide +kernel), List.mem_of_getElem? (i := 1687) (by decide +kernel), List.mem_of_getElem? (i := 1688) (by decide +kernel)⟩
theorem lw_p77 : lw_okq (⟨"BarcodeEngineModel", "isRight", "(IIII)Z"⟩, 33) := ⟨⟨by decide +kernel, by decide +kernel⟩, List.mem_of_getElem? (i := 1167) (by decide +kernel), List.mem_of_getElem? (i := 1691) (by decide +kernel), List.mem_of_getElem? (i := 1692) (by decide +kernel)⟩
theorem lw_p78 : lw_okq (⟨"BarcodeEngineModel", "shareOf", "(I)I"⟩, 33) := ⟨⟨by decide +kernel, by decide +kernel⟩, List.mem_of_getElem? (i := 1167) (by decide +kernel), List.mem_of_getElem? (i := 1707) (by decide +kernel), List.mem_of_getElem? (i := 1708) (by decide +kernel)⟩
def lw_privs_5 : List (MethodName × Nat) := [(⟨"BarcodeEngineModel", "merges", "(III)I"⟩, 33), (⟨"BarcodeEngineModel", "leastWeight", "(I)I"⟩, 33), (⟨"BarcodeEngineModel", "lengthOf", "(I)I"⟩, 33), (⟨"BarcodeEngineModel", "wholeLength", "()I"⟩, 33), (⟨"BarcodeEngineModel", "hasAny", "(I)Z"⟩, 33), (⟨"BarcodeEngineModel", "longestMerge", "(I)I"⟩, 33), (⟨"BarcodeEngineModel", "hasPlace", "(II)Z"⟩, 33), (⟨"BarcodeEngineModel", "laysVotes", "(I)I"⟩, 33), (⟨"BarcodeEngineModel", "adds", "(III)V"⟩, 33), (⟨"BarcodeEngineModel", "allAt", "(I)I"⟩, 33), (⟨"BarcodeEngineModel", "votedAt", "(I)I"⟩, 33), (⟨"BarcodeEngineModel", "problemOf", "(I)I"⟩, 33), (⟨"BarcodeEngineModel", "doubtFrom", "(II)I"⟩, 33), (⟨"BarcodeEngineModel", "isRight", "(IIII)Z"⟩, 33), (⟨"BarcodeEngineModel", "shareOf", "(I)I"⟩, 33)]
theorem lw_r5 : ∀ q ∈ lw_privs_5, lw_okq q := List.forall_mem_cons.mpr ⟨lw_p64, List.forall_mem_cons.mpr ⟨lw_p65, List.forall_mem_cons.mpr ⟨lw_p66, List.forall_mem_cons.mpr ⟨lw_p67, List.forall_mem_cons.mpr ⟨lw_p68, List.forall_mem_cons.mpr ⟨lw_p69, List.forall_mem_cons.mpr ⟨lw_p70, List.forall_mem_cons.mpr ⟨lw_p71, List.forall_mem_cons.mpr ⟨lw_p72, List.forall_mem_cons.mpr ⟨lw_p73, List.forall_mem_cons.mpr ⟨lw_p74, List.forall_mem_cons.mpr ⟨lw_p75, List.forall_mem_cons.mpr ⟨lw_p76, List.forall_mem_cons.mpr ⟨lw_p77, List.forall_mem_cons.mpr ⟨lw_p78, fun _ h => absurd h List.not_mem_nil⟩⟩⟩⟩⟩⟩⟩⟩⟩⟩⟩⟩⟩⟩⟩
def lw_privs : List (MethodName × Nat) := lw_privs_1 ++ (lw_privs_2 ++ (lw_privs_3 ++ (lw_privs_4 ++ (lw_privs_5))))
def lw_tbl : List Cond := k2_sels lw_privs ++ tables_1
theorem lw_privs_ok : ∀ q ∈ lw_privs, lw_okq q := by
  show ∀ q ∈ lw_privs_1 ++ (lw_privs_2 ++ (lw_privs_3 ++ (lw_privs_4 ++ (lw_privs_5)))), lw_okq q
  exact List.forall_mem_append.mpr ⟨lw_r1, List.forall_mem_append.mpr ⟨lw_r2, List.forall_mem_append.mpr ⟨lw_r3, List.forall_mem_append.mpr ⟨lw_r4, lw_r5⟩⟩⟩⟩
-- ===== end of PART A; then your names; then what follows =====
/-! ===== BEGIN words of one list among another's, by their places ===== -/
theorem goodIn_r {big : List Cond} (ws : List Cond) (ps : List Nat) (hp : ws = ps.filterMap (fun i => big[i]?)) (h : ws.all goodWord = true) : GoodIn big ws := by
  intro w hw
  have h1 := List.all_eq_true.mp h w hw
  rw [hp] at hw
  obtain ⟨i, -, hi⟩ := List.mem_filterMap.mp hw
  have hm : w ∈ big := by first | exact List.mem_of_getElem? hi | exact List.getElem?_mem hi
  exact ⟨hm, good_of_word h1⟩
theorem goodIn_app {big a b : List Cond} (ha : GoodIn big a) (hb : GoodIn big b) : GoodIn big (a ++ b) := fun w h => (List.mem_append.mp h).elim (ha w) (hb w)
theorem goodIn_ca {big a b : List Cond} {c : Cond} (ha : GoodIn big (c :: a)) (hb : GoodIn big b) : GoodIn big (c :: (a ++ b)) := fun w h => (List.mem_cons.mp h).elim (fun e => ha w (List.mem_cons.mpr (Or.inl e))) (fun h => (List.mem_append.mp h).elim (fun h => ha w (List.mem_cons.mpr (Or.inr h))) (hb w))
theorem goodIn_sub {big ws : List Cond} (hm : ∀ w ∈ ws, w ∈ big) (h : ws.all goodWord = true) : GoodIn big ws := fun w hw => ⟨hm w hw, good_of_word (List.all_eq_true.mp h w hw)⟩
/-! ===== END ===== -/

/-! ===== BEGIN exceptions that leave a method, and their catching by the caller (launches without stack traces) ===== -/
section VXA
/-! The laws vx_back, vx_callV, vx_callS, vx_callSW, vx_throw0, vx_throwS follow proofs of the library, with one case more: JvmDerived/Free/Laws.lean (Back.of_free), Shelf42/LK1.lean (callV, callS), Shelf/KitTraced.lean (throwNew0V, throwNewS). -/
/-- where a method has thrown q: the class by its name, the cell, what was written, the world -/
def vx_T (XC : String → State → State → Prop) (st : State) (q : Addr) (t : State) (mc ms : Nat) (free : Addr → Prop) : Prop :=
  ∃ (E : String) (ce : Cell) (L : List Loc), XC E st t ∧ t.heap[q]? = some ce ∧ ce.vm = .none ∧ st.vm.findClass E = some ce.cls ∧ st.WarmedH t.vm ∧ st.sameButNew ({ t with vm := st.vm } : State) L mc ms ∧ ∀ z ∈ L, free z.base
def vx_Q (Qc : Array Value → State → Outcome → State → Prop) (XC : String → State → State → Prop) (mc ms : Nat) (free : Addr → Prop) : Array Value → State → Outcome → State → Prop := fun a st o t =>
  (Qc a st o t ∧ ∃ L, FrameEnd st o t L mc ms ∧ ∀ q ∈ L, free q.base) ∨ ∃ q, o = .threw q ∧ vx_T XC st q t mc ms free
/-- a callee that returns or throws -/
def vx_Met (l : Launch) (y : MethodName) (ws : List Cond) (rm : Room) (Pc : Array Value → State → Prop) (Qc : Array Value → State → Outcome → State → Prop) (XC : String → State → State → Prop) (mc ms : Nat) (free : Addr → Prop) : Prop :=
  MetFree l y (headSpec ws rm) Pc (fun _ _ _ _ _ => True) (vx_Q Qc XC mc ms free)
def vx_Post (XC : String → State → State → Prop) (mc ms : Nat) (free : Addr → Prop) : Pt → Array Value → Addr → Pt → Prop := fun A a q B =>
  ∃ (g : JFrame) (mk : MethodId) (t : State) (L : List Loc) (E : String) (ce : Cell), B.U.heap = t.heap ∧ B.U.vm = t.vm ∧ XC E (A.U.calling g mk a) t ∧ t.heap[q]? = some ce ∧ ce.vm = .none ∧ A.U.vm.findClass E = some ce.cls ∧ B.locs = A.locs ++ L ∧ (∀ z ∈ L, free z.base) ∧ B.cells = A.cells + mc ∧ B.slots = A.slots + ms
def vx_Back (l : Launch) (R : Room) (p : Program) (e : Env) (below : List Frame) (s : State) (sargs : Array Value) (y : MethodName) (len W9 : Nat)
    (Pre : Pt → Array Value → Prop) (Post : Pt → Array Value → Option Value → Pt → Prop) (PostX : Pt → Array Value → Addr → Pt → Prop) : Prop :=
  ∀ (m : MethodId) (meth : Method) (c : Code) (A : Pt) (g : JFrame) (ig : Instr) (mk : MethodId) (a : Array Value),
    Stand p l e R s m sargs below meth c A.U A.locs A.cells A.slots → g.method = m → g.locals.size = c.maxLocals → decode c.code g.pc = .ok (ig, len) →
    2 * g.monitorRoom + (g.stack.map fun v => v.category).sum ≤ W9 → A.U.methodNamed? y = some mk → Pre A a →
    (∃ (v : Option Value) (B : Pt), Stand p l e R s m sargs below meth c B.U B.locs B.cells B.slots ∧ Post A a v B ∧
      Steps p.tables e below (doInvoke e (A.U.setTop g) [] mk a).1 (B.U.setTop { g with pc := g.pc + len, stack := v.toList ++ g.stack })) ∨
    (∃ (q : Addr) (B : Pt), Stand p l e R s m sargs below meth c B.U B.locs B.cells B.slots ∧ PostX A a q B ∧
      Steps p.tables e below (doInvoke e (A.U.setTop g) [] mk a).1 ((B.U.setTop g).pushFrame (.throwing q)))
section Payer
variable {l : Launch} {R : Room} {p : Program} {e : Env} {below : List Frame} {s : State} {sargs : Array Value} {y : MethodName} {len W9 : Nat}
theorem vx_back {ws : List Cond} {rm : Room} {Pc : Array Value → State → Prop} {Qc : Array Value → State → Outcome → State → Prop} {XC : String → State → State → Prop} {mc ms : Nat} {free : Addr → Prop} {bytes : ByteArray} {maxL : Nat} {ret : Option FieldType}
    (hM : vx_Met l y ws rm Pc Qc XC mc ms free) (hblind : FrameBlind Pc) (hrc : rm.cells = mc) (hrs : rm.slots = ms)
    (hframes : rm.frames + 1 ≤ R.frames) (hlocals : W9 + (maxL + 11) + rm.locals ≤ R.locals)
    (hws : ∀ w ∈ ws, ∀ a' U, s.WarmedH U.vm → w.before a' U = true) (hcode : Cond.code y bytes maxL ret ∈ ws) (hinit : ∀ a' U, s.WarmedH U.vm → (Cond.initialized y.cls).before a' U = true) :
    vx_Back l R p e below s sargs y len W9 (PreOf R mc ms Pc) (PostOf Qc mc ms free) (vx_Post XC mc ms free) := by
  intro m meth c A g ig mk a X hg hsize hdg hW hn hp
  have h1 : (headSpec ws rm).pre.before a A.U = true := atoms_intro fun w hw => hws w hw _ _ X.warmed
  have h2 : (Cond.code y bytes maxL ret).before a A.U = true := hws _ hcode _ _ X.warmed
  have h3 : (Cond.initialized y.cls).before a A.U = true := hinit _ _ X.warmed
  have h4 : A.cells + (headSpec ws rm).room.cells ≤ R.cells := by rw [show (headSpec ws rm).room.cells = mc from hrc]; exact hp.1
  have h5 : A.slots + (headSpec ws rm).room.slots ≤ R.slots := by rw [show (headSpec ws rm).room.slots = ms from hrs]; exact hp.2.1
  have hPc : Pc a (A.U.calling g mk a) := hblind _ _ _ _ hp.2.2
  obtain ⟨U, Ls, c0, s0⟩ := A
  dsimp only [Pt.U, Pt.locs, Pt.cells, Pt.slots] at h1 h2 h3 h4 h5 X hn hPc ⊢
  obtain ⟨methY, cY, hmY, hcY, -, hlY, -, -, -, -⟩ := Cond.code_spec hn h2
  obtain ⟨kY, hkY, -⟩ := className_of_methodNamed hn
  have hinitY : kY.init = .initialized := Cond.initialized_spec (findClass_of_methodNamed hn) hkY h3
  have h : At U g.method c below := by rw [hg]; exact X.here
  have hlocals9 : W9 + (maxL + 11) + (headSpec ws rm).room.locals ≤ R.locals := hlocals
  have happ : (headSpec ws rm).appliesLoose y e.platform (U.calling g mk a) = true :=
    Spec.appliesLoose_calling (g := g) h hdg hn hkY hinitY
      (X.room_calling (g := g) (R' := (headSpec ws rm).room) hsize hmY hcY hframes (by rw [hlY]; omega) h4 h5) h1
  obtain ⟨mid, hmid⟩ := h.above
  have hfr : (U.setTop g).frames = (.java g :: mid) ++ below := by rw [State.frames_setTop' g h.top, hmid]; rfl
  obtain ⟨o, s₂, hsteps, -, hend, hq⟩ := Steps.callFree hM p X.admits X.cas X.clock (acts := []) hfr happ hPc trivial
  have hq' : vx_Q Qc XC mc ms free a (U.calling g mk a) o s₂ := hq
  rw [State.frames_setTop' g h.top] at hend
  obtain ⟨g₀, hg0⟩ := Option.isSome_iff_exists.mp h.top
  obtain ⟨r, hr⟩ := State.topJava?_eq_some.mp hg0
  have hr' : (({ U with heap := s₂.heap, slotsUsed := s₂.slotsUsed } : State).setVm s₂.vm).frames = .java g₀ :: r := hr
  rcases hq' with ⟨hqc, L, hfe, hL⟩ | ⟨q, rfl, E, ce, L, hx, hce, hcv, hcl, hW₂, hsm, hL⟩
  · obtain ⟨⟨v, rfl⟩, hW₂, e2, q2, q3, q4, q5, q6⟩ := id hfe
    have e3 : s₂ = ({ (U.calling g mk a).setFrames s₂.frames with heap := s₂.heap, slotsUsed := s₂.slotsUsed } : State).setVm s₂.vm := by
      have : s₂ = ({ s₂ with vm := (U.calling g mk a).vm } : State).setVm s₂.vm := rfl
      rw [e2] at this
      exact this
    obtain ⟨c₂, i₂, len₂, hc₂, hd₂, hf₂⟩ := hend
    have hW' : U.WarmedH s₂.vm := hW₂
    have hcc : c₂ = c := by
      have h1 : s₂.code? g.method = U.code? g.method := by
        rw [State.code?_eq, State.code?_eq, hW'.alike.method?]
      exact Option.some.inj (hc₂.symm.trans (h1.trans h.code))
    subst hcc
    have hlen : len₂ = len := by rw [hdg] at hd₂; cases hd₂; rfl
    subst hlen
    have hs₂ : s₂ = (({ U with heap := s₂.heap, slotsUsed := s₂.slotsUsed } : State).setVm s₂.vm).setTop { g with pc := g.pc + len₂, stack := v.toList ++ g.stack } := by
      refine e3.trans ?_
      rw [hf₂, State.calling_eq h.top, State.setFrames_setFrames, State.setTop_of_frames _ hr', hr]
      rfl
    have hsame : U.sameButNew ({ U with heap := s₂.heap, slotsUsed := s₂.slotsUsed } : State) L mc ms := by
      refine ⟨?_, q2, q3, q4, q5, q6⟩
      obtain ⟨t, ht, -⟩ := State.frames_cons hr
      show ({ U with heap := s₂.heap, slotsUsed := s₂.slotsUsed } : State) = { U.setFrames U.frames with heap := s₂.heap, slotsUsed := s₂.slotsUsed }
      rw [State.setFrames_self ht]
    subst hg
    refine Or.inl ⟨v, ⟨(({ U with heap := s₂.heap, slotsUsed := s₂.slotsUsed } : State).setVm s₂.vm), Ls ++ L, c0 + mc, s0 + ms⟩,
      ⟨X.admits, X.cas, X.clock, X.frames, X.room, X.hears, X.method, X.code, (X.here.setHeapUsed s₂.heap s₂.slotsUsed).setVm hW'.alike, X.tail, State.WarmedH.trans X.warmed hW', X.limits, X.bytes, X.same.trans (hsame.setVm s.vm)⟩,
      ⟨g, mk, s₂, L, rfl, rfl, hqc, rfl, hL, rfl, rfl⟩, ?_⟩
    show Steps p.tables e below _ ((({ U with heap := s₂.heap, slotsUsed := s₂.slotsUsed } : State).setVm s₂.vm).setTop { g with pc := g.pc + len₂, stack := v.toList ++ g.stack })
    rw [← hs₂]
    exact hsteps
  · obtain ⟨e2, q2, q3, q4, q5, q6⟩ := id hsm
    have e3 : s₂ = ({ (U.calling g mk a).setFrames s₂.frames with heap := s₂.heap, slotsUsed := s₂.slotsUsed } : State).setVm s₂.vm := by
      have : s₂ = ({ s₂ with vm := (U.calling g mk a).vm } : State).setVm s₂.vm := rfl
      rw [e2] at this
      exact this
    have hf₂ : s₂.frames = .throwing q :: .java g :: U.frames.tail := hend
    have hW' : U.WarmedH s₂.vm := hW₂
    have hs₂ : s₂ = ((({ U with heap := s₂.heap, slotsUsed := s₂.slotsUsed } : State).setVm s₂.vm).setTop g).pushFrame (.throwing q) := by
      refine e3.trans ?_
      rw [hf₂, State.calling_eq h.top, State.setFrames_setFrames, State.pushFrame, State.frames_setTop _ hr', State.setTop_of_frames _ hr', State.setFrames_setFrames, hr]
      rfl
    have hsame : U.sameButNew ({ U with heap := s₂.heap, slotsUsed := s₂.slotsUsed } : State) L mc ms := by
      refine ⟨?_, q2, q3, q4, q5, q6⟩
      obtain ⟨t, ht, -⟩ := State.frames_cons hr
      show ({ U with heap := s₂.heap, slotsUsed := s₂.slotsUsed } : State) = { U.setFrames U.frames with heap := s₂.heap, slotsUsed := s₂.slotsUsed }
      rw [State.setFrames_self ht]
    subst hg
    refine Or.inr ⟨q, ⟨(({ U with heap := s₂.heap, slotsUsed := s₂.slotsUsed } : State).setVm s₂.vm), Ls ++ L, c0 + mc, s0 + ms⟩,
      ⟨X.admits, X.cas, X.clock, X.frames, X.room, X.hears, X.method, X.code, (X.here.setHeapUsed s₂.heap s₂.slotsUsed).setVm hW'.alike, X.tail, State.WarmedH.trans X.warmed hW', X.limits, X.bytes, X.same.trans (hsame.setVm s.vm)⟩,
      ⟨g, mk, s₂, L, E, ce, rfl, rfl, hx, hce, hcv, hcl, rfl, hL, rfl, rfl⟩, ?_⟩
    show Steps p.tables e below _ (((({ U with heap := s₂.heap, slotsUsed := s₂.slotsUsed } : State).setVm s₂.vm).setTop g).pushFrame (.throwing q))
    rw [← hs₂]
    exact hsteps
end Payer
section Calls
variable {p : Program} {l : Launch} {e : Env} {R : Room} {s : State} {m : MethodId} {args : Array Value} {below : List Frame} {meth : Method} {c : Code} {T : State} {locs : List Loc} {cells slots : Nat}
theorem vx_callV (X : Stand p l e R s m args below meth c T locs cells slots) (hexec : p.tables.exec = Jvm.exec) {own C : String} {index : Nat} {y : MethodName} {bytes : ByteArray} {maxL : Nat} {ret : Option FieldType}
    (hown : s.vm.findClass own = some m.cls) (hlink : (Cond.methodLink own index y).before args s = true) (hinst : (Cond.instanceMethod y).before args s = true) (hsel : (Cond.selects C y y).before args s = true)
    (hcode : (Cond.code y bytes maxL ret).before args s = true) (hy : y.cls ≠ "java/lang/invoke/MethodHandle" ∧ y.cls ≠ "java/lang/invoke/VarHandle")
    {W9 : Nat} {Pre : Pt → Array Value → Prop} {Post : Pt → Array Value → Option Value → Pt → Prop} {PostX : Pt → Array Value → Addr → Pt → Prop} (hK : vx_Back l R p e below s args y 3 W9 Pre Post PostX)
    {b : Addr} {cellB : Cell} (hcell : T.heap[b]? = some cellB) (hobj : cellB.vm.isStatics = false) (hcls : s.vm.findClass C = some cellB.cls)
    {g : JFrame} (hg : g.method = m) (hsize : g.locals.size = c.maxLocals) {argsL rest : List Value} (hlen : ∀ sig, parseMethodDescriptor y.desc = some sig → argsL.length = sig.parameters.length)
    (hstack : g.stack = argsL.reverse ++ .ref b :: rest) (hW : 2 * g.monitorRoom + (rest.map fun v => v.category).sum ≤ W9) (hdg : decode c.code g.pc = .ok (.invokevirtual index, 3))
    (hpre : ∀ vm₁, s.WarmedH vm₁ → Pre ⟨T.setVm vm₁, locs, cells, slots⟩ (Value.ref b :: argsL).toArray) :
    (∃ (v : Option Value) (vm₁ : Vm) (B : Pt), s.WarmedH vm₁ ∧ Stand p l e R s m args below meth c B.U B.locs B.cells B.slots ∧ Post ⟨T.setVm vm₁, locs, cells, slots⟩ (Value.ref b :: argsL).toArray v B ∧
      ∀ target, Steps p.tables e below (B.U.setTop { g with pc := g.pc + 3, stack := v.toList ++ rest }) target → Steps p.tables e below (T.setTop g) target) ∨
    (∃ (q : Addr) (vm₁ : Vm) (B : Pt), s.WarmedH vm₁ ∧ Stand p l e R s m args below meth c B.U B.locs B.cells B.slots ∧ PostX ⟨T.setVm vm₁, locs, cells, slots⟩ (Value.ref b :: argsL).toArray q B ∧
      Steps p.tables e below (T.setTop g) ((B.U.setTop { g with stack := rest }).pushFrame (.throwing q))) := by
  obtain ⟨mk, methM, hnamed, hmethM, hstM, habM⟩ := Cond.instanceMethod_spec hinst
  obtain ⟨methM', cM, hmethM', -, -, -, -, -, -, hsigM⟩ := Cond.code_spec hnamed hcode
  cases hmethM.symm.trans hmethM'
  obtain ⟨c2, r2, m2, q1, q2, q3, q4, kP, hkP, hkPi⟩ := Cond.selects_spec hsel
  cases hcls.symm.trans q1
  cases (State.methodFound?_of_named hnamed hy).symm.trans q2
  cases hnamed.symm.trans q3
  have hselP : selectMethod e.platform s.vm cellB.cls mk = .method mk := by rw [Launch.admits_selectMethod X.admits]; exact q4
  obtain ⟨vm₁, X₁, hstep₁⟩ := X.invokevirtual hexec hown hlink hnamed hmethM hstM hkP hkPi hy (a := b) (cell := cellB) hcell
    (fun z h => by rw [h] at hobj; cases hobj) hselP hmethM habM hkP hkPi (g := g) hg (argsL := argsL) (rest := rest) (hlen _ hsigM) hstack hdg
  rcases hK m meth c ⟨T.setVm vm₁, locs, cells, slots⟩ { g with stack := rest } (.invokevirtual index) mk (Value.ref b :: argsL).toArray X₁ hg hsize hdg hW (X₁.named hnamed) (hpre vm₁ X₁.warmed) with ⟨v, B, X', hpost, hsteps⟩ | ⟨q, B, X', hpost, hsteps⟩
  · exact Or.inl ⟨v, vm₁, B, X₁.warmed, X', hpost, fun target h => hstep₁ _ fun acts => by rw [doInvoke_state]; exact hsteps.trans h⟩
  · exact Or.inr ⟨q, vm₁, B, X₁.warmed, X', hpost, hstep₁ _ fun acts => by rw [doInvoke_state]; exact hsteps⟩
theorem vx_callS (X : Stand p l e R s m args below meth c T locs cells slots) (hexec : p.tables.exec = Jvm.exec) {own : String} {index : Nat} {y : MethodName} {bytes : ByteArray} {maxL : Nat} {ret : Option FieldType}
    (hown : s.vm.findClass own = some m.cls) (hlink : (Cond.methodLink own index y).before args s = true) (hstat : (Cond.static y).before args s = true) (hinit : (Cond.initialized y.cls).before args s = true)
    (hcode : (Cond.code y bytes maxL ret).before args s = true) (hy : y.cls ≠ "java/lang/invoke/MethodHandle" ∧ y.cls ≠ "java/lang/invoke/VarHandle")
    {W9 : Nat} {Pre : Pt → Array Value → Prop} {Post : Pt → Array Value → Option Value → Pt → Prop} {PostX : Pt → Array Value → Addr → Pt → Prop} (hK : vx_Back l R p e below s args y 3 W9 Pre Post PostX)
    {g : JFrame} (hg : g.method = m) (hsize : g.locals.size = c.maxLocals) {argsL rest : List Value} (hlen : ∀ sig, parseMethodDescriptor y.desc = some sig → argsL.length = sig.parameters.length)
    (hstack : g.stack = argsL.reverse ++ rest) (hW : 2 * g.monitorRoom + (rest.map fun v => v.category).sum ≤ W9) (hdg : decode c.code g.pc = .ok (.invokestatic index, 3))
    (hpre : ∀ vm₁, s.WarmedH vm₁ → Pre ⟨T.setVm vm₁, locs, cells, slots⟩ argsL.toArray) :
    (∃ (v : Option Value) (vm₁ : Vm) (B : Pt), s.WarmedH vm₁ ∧ Stand p l e R s m args below meth c B.U B.locs B.cells B.slots ∧ Post ⟨T.setVm vm₁, locs, cells, slots⟩ argsL.toArray v B ∧
      ∀ target, Steps p.tables e below (B.U.setTop { g with pc := g.pc + 3, stack := v.toList ++ rest }) target → Steps p.tables e below (T.setTop g) target) ∨
    (∃ (q : Addr) (vm₁ : Vm) (B : Pt), s.WarmedH vm₁ ∧ Stand p l e R s m args below meth c B.U B.locs B.cells B.slots ∧ PostX ⟨T.setVm vm₁, locs, cells, slots⟩ argsL.toArray q B ∧
      Steps p.tables e below (T.setTop g) ((B.U.setTop { g with stack := rest }).pushFrame (.throwing q))) := by
  obtain ⟨mk, hnamed⟩ := Cond.code_named hcode
  obtain ⟨methM, cM, hmethM, -, -, -, -, -, -, hsigM⟩ := Cond.code_spec hnamed hcode
  have hstatic : methM.isStatic = true := Cond.static_spec hnamed hmethM hstat
  obtain ⟨kP, hkP, -⟩ := className_of_methodNamed hnamed
  have hinitP : kP.init = .initialized := Cond.initialized_spec (findClass_of_methodNamed hnamed) hkP hinit
  obtain ⟨vm₁, X₁, hstep₁⟩ := X.invokestatic hexec hown hlink hnamed hmethM hstatic hkP hinitP hy (g := g) hg (argsL := argsL) (rest := rest) (hlen _ hsigM) hstack hdg
  rcases hK m meth c ⟨T.setVm vm₁, locs, cells, slots⟩ { g with stack := rest } (.invokestatic index) mk argsL.toArray X₁ hg hsize hdg hW (X₁.named hnamed) (hpre vm₁ X₁.warmed) with ⟨v, B, X', hpost, hsteps⟩ | ⟨q, B, X', hpost, hsteps⟩
  · exact Or.inl ⟨v, vm₁, B, X₁.warmed, X', hpost, fun target h => hstep₁ _ fun acts => by rw [doInvoke_state]; exact hsteps.trans h⟩
  · exact Or.inr ⟨q, vm₁, B, X₁.warmed, X', hpost, hstep₁ _ fun acts => by rw [doInvoke_state]; exact hsteps⟩
end Calls
theorem vx_cls {s : State} {T : State} {vm₁ : Vm} {E : String} {k : ClassId} (hW : s.WarmedH vm₁) (h : (T.setVm vm₁).vm.findClass E = some k) : s.vm.findClass E = some k := by
  have h1 : vm₁.findClass E = some k := h
  rw [hW.alike.findClass] at h1
  exact h1
/-- the method's frame g, with q thrown over it -/
def vx_W (p : Program) (l : Launch) (e : Env) (R : Room) (s : State) (m : MethodId) (args : Array Value) (below : List Frame) (meth : Method) (c : Code) (H : Heap) (locs : List Loc) (cells slots : Nat) (Q : State → Prop) (g : JFrame) (q : Addr) : Prop :=
  ∀ T : State, T.heap = H → Stand p l e R s m args below meth c T locs cells slots → ∃ t, Steps p.tables e below ((T.setTop g).pushFrame (.throwing q)) t ∧ Q t
def vx_Run (p : Program) (l : Launch) (e : Env) (R : Room) (s : State) (m : MethodId) (args : Array Value) (below : List Frame) (meth : Method) (c : Code) (H : Heap) (locs : List Loc) (cells slots mc ms : Nat) (g : JFrame) (rest : List Value) (Qa : State → Outcome → State → Prop) (XC : String → State → State → Prop) (free : Addr → Prop) : Prop :=
  ∀ T : State, T.heap = H → Stand p l e R s m args below meth c T locs cells slots →
    (∃ (v : Option Value) (st₀ t T' : State) (L : List Loc), st₀.heap = H ∧ Stand p l e R s m args below meth c T' (locs ++ L) (cells + mc) (slots + ms) ∧ (∀ q ∈ L, free q.base) ∧ T'.heap = t.heap ∧ T'.vm = t.vm ∧ Qa st₀ (.returned v) t ∧
      Goes p e below T g T' { g with pc := g.pc + 3, stack := v.toList ++ rest }) ∨
    (∃ (q : Addr) (st₀ t T' : State) (L : List Loc) (E : String) (ce : Cell), st₀.heap = H ∧ Stand p l e R s m args below meth c T' (locs ++ L) (cells + mc) (slots + ms) ∧ (∀ z ∈ L, free z.base) ∧ T'.heap = t.heap ∧ T'.vm = t.vm ∧ XC E st₀ t ∧ t.heap[q]? = some ce ∧ ce.vm = .none ∧ s.vm.findClass E = some ce.cls ∧
      Steps p.tables e below (T.setTop g) ((T'.setTop { g with stack := rest }).pushFrame (.throwing q)))
def vx_X {S : Type} (px : S → Prop) (B : String → S → State → Prop) (A : Nat → Prop) : String → State → State → Prop := fun E st t => ∃ u : S, px u ∧ B E u t ∧ va_F A st t
section Runs
variable {p : Program} {l : Launch} {e : Env} {R : Room} {s : State} {m : MethodId} {args : Array Value} {below : List Frame} {meth : Method} {c : Code} {H : Heap} {locs : List Loc} {cells slots : Nat}
variable {y : MethodName} {bytes cc : ByteArray} {maxL nL mc ms n index : Nat} {ret : Option FieldType} {ws : List Cond} {rm : Room} {Pc : Array Value → State → Prop} {Qc : Array Value → State → Outcome → State → Prop} {XC : String → State → State → Prop} {free : Addr → Prop} {Ts : List Cond} {own C : String} {b : Addr} {As rest : List Value} {g : JFrame}
theorem vx_callBack (cb : CallB R s args own index y bytes maxL ret ws rm mc ms n) (hM : vx_Met l y ws rm Pc Qc XC mc ms free) (hbl : FrameBlind Pc) : vx_Back l R p e below s args y 3 8 (PreOf R mc ms Pc) (PostOf Qc mc ms free) (vx_Post XC mc ms free) := by
  obtain ⟨hrc, hrs, hfr, hlo, hws, hcw, -, hini, -⟩ := cb
  exact vx_back (bytes := bytes) (maxL := maxL) (ret := ret) hM hbl hrc hrs hfr hlo hws hcw (fun a' U hW => word_at hW (Or.inl (by first | rfl | simp [Cond.onTables, Cond.keeps, Cond.steady])) hini)
theorem vx_runV (S : CallFix p m c cc nL s args Ts own) (hM : vx_Met l y ws rm Pc Qc XC mc ms free) (cw : CallW R s args own C index y bytes maxL ret ws rm mc ms n) (hp : PreV s H C b Pc As)
    (hg : g.method = m) (hn : As.length = n) (hsize : g.locals.size = nL) (hstack : g.stack = As.reverse ++ .ref b :: rest) (hW : 2 * g.monitorRoom + (rest.map fun v => v.category).sum ≤ 8) (hdg : decode cc g.pc = .ok (.invokevirtual index, 3)) (hf : cells + mc ≤ R.cells ∧ slots + ms ≤ R.slots) :
    vx_Run p l e R s m args below meth c H locs cells slots mc ms g rest (Qc (Value.ref b :: As).toArray) XC free := by
  have hK : vx_Back l R p e below s args y 3 8 (PreOf R mc ms Pc) (PostOf Qc mc ms free) (vx_Post XC mc ms free) := vx_callBack cw.1 hM hp.1
  obtain ⟨⟨-, -, -, -, -, -, hcode, -, hy, hlen, hl⟩, hin, hse⟩ := cw
  obtain ⟨hx, hb, hml, ho, -⟩ := S
  obtain ⟨-, ⟨cellB, hcB, hoB, hclB⟩, hPc⟩ := hp
  intro T hT X
  rcases vx_callV X hx (C := C) (bytes := bytes) (maxL := maxL) (ret := ret) ho hl hin hse hcode hy hK (by rw [hT]; exact hcB) hoB hclB hg (hsize.trans hml.symm) (argsL := As) (rest := rest) (fun sig h => hn.trans (hlen sig h)) hstack hW (by rw [hb]; exact hdg)
    (fun vm₁ hW₁ => ⟨hf.1, hf.2, hPc (T.setVm vm₁) hT hW₁⟩) with ⟨v, vm₁, ⟨U', l2, c2, s2⟩, hW₁, X', ⟨g', mk, t, L, e1, e2, hq, h1, hL, h2, h3⟩, st⟩ | ⟨q, vm₁, ⟨U', l2, c2, s2⟩, hW₁, X', ⟨g', mk, t, L, E, ce, e1, e2, hq, hce, hcv, hcl, h1, hL, h2, h3⟩, st⟩
  · dsimp only [Pt.U, Pt.locs, Pt.cells, Pt.slots] at X' e1 e2 h1 h2 h3 st
    subst h1; subst h2; subst h3
    exact Or.inl ⟨v, (T.setVm vm₁).calling g' mk (Value.ref b :: As).toArray, t, U', L, hT, X', hL, e1, e2, hq, st⟩
  · dsimp only [Pt.U, Pt.locs, Pt.cells, Pt.slots] at X' e1 e2 h1 h2 h3 st hcl
    subst h1; subst h2; subst h3
    exact Or.inr ⟨q, (T.setVm vm₁).calling g' mk (Value.ref b :: As).toArray, t, U', L, E, ce, hT, X', hL, e1, e2, hq, hce, hcv, vx_cls hW₁ hcl, st⟩
theorem vx_runS (S : CallFix p m c cc nL s args Ts own) (hM : vx_Met l y ws rm Pc Qc XC mc ms free) (cw : CallB R s args own index y bytes maxL ret ws rm mc ms n ∧ (Cond.static y).before args s = true) (hp : PreS s H Pc As)
    (hg : g.method = m) (hn : As.length = n) (hsize : g.locals.size = nL) (hstack : g.stack = As.reverse ++ rest) (hW : 2 * g.monitorRoom + (rest.map fun v => v.category).sum ≤ 8) (hdg : decode cc g.pc = .ok (.invokestatic index, 3)) (hf : cells + mc ≤ R.cells ∧ slots + ms ≤ R.slots) :
    vx_Run p l e R s m args below meth c H locs cells slots mc ms g rest (Qc As.toArray) XC free := by
  have hK : vx_Back l R p e below s args y 3 8 (PreOf R mc ms Pc) (PostOf Qc mc ms free) (vx_Post XC mc ms free) := vx_callBack cw.1 hM hp.1
  obtain ⟨⟨-, -, -, -, -, -, hcode, hini, hy, hlen, hl⟩, hstt⟩ := cw
  obtain ⟨hx, hb, hml, ho, -⟩ := S
  intro T hT X
  rcases vx_callS X hx (bytes := bytes) (maxL := maxL) (ret := ret) ho hl hstt hini hcode hy hK hg (hsize.trans hml.symm) (argsL := As) (rest := rest) (fun sig h => hn.trans (hlen sig h)) hstack hW (by rw [hb]; exact hdg)
    (fun vm₁ hW₁ => ⟨hf.1, hf.2, hp.2 (T.setVm vm₁) hT hW₁⟩) with ⟨v, vm₁, ⟨U', l2, c2, s2⟩, hW₁, X', ⟨g', mk, t, L, e1, e2, hq, h1, hL, h2, h3⟩, st⟩ | ⟨q, vm₁, ⟨U', l2, c2, s2⟩, hW₁, X', ⟨g', mk, t, L, E, ce, e1, e2, hq, hce, hcv, hcl, h1, hL, h2, h3⟩, st⟩
  · dsimp only [Pt.U, Pt.locs, Pt.cells, Pt.slots] at X' e1 e2 h1 h2 h3 st
    subst h1; subst h2; subst h3
    exact Or.inl ⟨v, (T.setVm vm₁).calling g' mk As.toArray, t, U', L, hT, X', hL, e1, e2, hq, st⟩
  · dsimp only [Pt.U, Pt.locs, Pt.cells, Pt.slots] at X' e1 e2 h1 h2 h3 st hcl
    subst h1; subst h2; subst h3
    exact Or.inr ⟨q, (T.setVm vm₁).calling g' mk As.toArray, t, U', L, E, ce, hT, X', hL, e1, e2, hq, hce, hcv, vx_cls hW₁ hcl, st⟩
end Runs
section Rows
variable {p : Program} {l : Launch} {e : Env} {R : Room} {s : State} {m : MethodId} {args : Array Value} {below : List Frame} {meth : Method} {c : Code} {H : Heap} {locs : List Loc} {cells slots : Nat} {Q : State → Prop}
variable {mc ms : Nat} {free : Addr → Prop} {A0 A1 : Nat → Prop} {H0 : Heap} {a : Array Value} {pc : Nat} {ls : Array Slot} {st0 rest : List Value}
theorem vx_keep {st₀ t T' : State} {L : List Loc} (h0 : st₀.heap = H) (e1 : T'.heap = t.heap) (hS : va_S A0 H0 H locs) (hA : ∀ q, q < H.size → A1 q → A0 q) (hf : ∀ q, free q → A0 q) (hL : ∀ q ∈ L, free q.base) (hF : va_F A1 st₀ t) :
    H.size ≤ T'.heap.size ∧ (∀ q : Nat, q < H.size → ¬ A1 q → T'.heap[q]? = H[q]?) ∧ va_S A0 H0 T'.heap (locs ++ L) := by
  obtain ⟨hz, hk⟩ := hF
  rw [h0] at hz hk
  exact ⟨by rw [e1]; exact hz, fun q h1 h2 => by rw [e1]; exact hk q h1 h2,
    ⟨Nat.le_trans hS.1 (by rw [e1]; exact hz), fun q h1 h2 => by rw [e1, hk q (Nat.lt_of_lt_of_le h1 hS.1) (fun z => h2 (hA q (Nat.lt_of_lt_of_le h1 hS.1) z))]; exact hS.2.1 q h1 h2, fun q hq => by
      rcases List.mem_append.mp hq with h | h
      · exact hS.2.2 q h
      · exact hf _ (hL q h)⟩⟩
theorem vx_calli {S SX : Type} {post : Int32 → S → Prop} {px : SX → Prop} {B : S → State → Prop} {BX : String → SX → State → Prop} {AX : Nat → Prop} (hr : vx_Run p l e R s m args below meth c H locs cells slots mc ms (F0 m pc ls st0) rest (va_Qi post B A1 a) (vx_X px BX AX) free) (hS : va_S A0 H0 H locs) (hA : ∀ q, q < H.size → A1 q → A0 q) (hf : ∀ q, free q → A0 q) (hAX : ∀ q, q < H.size → AX q → A0 q)
    (kx : ∀ (E : String) (ce : Cell) (q9 : Addr) (u : SX) (t : State) (H1 : Heap) (locs1 : List Loc), t.heap = H1 → s.vm.Alike t.vm → px u → BX E u t → H.size ≤ H1.size → (∀ q : Nat, q < H.size → ¬ AX q → H1[q]? = H[q]?) → va_S A0 H0 H1 locs1 → H1[q9]? = some ce → ce.vm = .none → s.vm.findClass E = some ce.cls → vx_W p l e R s m args below meth c H1 locs1 (cells + mc) (slots + ms) Q (F0 m pc ls rest) q9)
    (kk : ∀ (r : Int32) (u : S) (t : State) (H1 : Heap) (locs1 : List Loc), t.heap = H1 → s.vm.Alike t.vm → post r u → B u t → H.size ≤ H1.size → (∀ q : Nat, q < H.size → ¬ A1 q → H1[q]? = H[q]?) → va_S A0 H0 H1 locs1 → W p l e R s m args below meth c H1 locs1 (cells + mc) (slots + ms) Q (F0 m (pc + 3) ls (.int r :: rest))) : W p l e R s m args below meth c H locs cells slots Q (F0 m pc ls st0) := by
  intro T hT X
  rcases hr T hT X with ⟨v, st₀, t, T', L, h0, X', hL, e1, e2, ⟨⟨r, u, hv, hp, hb⟩, hF⟩, st⟩ | ⟨q, st₀, t, T', L, E, ce, h0, X', hL, e1, e2, ⟨u, hp, hb, hF⟩, hce, hcv, hcl, st⟩
  · cases hv
    obtain ⟨k1, k2, k3⟩ := vx_keep h0 e1 hS hA hf hL hF
    obtain ⟨t2, a1, b1⟩ := kk r u t T'.heap (locs ++ L) e1.symm (by rw [← e2]; exact X'.warmed.alike) hp hb k1 k2 k3 T' rfl X'
    exact ⟨t2, st t2 a1, b1⟩
  · obtain ⟨k1, k2, k3⟩ := vx_keep h0 e1 hS hAX hf hL hF
    obtain ⟨t2, a1, b1⟩ := kx E ce q u t T'.heap (locs ++ L) e1.symm (by rw [← e2]; exact X'.warmed.alike) hp hb k1 k2 k3 (by rw [e1]; exact hce) hcv hcl T' rfl X'
    exact ⟨t2, st.trans a1, b1⟩
theorem vx_calll {S SX : Type} {post : Int64 → S → Prop} {px : SX → Prop} {B : S → State → Prop} {BX : String → SX → State → Prop} {AX : Nat → Prop} (hr : vx_Run p l e R s m args below meth c H locs cells slots mc ms (F0 m pc ls st0) rest (va_Ql post B A1 a) (vx_X px BX AX) free) (hS : va_S A0 H0 H locs) (hA : ∀ q, q < H.size → A1 q → A0 q) (hf : ∀ q, free q → A0 q) (hAX : ∀ q, q < H.size → AX q → A0 q)
    (kx : ∀ (E : String) (ce : Cell) (q9 : Addr) (u : SX) (t : State) (H1 : Heap) (locs1 : List Loc), t.heap = H1 → s.vm.Alike t.vm → px u → BX E u t → H.size ≤ H1.size → (∀ q : Nat, q < H.size → ¬ AX q → H1[q]? = H[q]?) → va_S A0 H0 H1 locs1 → H1[q9]? = some ce → ce.vm = .none → s.vm.findClass E = some ce.cls → vx_W p l e R s m args below meth c H1 locs1 (cells + mc) (slots + ms) Q (F0 m pc ls rest) q9)
    (kk : ∀ (r : Int64) (u : S) (t : State) (H1 : Heap) (locs1 : List Loc), t.heap = H1 → s.vm.Alike t.vm → post r u → B u t → H.size ≤ H1.size → (∀ q : Nat, q < H.size → ¬ A1 q → H1[q]? = H[q]?) → va_S A0 H0 H1 locs1 → W p l e R s m args below meth c H1 locs1 (cells + mc) (slots + ms) Q (F0 m (pc + 3) ls (.long r :: rest))) : W p l e R s m args below meth c H locs cells slots Q (F0 m pc ls st0) := by
  intro T hT X
  rcases hr T hT X with ⟨v, st₀, t, T', L, h0, X', hL, e1, e2, ⟨⟨r, u, hv, hp, hb⟩, hF⟩, st⟩ | ⟨q, st₀, t, T', L, E, ce, h0, X', hL, e1, e2, ⟨u, hp, hb, hF⟩, hce, hcv, hcl, st⟩
  · cases hv
    obtain ⟨k1, k2, k3⟩ := vx_keep h0 e1 hS hA hf hL hF
    obtain ⟨t2, a1, b1⟩ := kk r u t T'.heap (locs ++ L) e1.symm (by rw [← e2]; exact X'.warmed.alike) hp hb k1 k2 k3 T' rfl X'
    exact ⟨t2, st t2 a1, b1⟩
  · obtain ⟨k1, k2, k3⟩ := vx_keep h0 e1 hS hAX hf hL hF
    obtain ⟨t2, a1, b1⟩ := kx E ce q u t T'.heap (locs ++ L) e1.symm (by rw [← e2]; exact X'.warmed.alike) hp hb k1 k2 k3 (by rw [e1]; exact hce) hcv hcl T' rfl X'
    exact ⟨t2, st.trans a1, b1⟩
theorem vx_callf {S SX : Type} {post : UInt32 → S → Prop} {px : SX → Prop} {B : S → State → Prop} {BX : String → SX → State → Prop} {AX : Nat → Prop} (hr : vx_Run p l e R s m args below meth c H locs cells slots mc ms (F0 m pc ls st0) rest (va_Qf post B A1 a) (vx_X px BX AX) free) (hS : va_S A0 H0 H locs) (hA : ∀ q, q < H.size → A1 q → A0 q) (hf : ∀ q, free q → A0 q) (hAX : ∀ q, q < H.size → AX q → A0 q)
    (kx : ∀ (E : String) (ce : Cell) (q9 : Addr) (u : SX) (t : State) (H1 : Heap) (locs1 : List Loc), t.heap = H1 → s.vm.Alike t.vm → px u → BX E u t → H.size ≤ H1.size → (∀ q : Nat, q < H.size → ¬ AX q → H1[q]? = H[q]?) → va_S A0 H0 H1 locs1 → H1[q9]? = some ce → ce.vm = .none → s.vm.findClass E = some ce.cls → vx_W p l e R s m args below meth c H1 locs1 (cells + mc) (slots + ms) Q (F0 m pc ls rest) q9)
    (kk : ∀ (r : UInt32) (u : S) (t : State) (H1 : Heap) (locs1 : List Loc), t.heap = H1 → s.vm.Alike t.vm → post r u → B u t → H.size ≤ H1.size → (∀ q : Nat, q < H.size → ¬ A1 q → H1[q]? = H[q]?) → va_S A0 H0 H1 locs1 → W p l e R s m args below meth c H1 locs1 (cells + mc) (slots + ms) Q (F0 m (pc + 3) ls (.float r :: rest))) : W p l e R s m args below meth c H locs cells slots Q (F0 m pc ls st0) := by
  intro T hT X
  rcases hr T hT X with ⟨v, st₀, t, T', L, h0, X', hL, e1, e2, ⟨⟨r, u, hv, hp, hb⟩, hF⟩, st⟩ | ⟨q, st₀, t, T', L, E, ce, h0, X', hL, e1, e2, ⟨u, hp, hb, hF⟩, hce, hcv, hcl, st⟩
  · cases hv
    obtain ⟨k1, k2, k3⟩ := vx_keep h0 e1 hS hA hf hL hF
    obtain ⟨t2, a1, b1⟩ := kk r u t T'.heap (locs ++ L) e1.symm (by rw [← e2]; exact X'.warmed.alike) hp hb k1 k2 k3 T' rfl X'
    exact ⟨t2, st t2 a1, b1⟩
  · obtain ⟨k1, k2, k3⟩ := vx_keep h0 e1 hS hAX hf hL hF
    obtain ⟨t2, a1, b1⟩ := kx E ce q u t T'.heap (locs ++ L) e1.symm (by rw [← e2]; exact X'.warmed.alike) hp hb k1 k2 k3 (by rw [e1]; exact hce) hcv hcl T' rfl X'
    exact ⟨t2, st.trans a1, b1⟩
theorem vx_calld {S SX : Type} {post : UInt64 → S → Prop} {px : SX → Prop} {B : S → State → Prop} {BX : String → SX → State → Prop} {AX : Nat → Prop} (hr : vx_Run p l e R s m args below meth c H locs cells slots mc ms (F0 m pc ls st0) rest (va_Qd post B A1 a) (vx_X px BX AX) free) (hS : va_S A0 H0 H locs) (hA : ∀ q, q < H.size → A1 q → A0 q) (hf : ∀ q, free q → A0 q) (hAX : ∀ q, q < H.size → AX q → A0 q)
    (kx : ∀ (E : String) (ce : Cell) (q9 : Addr) (u : SX) (t : State) (H1 : Heap) (locs1 : List Loc), t.heap = H1 → s.vm.Alike t.vm → px u → BX E u t → H.size ≤ H1.size → (∀ q : Nat, q < H.size → ¬ AX q → H1[q]? = H[q]?) → va_S A0 H0 H1 locs1 → H1[q9]? = some ce → ce.vm = .none → s.vm.findClass E = some ce.cls → vx_W p l e R s m args below meth c H1 locs1 (cells + mc) (slots + ms) Q (F0 m pc ls rest) q9)
    (kk : ∀ (r : UInt64) (u : S) (t : State) (H1 : Heap) (locs1 : List Loc), t.heap = H1 → s.vm.Alike t.vm → post r u → B u t → H.size ≤ H1.size → (∀ q : Nat, q < H.size → ¬ A1 q → H1[q]? = H[q]?) → va_S A0 H0 H1 locs1 → W p l e R s m args below meth c H1 locs1 (cells + mc) (slots + ms) Q (F0 m (pc + 3) ls (.double r :: rest))) : W p l e R s m args below meth c H locs cells slots Q (F0 m pc ls st0) := by
  intro T hT X
  rcases hr T hT X with ⟨v, st₀, t, T', L, h0, X', hL, e1, e2, ⟨⟨r, u, hv, hp, hb⟩, hF⟩, st⟩ | ⟨q, st₀, t, T', L, E, ce, h0, X', hL, e1, e2, ⟨u, hp, hb, hF⟩, hce, hcv, hcl, st⟩
  · cases hv
    obtain ⟨k1, k2, k3⟩ := vx_keep h0 e1 hS hA hf hL hF
    obtain ⟨t2, a1, b1⟩ := kk r u t T'.heap (locs ++ L) e1.symm (by rw [← e2]; exact X'.warmed.alike) hp hb k1 k2 k3 T' rfl X'
    exact ⟨t2, st t2 a1, b1⟩
  · obtain ⟨k1, k2, k3⟩ := vx_keep h0 e1 hS hAX hf hL hF
    obtain ⟨t2, a1, b1⟩ := kx E ce q u t T'.heap (locs ++ L) e1.symm (by rw [← e2]; exact X'.warmed.alike) hp hb k1 k2 k3 (by rw [e1]; exact hce) hcv hcl T' rfl X'
    exact ⟨t2, st.trans a1, b1⟩
theorem vx_callv {S SX : Type} {post : S → Prop} {px : SX → Prop} {B : S → State → Prop} {BX : String → SX → State → Prop} {AX : Nat → Prop} (hr : vx_Run p l e R s m args below meth c H locs cells slots mc ms (F0 m pc ls st0) rest (va_Qv post B A1 a) (vx_X px BX AX) free) (hS : va_S A0 H0 H locs) (hA : ∀ q, q < H.size → A1 q → A0 q) (hf : ∀ q, free q → A0 q) (hAX : ∀ q, q < H.size → AX q → A0 q)
    (kx : ∀ (E : String) (ce : Cell) (q9 : Addr) (u : SX) (t : State) (H1 : Heap) (locs1 : List Loc), t.heap = H1 → s.vm.Alike t.vm → px u → BX E u t → H.size ≤ H1.size → (∀ q : Nat, q < H.size → ¬ AX q → H1[q]? = H[q]?) → va_S A0 H0 H1 locs1 → H1[q9]? = some ce → ce.vm = .none → s.vm.findClass E = some ce.cls → vx_W p l e R s m args below meth c H1 locs1 (cells + mc) (slots + ms) Q (F0 m pc ls rest) q9)
    (kk : ∀ (u : S) (t : State) (H1 : Heap) (locs1 : List Loc), t.heap = H1 → s.vm.Alike t.vm → post u → B u t → H.size ≤ H1.size → (∀ q : Nat, q < H.size → ¬ A1 q → H1[q]? = H[q]?) → va_S A0 H0 H1 locs1 → W p l e R s m args below meth c H1 locs1 (cells + mc) (slots + ms) Q (F0 m (pc + 3) ls (rest))) : W p l e R s m args below meth c H locs cells slots Q (F0 m pc ls st0) := by
  intro T hT X
  rcases hr T hT X with ⟨v, st₀, t, T', L, h0, X', hL, e1, e2, ⟨⟨u, hv, hp, hb⟩, hF⟩, st⟩ | ⟨q, st₀, t, T', L, E, ce, h0, X', hL, e1, e2, ⟨u, hp, hb, hF⟩, hce, hcv, hcl, st⟩
  · cases hv
    obtain ⟨k1, k2, k3⟩ := vx_keep h0 e1 hS hA hf hL hF
    obtain ⟨t2, a1, b1⟩ := kk u t T'.heap (locs ++ L) e1.symm (by rw [← e2]; exact X'.warmed.alike) hp hb k1 k2 k3 T' rfl X'
    exact ⟨t2, st t2 a1, b1⟩
  · obtain ⟨k1, k2, k3⟩ := vx_keep h0 e1 hS hAX hf hL hF
    obtain ⟨t2, a1, b1⟩ := kx E ce q u t T'.heap (locs ++ L) e1.symm (by rw [← e2]; exact X'.warmed.alike) hp hb k1 k2 k3 (by rw [e1]; exact hce) hcv hcl T' rfl X'
    exact ⟨t2, st.trans a1, b1⟩
/-- caught by the row x of this method's table; the rows ahead don't take it -/
theorem vx_catch {own name : String} {E : String} {ce : Cell} {q : Addr} (hown : s.vm.findClass own = some m.cls) (pre : List ExceptionTableEntry) (x : ExceptionTableEntry) (suf : List ExceptionTableEntry) (hsplit : c.exceptionTable.toList = pre ++ x :: suf)
    (hpass : ∀ z ∈ pre, covers z pc = false ∨ (z.catchType ≠ 0 ∧ ∃ nm : String, (Cond.classLink own z.catchType nm).before args s = true ∧ va_Nc E nm s)) (hx : covers x pc = true) (h0 : x.catchType ≠ 0)
    (hlink : (Cond.classLink own x.catchType name).before args s = true) (hcast : (Cond.castable E name).before args s = true) (hcell : H[q]? = some ce) (hv : ce.vm = .none) (hcl : s.vm.findClass E = some ce.cls)
    (kk : W p l e R s m args below meth c H locs cells slots Q (F0 m x.handlerPc ls [.ref q])) : vx_W p l e R s m args below meth c H locs cells slots Q (F0 m pc ls rest) q := by
  intro T hT X
  have hpl : e.platform.magicAccessors = ({} : Platform).magicAccessors := by rw [X.admits.platform]
  obtain ⟨c3, c4, hc3, hc4, hasg⟩ := Cond.castable_spec hcast
  cases Option.some.inj (hc3.symm.trans hcl)
  obtain ⟨c5, hc5, hcl5⟩ := Cond.classLink_spec hown hlink e.platform hpl
  cases Option.some.inj (hc4.symm.trans hc5)
  obtain ⟨vm', X', st⟩ := X.thenCaughtThrough q (g := F0 m pc ls rest) rfl (Steps.refl _) (by rw [hT]; exact hcell) (by rw [hv]; rfl) (by obtain ⟨k9, h9, -⟩ := Vm.findClass_spec hcl; exact ⟨k9, h9⟩) pre x suf hsplit
    (fun z hz => by
      rcases hpass z hz with h | ⟨hz0, nm, hl1, hn1⟩
      · exact Or.inl h
      · obtain ⟨c6, hc6, hcl6⟩ := Cond.classLink_spec hown hl1 e.platform hpl
        obtain ⟨a8, b8, h1, h2, h3⟩ := hn1
        cases Option.some.inj (h1.symm.trans hcl)
        cases Option.some.inj (h2.symm.trans hc6)
        exact Or.inr ⟨hz0, _, hcl6, h3⟩) hx (Or.inr ⟨h0, c4, hcl5, hasg⟩)
  obtain ⟨t, a1, b1⟩ := kk (T.setVm vm') hT X'
  exact ⟨t, st.trans a1, b1⟩
end Rows
section Ends
variable {p : Program} {l : Launch} {e : Env} {R : Room} {s : State} {m : MethodId} {args : Array Value} {below : List Frame} {meth : Method} {c : Code} {H : Heap} {locs : List Loc} {cells slots : Nat} {Q : State → Prop}
variable {mc ms : Nat} {free : Addr → Prop} {A0 A1 : Nat → Prop} {H0 : Heap} {a : Array Value} {ls : Array Slot} {st0 rest : List Value}
variable {Qc : Array Value → State → Outcome → State → Prop} {XC : String → State → State → Prop}
/-- what a body that may throw owes at its end -/
def vx_MQ (below : List Frame) (Qc : Array Value → State → Outcome → State → Prop) (XC : String → State → State → Prop) (a : Array Value) (s : State) (mc ms : Nat) (free : Addr → Prop) : State → Prop := fun t =>
  ∃ o, t.status = .running ∧ Ended t below o ∧ vx_Q Qc XC mc ms free a s o t
theorem vx_ret {g : JFrame} {mc ms : Nat} (k : W p l e R s m args below meth c H locs cells slots (MQ below Qc args s mc ms free) g) : W p l e R s m args below meth c H locs cells slots (vx_MQ below Qc XC args s mc ms free) g := by
  intro T hT X
  obtain ⟨t, a1, o, b1, b2, b3, b4⟩ := k T hT X
  exact ⟨t, a1, o, b1, b2, Or.inl ⟨b3, b4⟩⟩
/-- not caught here: it goes on to the caller -/
theorem vx_widen {g : JFrame} {q : Addr} {k n : Nat} (h1 : cells ≤ k) (h2 : slots ≤ n) (kk : vx_W p l e R s m args below meth c H locs k n Q g q) : vx_W p l e R s m args below meth c H locs cells slots Q g q := fun T hT X => kk T hT (stand_widen X h1 h2)
theorem vx_out {pc : Nat} {E : String} {ce : Cell} {q : Addr} {mc ms : Nat} (hout : ∀ x ∈ c.exceptionTable.toList, covers x pc = false) (hlocks : meth.locks = false) (hcell : H[q]? = some ce) (hv : ce.vm = .none) (hcl : s.vm.findClass E = some ce.cls)
    (hx : ∀ t : State, t.heap = H → s.vm.Alike t.vm → XC E s t) (hf : ∀ z ∈ locs, free z.base) (hc : cells ≤ mc) (hs : slots ≤ ms) :
    vx_W p l e R s m args below meth c H locs cells slots (vx_MQ below Qc XC args s mc ms free) (F0 m pc ls rest) q := by
  intro T hT X
  obtain ⟨st1, hrun, hend, hW, hsm⟩ := X.leaveThrown q (g := F0 m pc ls rest) rfl rfl rfl hout hlocks
  have hcell9 : (T.setFrames (.throwing q :: below)).heap[q]? = some ce := by
    show T.heap[q]? = some ce
    rw [hT]; exact hcell
  exact ⟨_, st1, .threw q, hrun, hend, Or.inr ⟨q, rfl, E, ce, locs, hx _ hT hW.alike, hcell9, hv, hcl, hW, hsm.mono hc hs, hf⟩⟩
theorem vx_frame {U : State} {k n : Nat} (h : s.sameButNew ({ U with vm := s.vm } : State) locs k n) : s.heap.size ≤ U.heap.size ∧ ∀ q : Nat, q < s.heap.size → (∀ z ∈ locs, z.base ≠ q) → U.heap[q]? = s.heap[q]? := by
  obtain ⟨-, h2, -, -, -, h6⟩ := h
  refine ⟨h2, fun q hq hz => ?_⟩
  obtain ⟨c9, e1, e2, e3, e4⟩ := h6 q _ (Array.getElem?_eq_getElem hq)
  have hs : c9.slots = (s.heap[q]).slots := Array.ext_getElem? fun i => e4 i fun hm => hz _ hm rfl
  have h9 : c9 = s.heap[q] := by
    rw [hs] at e2
    exact e2
  have e5 : U.heap[q]? = some c9 := e1
  rw [e5, h9, Array.getElem?_eq_getElem hq]
/-- the words of a throw but the four that speak of the heap -/
def vx_no (w : Cond) : Bool := decide (w ≠ .isRef (.static Bundle.tN "UNASSIGNED_STACK" Bundle.steD)) && decide (w ≠ .isRef (.static Bundle.tN "SUPPRESSED_SENTINEL" Bundle.listD)) && decide (w ≠ .laysStatic Bundle.tN "UNASSIGNED_STACK" Bundle.steD) && decide (w ≠ .laysStatic Bundle.tN "SUPPRESSED_SENTINEL" Bundle.listD)
def vx_at0 (own : String) (ic : Nat) (X : String) (names : List String) : List Cond := (Bundle.ownAtoms0 own ic X names).filter vx_no
def vx_atS (own : String) (ic : Nat) (X : String) (names : List String) : List Cond := (Bundle.ownAtoms own ic X names).filter vx_no
/-- a word that the tables alone decide, or a good one -/
def vx_ot (w : Cond) : Bool := w.onTables || goodWord w
theorem vx_ot_at {args a' : Array Value} {s U : State} {w : Cond} (hW : s.WarmedH U.vm) (hvm : s.vm = U.vm) (hg : vx_ot w = true) (h : w.before args s = true) : w.before a' U = true := by
  simp only [vx_ot, Bool.or_eq_true] at hg
  rcases hg with hg | hg
  · exact va_tabs hg hvm h
  · exact word_at hW (good_of_word hg) h
/-- a list's words: the good ones out of the method's own list, the others by premises of their own -/
theorem vx_hat {args : Array Value} {s : State} {L B : List Cond} (h1 : ∀ w ∈ L.filter goodWord, w.before args s = true) (h2 : ∀ w ∈ L.filter (fun w => !goodWord w), w ∈ B) (h3 : ∀ w ∈ B, w.before args s = true) : ∀ w ∈ L, w.before args s = true := by
  intro w hw
  by_cases g : goodWord w = true
  · exact h1 w (List.mem_filter.mpr ⟨hw, g⟩)
  · refine h3 w (h2 w (List.mem_filter.mpr ⟨hw, ?_⟩))
    show (!goodWord w) = true
    cases hgw : goodWord w
    · rfl
    · exact absurd hgw g
theorem vx_c {args : Array Value} {s : State} {w : Cond} {B : List Cond} (h : w.before args s = true) (t : ∀ w ∈ B, w.before args s = true) : ∀ w' ∈ w :: B, w'.before args s = true := fun w' h' => (List.mem_cons.mp h').elim (fun e => by rw [e]; exact h) (t w')
theorem vx_n {args : Array Value} {s : State} : ∀ w ∈ ([] : List Cond), w.before args s = true := fun _ h => nomatch h
theorem vx_own {args : Array Value} {s : State} {L : List Cond} (h1 : ∀ w ∈ L.filter vx_no, w.before args s = true)
    (hU : (Cond.isRef (.static Bundle.tN "UNASSIGNED_STACK" Bundle.steD)).before args s = true) (hN : (Cond.isRef (.static Bundle.tN "SUPPRESSED_SENTINEL" Bundle.listD)).before args s = true)
    (lU : (Cond.laysStatic Bundle.tN "UNASSIGNED_STACK" Bundle.steD).before args s = true) (lN : (Cond.laysStatic Bundle.tN "SUPPRESSED_SENTINEL" Bundle.listD).before args s = true) : ∀ w ∈ L, w.before args s = true := by
  intro w hw
  by_cases e1 : w = .isRef (.static Bundle.tN "UNASSIGNED_STACK" Bundle.steD)
  · rw [e1]; exact hU
  · by_cases e2 : w = .isRef (.static Bundle.tN "SUPPRESSED_SENTINEL" Bundle.listD)
    · rw [e2]; exact hN
    · by_cases e3 : w = .laysStatic Bundle.tN "UNASSIGNED_STACK" Bundle.steD
      · rw [e3]; exact lU
      · by_cases e4 : w = .laysStatic Bundle.tN "SUPPRESSED_SENTINEL" Bundle.listD
        · rw [e4]; exact lN
        · exact h1 w (List.mem_filter.mpr ⟨hw, by unfold vx_no; rw [decide_eq_true e1, decide_eq_true e2, decide_eq_true e3, decide_eq_true e4]; rfl⟩)
/-- where a static field lies, its class's statics cell in H -/
def vx_L (C n d : String) (A : Nat → Prop) (U : State) (H : Heap) : Prop := ∃ (c : ClassId) (k : Class) (i : Nat) (f : Field) (a : Nat) (cell : Cell), U.vm.findClass C = some c ∧ U.fieldFound? C n d = some (c, k, i, f) ∧ f.isStatic = true ∧ k.statics = some a ∧ H[a]? = some cell ∧ cell.vm.isStatics = true ∧ cell.cls = c ∧ f.slot < cell.slots.size ∧ k.staticTypes[f.slot]? = some f.type ∧ ¬ A a
theorem vx_L.moved {C n d : String} {A : Nat → Prop} {u U : State} {H : Heap} (hvm : u.vm.Alike U.vm) (h : vx_L C n d A u H) : vx_L C n d A U H := by
  obtain ⟨c, k, i, f, a, cell, h1, h2, h3, h4, h5, h6, h7, h8, h9, h10⟩ := h
  obtain ⟨k', hi', he⟩ := State.fieldFound?_setVm hvm h2
  exact ⟨c, k', i, f, a, cell, by rw [hvm.findClass]; exact h1, hi', h3, by rw [he]; exact h4, h5, h6, h7, h8, by rw [he]; exact h9, h10⟩
theorem vx_L.kept {C n d : String} {A : Nat → Prop} {U : State} {H H1 : Heap} (h : vx_L C n d A U H) (hq : ∀ a : Nat, a < H.size → ¬ A a → H1[a]? = H[a]?) : vx_L C n d A U H1 := by
  obtain ⟨c, k, i, f, a, cell, h1, h2, h3, h4, h5, h6, h7, h8, h9, h10⟩ := h
  exact ⟨c, k, i, f, a, cell, h1, h2, h3, h4, by rw [hq a (Array.getElem?_eq_some_iff.mp h5).1 h10]; exact h5, h6, h7, h8, h9, h10⟩
theorem vx_L.narrow {C n d : String} {A B : Nat → Prop} {U : State} {H : Heap} (h : vx_L C n d A U H) (hAB : ∀ q, B q → A q) : vx_L C n d B U H := by
  obtain ⟨c, k, i, f, a, cell, h1, h2, h3, h4, h5, h6, h7, h8, h9, h10⟩ := h
  exact ⟨c, k, i, f, a, cell, h1, h2, h3, h4, h5, h6, h7, h8, h9, fun z => h10 (hAB _ z)⟩
theorem vx_L.word {C n d : String} {A : Nat → Prop} {s : State} {args : Array Value} (h : vx_L C n d A s s.heap) : (Cond.laysStatic C n d).before args s = true := by
  obtain ⟨c, k, i, f, a, cell, h1, h2, h3, h4, h5, h6, h7, h8, h9, -⟩ := h
  show (Cond.laysStatic C n d).holds args s none s [] = true
  exact Cond.laysStatic_of h1 h2 h3 h4 h5 h6 h7 h8 h9
/-- .. and what it holds: null or some reference -/
def vx_Zq (C n d : String) (A : Nat → Prop) (U : State) (H : Heap) : Prop := va_Zq C n d A U H ∧ vx_L C n d A U H
theorem vx_Zq.moved {C n d : String} {A : Nat → Prop} {u U : State} {H : Heap} (hvm : u.vm.Alike U.vm) (h : vx_Zq C n d A u H) : vx_Zq C n d A U H := ⟨va_Zq.moved hvm h.1, vx_L.moved hvm h.2⟩
theorem vx_Zq.kept {C n d : String} {A : Nat → Prop} {U : State} {H H1 : Heap} (h : vx_Zq C n d A U H) (hq : ∀ a : Nat, a < H.size → ¬ A a → H1[a]? = H[a]?) : vx_Zq C n d A U H1 := ⟨va_Zq.kept h.1 hq, vx_L.kept h.2 hq⟩
theorem vx_Zq.narrow {C n d : String} {A B : Nat → Prop} {U : State} {H : Heap} (h : vx_Zq C n d A U H) (hAB : ∀ q, B q → A q) : vx_Zq C n d B U H := ⟨va_Zq.narrow h.1 hAB, vx_L.narrow h.2 hAB⟩
theorem vx_Zqof {args : Array Value} {s : State} {C n d : String} {A : Nat → Prop} (hl : (Cond.laysStatic C n d).before args s = true) (hini : (Cond.initialized C).before args s = true) (h : (Cond.isRef (.static C n d)).before args s = true) (hA : ∀ a : Nat, a < s.heap.size → ¬ A a) : vx_Zq C n d A s s.heap := by
  refine ⟨va_Zqof hl hini h hA, ?_⟩
  obtain ⟨c, k, i, f, a, cell, h1, h2, h3, h4, h5, h6, h7, h8, h9⟩ := Cond.laysStatic_spec hl
  exact ⟨c, k, i, f, a, cell, h1, h2, h3, h4, h5, h6, h7, h8, h9, hA a (Array.getElem?_eq_some_iff.mp h5).1⟩
theorem vx_isRef {C n d : String} {v : Value} {A : Nat → Prop} {s : State} {args : Array Value} (h : va_Z C n d v A s s.heap) (hv : v.isRef = true) : (Cond.isRef (.static C n d)).before args s = true := by
  obtain ⟨cf, kf, fi, f, a, cell, h1, h2, h3, h4, h5, h6, h7, -⟩ := h
  have he : (Term.static C n d).eval args s none [] s = some v := by
    simp [Term.eval, State.fieldNamed?, h1, h2, h4, h5, h6, h7]
  simp only [Cond.before, Cond.holds, Cond.value, he]
  cases v <;> simp_all [Value.isRef]
theorem vx_isRefq {C n d : String} {A : Nat → Prop} {s : State} {args : Array Value} (h : va_Zq C n d A s s.heap) : (Cond.isRef (.static C n d)).before args s = true := by
  rcases h with h | ⟨t, h⟩
  · exact vx_isRef h rfl
  · exact vx_isRef h rfl
/-- the same frame, seen from here: as if the method were called anew in this heap -/
theorem vx_rebase {T : State} (X : Stand p l e R s m args below meth c T locs cells slots) {R' : Room} (hf : R'.frames ≤ R.frames) (hl : R'.locals ≤ R.locals) (hc : cells + R'.cells ≤ R.cells) (hs : slots + R'.slots ≤ R.slots) :
    Stand p l e R' ((T.setVm s.vm).setFrames (.invoking m args :: below)) m args below meth c T [] 0 0 := by
  have htop : (T.setVm s.vm).topJava?.isSome := X.here.top
  have hF : ((T.setVm s.vm).setFrames (.invoking m args :: below)).frames = .invoking m args :: below := State.frames_setFrames _ (State.cur_lt_of_top htop)
  obtain ⟨g₀, hg0⟩ := Option.isSome_iff_exists.mp htop
  obtain ⟨r, hr⟩ := State.topJava?_eq_some.mp hg0
  have hl9 : e.platform.stackLimits (T.setVm s.vm).me = e.platform.stackLimits s.me := X.limits
  have hb9 : (T.setVm s.vm).me.stackBytes = s.me.stackBytes := X.bytes
  refine ⟨X.admits, X.cas, X.clock, hF, ?_, X.hears, X.method, X.code, X.here, X.tail, X.warmed, ?_, ?_, ?_⟩
  · have h := X.room
    have hU : ((T.setVm s.vm).setFrames (.invoking m args :: below)).localsInUse = s.localsInUse := by
      rw [State.localsInUse_invoking hF (meth := meth) (c := c) X.method X.code, State.localsInUse_invoking X.frames X.method X.code]
    simp only [State.hasRoom, Bool.and_eq_true, decide_eq_true_eq] at h ⊢
    obtain ⟨⟨⟨⟨h1, h2, h3, h4, h5, h6⟩, h7⟩, h8⟩, h9⟩ := h
    rw [X.frames, List.length_cons] at h2 h3
    have q1 := X.heapSize
    have q2 := X.used
    simp only [hF, hU, List.length_cons, State.stackLimits_setFrames, State.stackBytes_setFrames, hl9, hb9]
    refine ⟨⟨⟨⟨by omega, by omega, by omega, by omega, by omega, h6⟩, ?_⟩, ?_⟩, X.book⟩
    · show T.heap.size + R'.cells ≤ e.platform.maxCells
      omega
    · show T.slotsUsed + R'.slots ≤ e.platform.maxSlots
      omega
  · rw [State.stackLimits_setFrames]; rfl
  · rw [State.stackBytes_setFrames]; rfl
  · refine ⟨?_, Nat.le_refl _, Nat.le_refl _, ?_, ?_, fun a c9 h9 => ⟨c9, h9, rfl, rfl, fun _ _ => rfl⟩⟩
    · obtain ⟨t, ht, -⟩ := State.frames_cons hr
      show T.setVm s.vm = { ((T.setVm s.vm).setFrames (.invoking m args :: below)).setFrames (T.setVm s.vm).frames with heap := T.heap, slotsUsed := T.slotsUsed }
      rw [State.setFrames_setFrames, State.setFrames_self ht]
      rfl
    · show T.slotsUsed = T.slotsUsed + ((T.heap.toList.drop T.heap.size).map (·.slots.size)).sum
      rw [List.drop_eq_nil_of_le (Nat.le_of_eq Array.length_toList)]
      rfl
    · show ((T.heap.toList.drop T.heap.size).map (·.slots.size)).sum ≤ 0
      rw [List.drop_eq_nil_of_le (Nat.le_of_eq Array.length_toList)]
      exact Nat.le_refl _
/-- 'throw new E()': new; dup; invokespecial; athrow -/
theorem vx_throw0 {cc : ByteArray} {pc : Nat} (hexec : p.tables.exec = Jvm.exec) (hb : c.code = cc) (hl : l.stackTraces = false) {own cls : String} {names : List String} {ik ic mc ms : Nat} {A : Nat → Prop}
    (hown : s.vm.findClass own = some m.cls) (hcls : Bundle.fit cls = true) (hnames : ∀ n ∈ names, Bundle.fit n = true)
    (hk : (Cond.classLink own ik cls).before args s = true) (hini : (Cond.initialized cls).before args s = true) (hat : ∀ w ∈ vx_at0 own ic cls names, w.before args s = true)
    (hgood : ∀ w ∈ Cond.classLink own ik cls :: Cond.initialized cls :: vx_at0 own ic cls names, vx_ot w = true)
    (hU : vx_Zq Bundle.tN "UNASSIGNED_STACK" Bundle.steD A s s.heap) (hN : vx_Zq Bundle.tN "SUPPRESSED_SENTINEL" Bundle.listD A s s.heap) (hS : va_S A s.heap H locs) (hsize : ls.size = c.maxLocals)
    (d0 : decode cc pc = .ok (.new ik, 3)) (d3 : decode cc (pc + 3) = .ok (.dup, 1)) (d4 : decode cc (pc + 4) = .ok (.invokespecial ic, 3)) (d7 : decode cc (pc + 7) = .ok (.athrow, 1))
    (hout : ∀ x ∈ c.exceptionTable.toList, covers x (pc + 7) = false)
    (hRframes : names.length + 3 < R.frames) (hRlocals : (rest.map fun v => v.category).sum + (13 * (names.length + 1) + 42) ≤ R.locals) (hRcells : cells + 1 ≤ R.cells) (hRslots : slots + 6 ≤ R.slots) (hlocks : meth.locks = false)
    (hx : ∀ t : State, s.vm.Alike t.vm → H.size ≤ t.heap.size → (∀ q : Nat, q < H.size → t.heap[q]? = H[q]?) → XC cls s t)
    (hf : ∀ z ∈ locs, free z.base) (hc : cells + 1 ≤ mc) (hs : slots + 6 ≤ ms) :
    W p l e R s m args below meth c H locs cells slots (vx_MQ below Qc XC args s mc ms free) (F0 m pc ls rest) := by
  intro T hT X
  have htr : e.platform.stackTraces = false := (show e.platform.stackTraces = l.stackTraces by rw [X.admits.platform]).trans hl
  have Y := vx_rebase X (R' := { frames := R.frames, locals := R.locals, cells := 1, slots := 6 }) (Nat.le_refl _) (Nat.le_refl _) hRcells hRslots
  obtain ⟨s', hA⟩ : ∃ z, z = (T.setVm s.vm).setFrames (.invoking m args :: below) := ⟨_, rfl⟩
  rw [← hA] at Y
  have hvm : s'.vm = s.vm := by rw [hA]; rfl
  have hhp : s'.heap = H := by rw [hA]; exact hT
  have hW0 : s.WarmedH s'.vm := by rw [hvm]; exact State.WarmedH.refl s
  have hat' : ∀ w ∈ vx_at0 own ic cls names, w.before args s' = true := fun w hw => vx_ot_at hW0 hvm.symm (hgood w (List.mem_cons_of_mem _ (List.mem_cons_of_mem _ hw))) (hat w hw)
  have hk' : (Cond.classLink own ik cls).before args s' = true := vx_ot_at hW0 hvm.symm (hgood _ List.mem_cons_self) hk
  have hini' : (Cond.initialized cls).before args s' = true := vx_ot_at hW0 hvm.symm (hgood _ (List.mem_cons_of_mem _ List.mem_cons_self)) hini
  have hU' : vx_Zq Bundle.tN "UNASSIGNED_STACK" Bundle.steD A s' s'.heap := by rw [hhp]; exact vx_Zq.moved hW0.alike (hU.kept hS.2.1)
  have hN' : vx_Zq Bundle.tN "SUPPRESSED_SENTINEL" Bundle.listD A s' s'.heap := by rw [hhp]; exact vx_Zq.moved hW0.alike (hN.kept hS.2.1)
  have h : ∀ w ∈ Bundle.ownAtoms0 own ic cls names, w.before args s' = true := vx_own hat' (vx_isRefq hU'.1) (vx_isRefq hN'.1) hU'.2.word hN'.2.word
  have hown' : s'.vm.findClass own = some m.cls := by rw [hvm]; exact hown
  have hins : (Cond.instantiable cls 6).before args s' = true := h _ (by simp [Bundle.ownAtoms0])
  obtain ⟨vm₁, cX, kX, hfX, hkX, -, -, X₁, st1⟩ := Y.newCold hexec (own := own) (C := cls) (index := ik) (n := 6) hown' hk' hins hini'
    (g := F0 m pc ls rest) rfl (by rw [hb]; exact d0) (Nat.le_refl _) (Nat.le_refl _)
  generalize hT1 : (T.setVm vm₁).pushCell { cls := cX, slots := kX.instanceTypes.map defaultValue, vm := .none } = T1 at X₁ st1
  have hcat : (Value.ref T.heap.size).category = 1 := rfl
  have hcellA : T1.heap[T.heap.size]? = some (freshCell cX kX) := by rw [← hT1]; exact State.heap_pushCell_size _ _
  have d3' : decode c.code (pc + 3) = .ok (.dup, 1) := by rw [hb]; exact d3
  obtain ⟨U, hsteps, hrun, hend, hW, hsame, ce, hce, hO⟩ := X₁.ctorThrow0 hexec htr (own := own) (cls := cls) (names := names) (ic := ic) hown' hcls hnames h (fun x hx => nomatch hx) hfX hkX hcellA (by rw [hhp, hT]; exact Nat.le_refl _)
    (g := { method := m, pc := pc + 4, locals := ls, stack := .ref T.heap.size :: .ref T.heap.size :: rest, locked := none }) rfl hsize rfl rfl (rest := rest) rfl
    (by rw [hb]; exact d4) (by rw [hb]; exact d7) hout hRframes (by simp only [List.map_cons, List.sum_cons, hcat]; omega) hlocks
  obtain ⟨f1, f2⟩ := vx_frame hsame
  rw [hhp] at f1 f2
  have hWs : s.WarmedH U.vm := State.WarmedH.trans hW0 hW
  have hcl : s.vm.findClass cls = some ce.cls := by
    have h9 := hO.cls
    rw [hvm] at h9
    exact h9
  have hall : s.sameButNew ({ U with vm := s.vm } : State) locs mc ms := by
    subst hA
    obtain ⟨e1, e2⟩ := hsame
    rw [State.setFrames_setFrames] at e1
    have h2 : (T.setVm s.vm).sameButNew ({ U with vm := s.vm } : State) [] (0 + 1) (0 + 6) := ⟨e1, e2⟩
    have h3 := X.same.trans h2
    rw [List.append_nil] at h3
    exact h3.mono hc hs
  refine ⟨U, ?_, .threw T.heap.size, hrun, hend, Or.inr ⟨T.heap.size, rfl, cls, ce, locs, hx U hWs.alike f1 (fun q hq => f2 q hq (fun z hz => nomatch hz)), hce, hO.vm, hcl, hWs, hall, hf⟩⟩
  refine st1 _ ?_
  show Steps p.tables e below (T1.setTop { method := m, pc := pc + 3, locals := ls, stack := .ref T.heap.size :: rest, locked := none }) _
  jvm_step X₁.here [X₁.here.top, hexec, d3', Value.category]
  exact hsteps
/-- 'throw new E("text")': new; dup; ldc; invokespecial; athrow -/
theorem vx_throwS {cc : ByteArray} {pc : Nat} (hexec : p.tables.exec = Jvm.exec) (hb : c.code = cc) (hl : l.stackTraces = false) {own cls text : String} {names : List String} {ik is ic mc ms sa : Nat} {A : Nat → Prop}
    (hown : s.vm.findClass own = some m.cls) (hcls : Bundle.fit cls = true) (hnames : ∀ n ∈ names, Bundle.fit n = true)
    (hk : (Cond.classLink own ik cls).before args s = true) (hini : (Cond.initialized cls).before args s = true) (hstr : vk_R own is text sa s) (hat : ∀ w ∈ vx_atS own ic cls names, w.before args s = true)
    (hgood : ∀ w ∈ Cond.classLink own ik cls :: Cond.initialized cls :: vx_atS own ic cls names, vx_ot w = true)
    (hU : vx_Zq Bundle.tN "UNASSIGNED_STACK" Bundle.steD A s s.heap) (hN : vx_Zq Bundle.tN "SUPPRESSED_SENTINEL" Bundle.listD A s s.heap) (hS : va_S A s.heap H locs) (hsize : ls.size = c.maxLocals)
    (d0 : decode cc pc = .ok (.new ik, 3)) (d3 : decode cc (pc + 3) = .ok (.dup, 1)) (d4 : decode cc (pc + 4) = .ok (.ldc is, 2)) (d6 : decode cc (pc + 6) = .ok (.invokespecial ic, 3)) (d9 : decode cc (pc + 9) = .ok (.athrow, 1))
    (hout : ∀ x ∈ c.exceptionTable.toList, covers x (pc + 9) = false)
    (hRframes : names.length + 3 < R.frames) (hRlocals : (rest.map fun v => v.category).sum + (13 * (names.length + 1) + 43) ≤ R.locals) (hRcells : cells + 1 ≤ R.cells) (hRslots : slots + 6 ≤ R.slots) (hlocks : meth.locks = false)
    (hx : ∀ t : State, s.vm.Alike t.vm → H.size ≤ t.heap.size → (∀ q : Nat, q < H.size → t.heap[q]? = H[q]?) → XC cls s t)
    (hf : ∀ z ∈ locs, free z.base) (hc : cells + 1 ≤ mc) (hs : slots + 6 ≤ ms) :
    W p l e R s m args below meth c H locs cells slots (vx_MQ below Qc XC args s mc ms free) (F0 m pc ls rest) := by
  intro T hT X
  have htr : e.platform.stackTraces = false := (show e.platform.stackTraces = l.stackTraces by rw [X.admits.platform]).trans hl
  have Y := vx_rebase X (R' := { frames := R.frames, locals := R.locals, cells := 1, slots := 6 }) (Nat.le_refl _) (Nat.le_refl _) hRcells hRslots
  obtain ⟨s', hA⟩ : ∃ z, z = (T.setVm s.vm).setFrames (.invoking m args :: below) := ⟨_, rfl⟩
  rw [← hA] at Y
  have hvm : s'.vm = s.vm := by rw [hA]; rfl
  have hhp : s'.heap = H := by rw [hA]; exact hT
  have hW0 : s.WarmedH s'.vm := by rw [hvm]; exact State.WarmedH.refl s
  have hat' : ∀ w ∈ vx_atS own ic cls names, w.before args s' = true := fun w hw => vx_ot_at hW0 hvm.symm (hgood w (List.mem_cons_of_mem _ (List.mem_cons_of_mem _ hw))) (hat w hw)
  have hk' : (Cond.classLink own ik cls).before args s' = true := vx_ot_at hW0 hvm.symm (hgood _ List.mem_cons_self) hk
  have hini' : (Cond.initialized cls).before args s' = true := vx_ot_at hW0 hvm.symm (hgood _ (List.mem_cons_of_mem _ List.mem_cons_self)) hini
  have hU' : vx_Zq Bundle.tN "UNASSIGNED_STACK" Bundle.steD A s' s'.heap := by rw [hhp]; exact vx_Zq.moved hW0.alike (hU.kept hS.2.1)
  have hN' : vx_Zq Bundle.tN "SUPPRESSED_SENTINEL" Bundle.listD A s' s'.heap := by rw [hhp]; exact vx_Zq.moved hW0.alike (hN.kept hS.2.1)
  have h : ∀ w ∈ Bundle.ownAtoms own ic cls names, w.before args s' = true := vx_own hat' (vx_isRefq hU'.1) (vx_isRefq hN'.1) hU'.2.word hN'.2.word
  have hown' : s'.vm.findClass own = some m.cls := by rw [hvm]; exact hown
  have hins : (Cond.instantiable cls 6).before args s' = true := h _ (by simp [Bundle.ownAtoms])
  obtain ⟨vm₁, cX, kX, hfX, hkX, -, -, X₁, st1⟩ := Y.newCold hexec (own := own) (C := cls) (index := ik) (n := 6) hown' hk' hins hini'
    (g := F0 m pc ls rest) rfl (by rw [hb]; exact d0) (Nat.le_refl _) (Nat.le_refl _)
  generalize hT1 : (T.setVm vm₁).pushCell { cls := cX, slots := kX.instanceTypes.map defaultValue, vm := .none } = T1 at X₁ st1
  have hcat : (Value.ref T.heap.size).category = 1 := rfl
  have hcellA : T1.heap[T.heap.size]? = some (freshCell cX kX) := by rw [← hT1]; exact State.heap_pushCell_size _ _
  have d3' : decode c.code (pc + 3) = .ok (.dup, 1) := by rw [hb]; exact d3
  have d4' : decode c.code (pc + 4) = .ok (.ldc is, 2) := by rw [hb]; exact d4
  have hstr' : vk_R own is text sa s' := vk_R.warm hW0 hstr
  obtain ⟨U, hsteps, hrun, hend, hW, hsame, ce, hce, hO⟩ := X₁.ctorThrowS hexec htr (own := own) (cls := cls) (names := names) (ic := ic) hown' hcls hnames h (fun x hx => nomatch hx) hfX hkX hcellA (by rw [hhp, hT]; exact Nat.le_refl _) (msg := .ref sa) rfl
    (g := { method := m, pc := pc + 6, locals := ls, stack := .ref sa :: .ref T.heap.size :: .ref T.heap.size :: rest, locked := none }) rfl hsize rfl rfl (rest := rest) rfl
    (by rw [hb]; exact d6) (by rw [hb]; exact d9) hout hRframes (by simp only [List.map_cons, List.sum_cons, hcat]; omega) hlocks
  obtain ⟨f1, f2⟩ := vx_frame hsame
  rw [hhp] at f1 f2
  have hWs : s.WarmedH U.vm := State.WarmedH.trans hW0 hW
  have hcl : s.vm.findClass cls = some ce.cls := by
    have h9 := hO.cls
    rw [hvm] at h9
    exact h9
  have hall : s.sameButNew ({ U with vm := s.vm } : State) locs mc ms := by
    subst hA
    obtain ⟨e1, e2⟩ := hsame
    rw [State.setFrames_setFrames] at e1
    have h2 : (T.setVm s.vm).sameButNew ({ U with vm := s.vm } : State) [] (0 + 1) (0 + 6) := ⟨e1, e2⟩
    have h3 := X.same.trans h2
    rw [List.append_nil] at h3
    exact h3.mono hc hs
  refine ⟨U, ?_, .threw T.heap.size, hrun, hend, Or.inr ⟨T.heap.size, rfl, cls, ce, locs, hx U hWs.alike f1 (fun q hq => f2 q hq (fun z hz => nomatch hz)), hce, hO.vm, hcl, hWs, hall, hf⟩⟩
  refine st1 _ ?_
  show Steps p.tables e below (T1.setTop { method := m, pc := pc + 3, locals := ls, stack := .ref T.heap.size :: rest, locked := none }) _
  jvm_step X₁.here [X₁.here.top, hexec, d3', Value.category]
  exact X₁.ldcString hexec (own := own) (text := text) (index := is) (a := sa) hown' hstr'.1 hstr'.2
    (g := { method := m, pc := pc + 4, locals := ls, stack := .ref T.heap.size :: .ref T.heap.size :: rest, locked := none }) rfl d4' _ hsteps
/-- 'throw new E("text")', the text by a wide index -/
theorem vx_throwSW {cc : ByteArray} {pc : Nat} (hexec : p.tables.exec = Jvm.exec) (hb : c.code = cc) (hl : l.stackTraces = false) {own cls text : String} {names : List String} {ik is ic mc ms sa : Nat} {A : Nat → Prop}
    (hown : s.vm.findClass own = some m.cls) (hcls : Bundle.fit cls = true) (hnames : ∀ n ∈ names, Bundle.fit n = true)
    (hk : (Cond.classLink own ik cls).before args s = true) (hini : (Cond.initialized cls).before args s = true) (hstr : vk_R own is text sa s) (hat : ∀ w ∈ vx_atS own ic cls names, w.before args s = true)
    (hgood : ∀ w ∈ Cond.classLink own ik cls :: Cond.initialized cls :: vx_atS own ic cls names, vx_ot w = true)
    (hU : vx_Zq Bundle.tN "UNASSIGNED_STACK" Bundle.steD A s s.heap) (hN : vx_Zq Bundle.tN "SUPPRESSED_SENTINEL" Bundle.listD A s s.heap) (hS : va_S A s.heap H locs) (hsize : ls.size = c.maxLocals)
    (d0 : decode cc pc = .ok (.new ik, 3)) (d3 : decode cc (pc + 3) = .ok (.dup, 1)) (d4 : decode cc (pc + 4) = .ok (.ldc_w is, 3)) (d7 : decode cc (pc + 7) = .ok (.invokespecial ic, 3)) (d10 : decode cc (pc + 10) = .ok (.athrow, 1))
    (hout : ∀ x ∈ c.exceptionTable.toList, covers x (pc + 10) = false)
    (hRframes : names.length + 3 < R.frames) (hRlocals : (rest.map fun v => v.category).sum + (13 * (names.length + 1) + 43) ≤ R.locals) (hRcells : cells + 1 ≤ R.cells) (hRslots : slots + 6 ≤ R.slots) (hlocks : meth.locks = false)
    (hx : ∀ t : State, s.vm.Alike t.vm → H.size ≤ t.heap.size → (∀ q : Nat, q < H.size → t.heap[q]? = H[q]?) → XC cls s t)
    (hf : ∀ z ∈ locs, free z.base) (hc : cells + 1 ≤ mc) (hs : slots + 6 ≤ ms) :
    W p l e R s m args below meth c H locs cells slots (vx_MQ below Qc XC args s mc ms free) (F0 m pc ls rest) := by
  intro T hT X
  have htr : e.platform.stackTraces = false := (show e.platform.stackTraces = l.stackTraces by rw [X.admits.platform]).trans hl
  have Y := vx_rebase X (R' := { frames := R.frames, locals := R.locals, cells := 1, slots := 6 }) (Nat.le_refl _) (Nat.le_refl _) hRcells hRslots
  obtain ⟨s', hA⟩ : ∃ z, z = (T.setVm s.vm).setFrames (.invoking m args :: below) := ⟨_, rfl⟩
  rw [← hA] at Y
  have hvm : s'.vm = s.vm := by rw [hA]; rfl
  have hhp : s'.heap = H := by rw [hA]; exact hT
  have hW0 : s.WarmedH s'.vm := by rw [hvm]; exact State.WarmedH.refl s
  have hat' : ∀ w ∈ vx_atS own ic cls names, w.before args s' = true := fun w hw => vx_ot_at hW0 hvm.symm (hgood w (List.mem_cons_of_mem _ (List.mem_cons_of_mem _ hw))) (hat w hw)
  have hk' : (Cond.classLink own ik cls).before args s' = true := vx_ot_at hW0 hvm.symm (hgood _ List.mem_cons_self) hk
  have hini' : (Cond.initialized cls).before args s' = true := vx_ot_at hW0 hvm.symm (hgood _ (List.mem_cons_of_mem _ List.mem_cons_self)) hini
  have hU' : vx_Zq Bundle.tN "UNASSIGNED_STACK" Bundle.steD A s' s'.heap := by rw [hhp]; exact vx_Zq.moved hW0.alike (hU.kept hS.2.1)
  have hN' : vx_Zq Bundle.tN "SUPPRESSED_SENTINEL" Bundle.listD A s' s'.heap := by rw [hhp]; exact vx_Zq.moved hW0.alike (hN.kept hS.2.1)
  have h : ∀ w ∈ Bundle.ownAtoms own ic cls names, w.before args s' = true := vx_own hat' (vx_isRefq hU'.1) (vx_isRefq hN'.1) hU'.2.word hN'.2.word
  have hown' : s'.vm.findClass own = some m.cls := by rw [hvm]; exact hown
  have hins : (Cond.instantiable cls 6).before args s' = true := h _ (by simp [Bundle.ownAtoms])
  obtain ⟨vm₁, cX, kX, hfX, hkX, -, -, X₁, st1⟩ := Y.newCold hexec (own := own) (C := cls) (index := ik) (n := 6) hown' hk' hins hini'
    (g := F0 m pc ls rest) rfl (by rw [hb]; exact d0) (Nat.le_refl _) (Nat.le_refl _)
  generalize hT1 : (T.setVm vm₁).pushCell { cls := cX, slots := kX.instanceTypes.map defaultValue, vm := .none } = T1 at X₁ st1
  have hcat : (Value.ref T.heap.size).category = 1 := rfl
  have hcellA : T1.heap[T.heap.size]? = some (freshCell cX kX) := by rw [← hT1]; exact State.heap_pushCell_size _ _
  have d3' : decode c.code (pc + 3) = .ok (.dup, 1) := by rw [hb]; exact d3
  have d4' : decode c.code (pc + 4) = .ok (.ldc_w is, 3) := by rw [hb]; exact d4
  have hstr' : vk_R own is text sa s' := vk_R.warm hW0 hstr
  obtain ⟨U, hsteps, hrun, hend, hW, hsame, ce, hce, hO⟩ := X₁.ctorThrowS hexec htr (own := own) (cls := cls) (names := names) (ic := ic) hown' hcls hnames h (fun x hx => nomatch hx) hfX hkX hcellA (by rw [hhp, hT]; exact Nat.le_refl _) (msg := .ref sa) rfl
    (g := { method := m, pc := pc + 7, locals := ls, stack := .ref sa :: .ref T.heap.size :: .ref T.heap.size :: rest, locked := none }) rfl hsize rfl rfl (rest := rest) rfl
    (by rw [hb]; exact d7) (by rw [hb]; exact d10) hout hRframes (by simp only [List.map_cons, List.sum_cons, hcat]; omega) hlocks
  obtain ⟨f1, f2⟩ := vx_frame hsame
  rw [hhp] at f1 f2
  have hWs : s.WarmedH U.vm := State.WarmedH.trans hW0 hW
  have hcl : s.vm.findClass cls = some ce.cls := by
    have h9 := hO.cls
    rw [hvm] at h9
    exact h9
  have hall : s.sameButNew ({ U with vm := s.vm } : State) locs mc ms := by
    subst hA
    obtain ⟨e1, e2⟩ := hsame
    rw [State.setFrames_setFrames] at e1
    have h2 : (T.setVm s.vm).sameButNew ({ U with vm := s.vm } : State) [] (0 + 1) (0 + 6) := ⟨e1, e2⟩
    have h3 := X.same.trans h2
    rw [List.append_nil] at h3
    exact h3.mono hc hs
  refine ⟨U, ?_, .threw T.heap.size, hrun, hend, Or.inr ⟨T.heap.size, rfl, cls, ce, locs, hx U hWs.alike f1 (fun q hq => f2 q hq (fun z hz => nomatch hz)), hce, hO.vm, hcl, hWs, hall, hf⟩⟩
  refine st1 _ ?_
  show Steps p.tables e below (T1.setTop { method := m, pc := pc + 3, locals := ls, stack := .ref T.heap.size :: rest, locked := none }) _
  jvm_step X₁.here [X₁.here.top, hexec, d3', Value.category]
  exact X₁.ldcStringW hexec (own := own) (text := text) (index := is) (a := sa) hown' hstr'.1 hstr'.2
    (g := { method := m, pc := pc + 4, locals := ls, stack := .ref T.heap.size :: .ref T.heap.size :: rest, locked := none }) rfl d4' _ hsteps
end Ends
section Bodies
variable {l : Launch}
theorem vx_ofW {y : MethodName} {ws ws' : List Cond} {rm : Room} {Pc : Array Value → State → Prop} {Qc : Array Value → State → Outcome → State → Prop} {XC : String → State → State → Prop} {mc ms : Nat} {free : Addr → Prop} {cc : ByteArray} {maxL : Nat} {ret : Option FieldType}
    (hy : plainName y.cls = true) (hw : ws = Cond.code y cc maxL ret :: ws')
    (body : ∀ p e s m args below meth c s₁, BodyLoose p l y (headSpec ws rm) cc maxL ret e s m args below meth c s₁ → c.maxLocals = maxL → (∀ x ∈ c.exceptionTable.toList, False) → Pc args s →
      W p l e (headSpec ws rm).room s m args below meth c s.heap [] 0 0 (vx_MQ below Qc XC args s mc ms free) (entryFrame m args maxL)) : vx_Met l y ws rm Pc Qc XC mc ms free := by
  refine MetFree.of_bodyS (code := cc) (maxLocals := maxL) (ret := ret) hy ?_ ?_
  · intro args s m h hn
    obtain ⟨meth, c, h1, h2, h3, h4, h5, h6, -, -⟩ := Cond.code_spec hn (atoms_spec (ws := ws) h _ (by rw [hw]; exact List.mem_cons_self))
    exact ⟨meth, c, h1, h2, h3, h4, h5, h6⟩
  · intro p e s m args below meth c s₁ B hml hP _
    have hh0 : s₁.heap = s.heap := by rw [B.state]; rfl
    have ht : ∀ x ∈ c.exceptionTable.toList, False := by
      obtain ⟨meth9, c9, h1, h2, -, -, -, -, h7, -⟩ := Cond.code_spec B.named (atoms_spec (ws := ws) B.pre _ (by rw [hw]; exact List.mem_cons_self))
      cases Option.some.inj (h1.symm.trans B.method)
      cases Option.some.inj (h2.symm.trans (Stand.of_body B).code)
      intro x hx
      rw [Array.isEmpty_iff.mp h7] at hx
      cases hx
    obtain ⟨t, a1, o, b1, b2, b3⟩ := body p e s m args below meth c s₁ B hml ht hP s₁ hh0 (Stand.of_body B)
    exact ⟨t, o, a1, b1, b2, b3⟩
/-- the table of a body with handlers -/
theorem vx_table {p : Program} {x y : MethodName} {S : Spec} {cc bytes : ByteArray} {maxL maxL' : Nat} {ret ret' : Option FieldType} {e : Env} {s s₁ : State} {m : MethodId} {args : Array Value} {below : List Frame} {meth : Method} {c : Code} {hh : List (Nat × Nat × Nat × Nat)}
    (B : BodyLoose p l y S cc maxL ret e s m args below meth c s₁) (h : (Cond.codeWith y bytes maxL' ret' hh).before args s = true) : c.exceptionTable.toList = tableOf hh := by
  obtain ⟨m9, meth9, c9, hn9, h1, h2, -, -, h6, -⟩ := Cond.codeWith_spec h
  cases Option.some.inj (hn9.symm.trans B.named)
  cases Option.some.inj (h1.symm.trans B.method)
  cases Option.some.inj (h2.symm.trans (Stand.of_body B).code)
  rw [← h6, table_eq]
end Bodies
end VXA
/-! ===== END ===== -/
/-! ===== BEGIN a static call of a method with an exception table ===== -/
section VXS
variable {p : Program} {l : Launch} {e : Env} {R : Room} {s : State} {m : MethodId} {args : Array Value} {below : List Frame} {meth : Method} {c : Code} {T : State} {H : Heap} {locs : List Loc} {cells slots : Nat}
abbrev vx_CSW (R : Room) (s : State) (args : Array Value) (own : String) (index : Nat) (y : MethodName) (bytes : ByteArray) (maxL : Nat) (ret : Option FieldType) (hh : List (Nat × Nat × Nat × Nat)) (ws : List Cond) (rm : Room) (mc ms n : Nat) : Prop :=
  (rm.cells = mc ∧ rm.slots = ms ∧ rm.frames + 1 ≤ R.frames ∧ 8 + (maxL + 11) + rm.locals ≤ R.locals ∧ (∀ w ∈ ws, ∀ (a' : Array Value) (U : State), s.WarmedH U.vm → w.before a' U = true) ∧ Cond.codeWith y bytes maxL ret hh ∈ ws) ∧
  (Cond.codeWith y bytes maxL ret hh).before args s = true ∧ (Cond.initialized y.cls).before args s = true ∧ (y.cls ≠ "java/lang/invoke/MethodHandle" ∧ y.cls ≠ "java/lang/invoke/VarHandle") ∧
  (∀ sig, parseMethodDescriptor y.desc = some sig → n = sig.parameters.length) ∧ (Cond.methodLink own index y).before args s = true ∧ (Cond.static y).before args s = true
theorem vx_cwSW {own : String} {index maxL mc ms : Nat} {y : MethodName} {bytes : ByteArray} {ret : Option FieldType} {hh : List (Nat × Nat × Nat × Nat)} {Ts ws ws' : List Cond} {rm : Room} (n : Nat) (ht : ∀ w ∈ Ts, w.before args s = true) (hT : GoodIn Ts (va_wsS own index y ws)) (hw : ws = Cond.codeWith y bytes maxL ret hh :: ws') (hrc : rm.cells = mc) (hrs : rm.slots = ms)
    (hd : y.cls ≠ "java/lang/invoke/MethodHandle" ∧ y.cls ≠ "java/lang/invoke/VarHandle" ∧ (parseMethodDescriptor y.desc).map (fun d => d.parameters.length) = some n) (hR : rm.frames + 1 ≤ R.frames ∧ 8 + (maxL + 11) + rm.locals ≤ R.locals) :
    vx_CSW R s args own index y bytes maxL ret hh ws rm mc ms n := by
  have ok : ∀ w ∈ va_wsS own index y ws, w.before args s = true := fun w h => ht w (hT w h).1
  have hG : GoodIn Ts ws := fun w h => hT w (by unfold va_wsS; exact List.mem_append_right _ h)
  have hc : Cond.codeWith y bytes maxL ret hh ∈ ws := by rw [hw]; exact List.mem_cons_self
  refine ⟨⟨hrc, hrs, hR.1, hR.2, pay_in ht hG, hc⟩, ht _ (hG _ hc).1, ok _ (by simp [va_wsS]), ⟨hd.1, hd.2.1⟩, fun sig h => ?_, ok _ (by simp [va_wsS]), ok _ (by simp [va_wsS])⟩
  have h2 := hd.2.2
  rw [h] at h2
  exact (Option.some.inj h2).symm
theorem vx_callSW (X : Stand p l e R s m args below meth c T locs cells slots) (hexec : p.tables.exec = Jvm.exec) {own : String} {index : Nat} {y : MethodName} {bytes : ByteArray} {maxL : Nat} {ret : Option FieldType} {hh : List (Nat × Nat × Nat × Nat)}
    (hown : s.vm.findClass own = some m.cls) (hlink : (Cond.methodLink own index y).before args s = true) (hstat : (Cond.static y).before args s = true) (hinit : (Cond.initialized y.cls).before args s = true)
    (hcode : (Cond.codeWith y bytes maxL ret hh).before args s = true) (hy : y.cls ≠ "java/lang/invoke/MethodHandle" ∧ y.cls ≠ "java/lang/invoke/VarHandle")
    {W9 : Nat} {Pre : Pt → Array Value → Prop} {Post : Pt → Array Value → Option Value → Pt → Prop} (hK : Back l R p e below s args y 3 W9 Pre Post)
    {g : JFrame} (hg : g.method = m) (hsize : g.locals.size = c.maxLocals) {argsL rest : List Value} (hlen : ∀ sig, parseMethodDescriptor y.desc = some sig → argsL.length = sig.parameters.length)
    (hstack : g.stack = argsL.reverse ++ rest) (hW : 2 * g.monitorRoom + (rest.map fun v => v.category).sum ≤ W9) (hdg : decode c.code g.pc = .ok (.invokestatic index, 3))
    (hpre : ∀ vm₁, s.WarmedH vm₁ → Pre ⟨T.setVm vm₁, locs, cells, slots⟩ argsL.toArray) :
    ∃ (v : Option Value) (vm₁ : Vm) (B : Pt), s.WarmedH vm₁ ∧ Stand p l e R s m args below meth c B.U B.locs B.cells B.slots ∧ Post ⟨T.setVm vm₁, locs, cells, slots⟩ argsL.toArray v B ∧
      ∀ target, Steps p.tables e below (B.U.setTop { g with pc := g.pc + 3, stack := v.toList ++ rest }) target → Steps p.tables e below (T.setTop g) target := by
  obtain ⟨mk, methM, cM, hnamed, hmethM, -, -, -, -, -, -, hsigM⟩ := Cond.codeWith_spec hcode
  have hstatic : methM.isStatic = true := Cond.static_spec hnamed hmethM hstat
  obtain ⟨kP, hkP, -⟩ := className_of_methodNamed hnamed
  have hinitP : kP.init = .initialized := Cond.initialized_spec (findClass_of_methodNamed hnamed) hkP hinit
  obtain ⟨vm₁, X₁, hstep₁⟩ := X.invokestatic hexec hown hlink hnamed hmethM hstatic hkP hinitP hy (g := g) hg (argsL := argsL) (rest := rest) (hlen _ hsigM) hstack hdg
  obtain ⟨v, B, X', hpost, hsteps⟩ := hK m meth c ⟨T.setVm vm₁, locs, cells, slots⟩ { g with stack := rest } (.invokestatic index) mk argsL.toArray X₁ hg hsize hdg hW (X₁.named hnamed) (hpre vm₁ X₁.warmed)
  exact ⟨v, vm₁, B, X₁.warmed, X', hpost, fun target h => hstep₁ _ fun acts => by rw [doInvoke_state]; exact hsteps.trans h⟩
theorem vx_runSW {y : MethodName} {bytes cc : ByteArray} {maxL nL mc ms n index : Nat} {ret : Option FieldType} {hh : List (Nat × Nat × Nat × Nat)} {ws : List Cond} {rm : Room} {Pc : Array Value → State → Prop} {Qc : Array Value → State → Outcome → State → Prop} {free : Addr → Prop} {Ts : List Cond} {own : String} {As rest : List Value} {g : JFrame}
    (S : CallFix p m c cc nL s args Ts own) (hM : Met l y ws rm Pc Qc mc ms free) (cw : vx_CSW R s args own index y bytes maxL ret hh ws rm mc ms n) (hp : PreS s H Pc As)
    (hg : g.method = m) (hn : As.length = n) (hsize : g.locals.size = nL) (hstack : g.stack = As.reverse ++ rest) (hW : 2 * g.monitorRoom + (rest.map fun v => v.category).sum ≤ 8) (hdg : decode cc g.pc = .ok (.invokestatic index, 3)) (hf : cells + mc ≤ R.cells ∧ slots + ms ≤ R.slots) :
    va_Run p l e R s m args below meth c H locs cells slots mc ms g rest (Qc As.toArray) (free) := by
  obtain ⟨⟨hrc, hrs, hfr, hlo, hws, hcw⟩, hcode, hini, hy, hlen, hl, hstt⟩ := cw
  have hK : Back l R p e below s args y 3 8 (PreOf R mc ms Pc) (PostOf Qc mc ms free) := va_backW (hh := hh) (bytes := bytes) (maxL := maxL) (ret := ret) hM hp.1 hrc hrs hfr hlo hws hcw (fun a' U hW => word_at hW (Or.inl (by first | rfl | simp [Cond.onTables, Cond.keeps, Cond.steady])) hini)
  obtain ⟨hx, hb, hml, ho, -⟩ := S
  intro T hT X
  obtain ⟨v, vm₁, ⟨U', l2, c2, s2⟩, hW₁, X', ⟨g', mk, t, L, e1, e2, hq, h1, hL, h2, h3⟩, st⟩ := vx_callSW X hx (hh := hh) (bytes := bytes) (maxL := maxL) (ret := ret) ho hl hstt hini hcode hy hK hg (hsize.trans hml.symm) (argsL := As) (rest := rest) (fun sig h => hn.trans (hlen sig h)) hstack hW (by rw [hb]; exact hdg)
    (fun vm₁ hW₁ => ⟨hf.1, hf.2, hp.2 (T.setVm vm₁) hT hW₁⟩)
  dsimp only [Pt.U, Pt.locs, Pt.cells, Pt.slots] at X' e1 e2 h1 h2 h3 st
  subst h1; subst h2; subst h3
  exact ⟨v, (T.setVm vm₁).calling g' mk As.toArray, t, U', L, hT, X', hL, e1, e2, hq, st⟩
/-- not caught here, past rows that name other classes: it goes on to the caller -/
theorem vx_outP {p : Program} {l : Launch} {e : Env} {R : Room} {s : State} {m : MethodId} {args : Array Value} {below : List Frame} {meth : Method} {c : Code} {H : Heap} {locs : List Loc} {cells slots : Nat} {free : Addr → Prop} {ls : Array Slot} {rest : List Value} {Qc : Array Value → State → Outcome → State → Prop} {XC : String → State → State → Prop}
    {pc : Nat} {own E : String} {ce : Cell} {q : Addr} {mc ms : Nat} (hown : s.vm.findClass own = some m.cls) (hlocks : meth.locks = false)
    (hpass : ∀ z ∈ c.exceptionTable.toList, covers z pc = false ∨ (z.catchType ≠ 0 ∧ ∃ nm : String, (Cond.classLink own z.catchType nm).before args s = true ∧ va_Nc E nm s)) (hcell : H[q]? = some ce) (hv : ce.vm = .none) (hcl : s.vm.findClass E = some ce.cls)
    (hx : ∀ t : State, t.heap = H → s.vm.Alike t.vm → XC E s t) (hf : ∀ z ∈ locs, free z.base) (hc : cells ≤ mc) (hs : slots ≤ ms) :
    vx_W p l e R s m args below meth c H locs cells slots (vx_MQ below Qc XC args s mc ms free) (F0 m pc ls rest) q := by
  intro T hT X
  have hpl : e.platform.magicAccessors = ({} : Platform).magicAccessors := by rw [X.admits.platform]
  obtain ⟨vm', hW', X', st⟩ := X.outThrough hlocks q (g := F0 m pc ls rest) rfl rfl rfl (cell := ce) (by rw [hT]; exact hcell) (by rw [hv]; rfl)
    (by obtain ⟨k9, h9, -⟩ := Vm.findClass_spec hcl; exact ⟨k9, h9⟩) (fun z hz => by
      rcases hpass z hz with h | ⟨hz0, nm, hl1, hn1⟩
      · exact Or.inl h
      · obtain ⟨c6, hc6, hcl6⟩ := Cond.classLink_spec hown hl1 e.platform hpl
        obtain ⟨a8, b8, h1, h2, h3⟩ := hn1
        cases Option.some.inj (h1.symm.trans hcl)
        cases Option.some.inj (h2.symm.trans hc6)
        exact Or.inr ⟨hz0, _, hcl6, h3⟩)
  obtain ⟨g₀, hfr⟩ := X'.frames_eq
  have hcell9 : ((T.setVm vm').setFrames (.throwing q :: below)).heap[q]? = some ce := by
    show T.heap[q]? = some ce
    rw [hT]; exact hcell
  have hend : Ended ((T.setVm vm').setFrames (.throwing q :: below)) below (.threw q) := State.frames_setFrames _ (State.cur_lt_of_frames hfr)
  refine ⟨(T.setVm vm').setFrames (.throwing q :: below), ?_, .threw q, X'.here.running, hend, Or.inr ⟨q, rfl, E, ce, locs, hx _ hT (X'.ends _).1.alike, hcell9, hv, hcl, (X'.ends _).1, (X'.ends _).2.mono hc hs, hf⟩⟩
  rw [X.pushThrowing_eq]
  exact st
/-- a thing of a world lies in the heap -/
theorem vx_lt {D : va_G} {cl : List vw_C} {ws : va_W} {H1 : Heap} (h : va_P D cl ws H1) {k : Nat} {q : Nat × va_E} (hk : ws[k]? = some q) : q.1 < H1.size := (h k q hk).lt
end VXS
/-! ===== END ===== -/
/-! ===== BEGIN methods with a table of their own: called by a name, returning or throwing ===== -/
section VXH
/-! vx_backW, vx_callVX, vx_callSX, vx_callVW, vx_runVW, vx_runVX, vx_runSX, vx_ofWH follow the same proofs as their sisters above (Free/Laws.lean, Shelf42/LK1.lean); vx_outP calls Shelf42/NT130.lean (outThrough). -/
section
variable {l : Launch} {R : Room} {p : Program} {e : Env} {below : List Frame} {s : State} {sargs : Array Value} {y : MethodName} {len W9 : Nat}
theorem vx_backW {ws : List Cond} {rm : Room} {Pc : Array Value → State → Prop} {Qc : Array Value → State → Outcome → State → Prop} {XC : String → State → State → Prop} {mc ms : Nat} {free : Addr → Prop} {bytes : ByteArray} {maxL : Nat} {ret : Option FieldType} {hh : List (Nat × Nat × Nat × Nat)}
    (hM : vx_Met l y ws rm Pc Qc XC mc ms free) (hblind : FrameBlind Pc) (hrc : rm.cells = mc) (hrs : rm.slots = ms)
    (hframes : rm.frames + 1 ≤ R.frames) (hlocals : W9 + (maxL + 11) + rm.locals ≤ R.locals)
    (hws : ∀ w ∈ ws, ∀ a' U, s.WarmedH U.vm → w.before a' U = true) (hcode : Cond.codeWith y bytes maxL ret hh ∈ ws) (hinit : ∀ a' U, s.WarmedH U.vm → (Cond.initialized y.cls).before a' U = true) :
    vx_Back l R p e below s sargs y len W9 (PreOf R mc ms Pc) (PostOf Qc mc ms free) (vx_Post XC mc ms free) := by
  intro m meth c A g ig mk a X hg hsize hdg hW hn hp
  have h1 : (headSpec ws rm).pre.before a A.U = true := atoms_intro fun w hw => hws w hw _ _ X.warmed
  have h2 : (Cond.codeWith y bytes maxL ret hh).before a A.U = true := hws _ hcode _ _ X.warmed
  have h3 : (Cond.initialized y.cls).before a A.U = true := hinit _ _ X.warmed
  have h4 : A.cells + (headSpec ws rm).room.cells ≤ R.cells := by rw [show (headSpec ws rm).room.cells = mc from hrc]; exact hp.1
  have h5 : A.slots + (headSpec ws rm).room.slots ≤ R.slots := by rw [show (headSpec ws rm).room.slots = ms from hrs]; exact hp.2.1
  have hPc : Pc a (A.U.calling g mk a) := hblind _ _ _ _ hp.2.2
  obtain ⟨U, Ls, c0, s0⟩ := A
  dsimp only [Pt.U, Pt.locs, Pt.cells, Pt.slots] at h1 h2 h3 h4 h5 X hn hPc ⊢
  obtain ⟨m9, methY, cY, hn9, hmY, hcY, -, hlY, -⟩ := Cond.codeWith_spec h2
  cases Option.some.inj (hn9.symm.trans hn)
  obtain ⟨kY, hkY, -⟩ := className_of_methodNamed hn
  have hinitY : kY.init = .initialized := Cond.initialized_spec (findClass_of_methodNamed hn) hkY h3
  have h : At U g.method c below := by rw [hg]; exact X.here
  have hlocals9 : W9 + (maxL + 11) + (headSpec ws rm).room.locals ≤ R.locals := hlocals
  have happ : (headSpec ws rm).appliesLoose y e.platform (U.calling g mk a) = true :=
    Spec.appliesLoose_calling (g := g) h hdg hn hkY hinitY
      (X.room_calling (g := g) (R' := (headSpec ws rm).room) hsize hmY hcY hframes (by rw [hlY]; omega) h4 h5) h1
  obtain ⟨mid, hmid⟩ := h.above
  have hfr : (U.setTop g).frames = (.java g :: mid) ++ below := by rw [State.frames_setTop' g h.top, hmid]; rfl
  obtain ⟨o, s₂, hsteps, -, hend, hq⟩ := Steps.callFree hM p X.admits X.cas X.clock (acts := []) hfr happ hPc trivial
  have hq' : vx_Q Qc XC mc ms free a (U.calling g mk a) o s₂ := hq
  rw [State.frames_setTop' g h.top] at hend
  obtain ⟨g₀, hg0⟩ := Option.isSome_iff_exists.mp h.top
  obtain ⟨r, hr⟩ := State.topJava?_eq_some.mp hg0
  have hr' : (({ U with heap := s₂.heap, slotsUsed := s₂.slotsUsed } : State).setVm s₂.vm).frames = .java g₀ :: r := hr
  rcases hq' with ⟨hqc, L, hfe, hL⟩ | ⟨q, rfl, E, ce, L, hx, hce, hcv, hcl, hW₂, hsm, hL⟩
  · obtain ⟨⟨v, rfl⟩, hW₂, e2, q2, q3, q4, q5, q6⟩ := id hfe
    have e3 : s₂ = ({ (U.calling g mk a).setFrames s₂.frames with heap := s₂.heap, slotsUsed := s₂.slotsUsed } : State).setVm s₂.vm := by
      have : s₂ = ({ s₂ with vm := (U.calling g mk a).vm } : State).setVm s₂.vm := rfl
      rw [e2] at this
      exact this
    obtain ⟨c₂, i₂, len₂, hc₂, hd₂, hf₂⟩ := hend
    have hW' : U.WarmedH s₂.vm := hW₂
    have hcc : c₂ = c := by
      have h1 : s₂.code? g.method = U.code? g.method := by
        rw [State.code?_eq, State.code?_eq, hW'.alike.method?]
      exact Option.some.inj (hc₂.symm.trans (h1.trans h.code))
    subst hcc
    have hlen : len₂ = len := by rw [hdg] at hd₂; cases hd₂; rfl
    subst hlen
    have hs₂ : s₂ = (({ U with heap := s₂.heap, slotsUsed := s₂.slotsUsed } : State).setVm s₂.vm).setTop { g with pc := g.pc + len₂, stack := v.toList ++ g.stack } := by
      refine e3.trans ?_
      rw [hf₂, State.calling_eq h.top, State.setFrames_setFrames, State.setTop_of_frames _ hr', hr]
      rfl
    have hsame : U.sameButNew ({ U with heap := s₂.heap, slotsUsed := s₂.slotsUsed } : State) L mc ms := by
      refine ⟨?_, q2, q3, q4, q5, q6⟩
      obtain ⟨t, ht, -⟩ := State.frames_cons hr
      show ({ U with heap := s₂.heap, slotsUsed := s₂.slotsUsed } : State) = { U.setFrames U.frames with heap := s₂.heap, slotsUsed := s₂.slotsUsed }
      rw [State.setFrames_self ht]
    subst hg
    refine Or.inl ⟨v, ⟨(({ U with heap := s₂.heap, slotsUsed := s₂.slotsUsed } : State).setVm s₂.vm), Ls ++ L, c0 + mc, s0 + ms⟩,
      ⟨X.admits, X.cas, X.clock, X.frames, X.room, X.hears, X.method, X.code, (X.here.setHeapUsed s₂.heap s₂.slotsUsed).setVm hW'.alike, X.tail, State.WarmedH.trans X.warmed hW', X.limits, X.bytes, X.same.trans (hsame.setVm s.vm)⟩,
      ⟨g, mk, s₂, L, rfl, rfl, hqc, rfl, hL, rfl, rfl⟩, ?_⟩
    show Steps p.tables e below _ ((({ U with heap := s₂.heap, slotsUsed := s₂.slotsUsed } : State).setVm s₂.vm).setTop { g with pc := g.pc + len₂, stack := v.toList ++ g.stack })
    rw [← hs₂]
    exact hsteps
  · obtain ⟨e2, q2, q3, q4, q5, q6⟩ := id hsm
    have e3 : s₂ = ({ (U.calling g mk a).setFrames s₂.frames with heap := s₂.heap, slotsUsed := s₂.slotsUsed } : State).setVm s₂.vm := by
      have : s₂ = ({ s₂ with vm := (U.calling g mk a).vm } : State).setVm s₂.vm := rfl
      rw [e2] at this
      exact this
    have hf₂ : s₂.frames = .throwing q :: .java g :: U.frames.tail := hend
    have hW' : U.WarmedH s₂.vm := hW₂
    have hs₂ : s₂ = ((({ U with heap := s₂.heap, slotsUsed := s₂.slotsUsed } : State).setVm s₂.vm).setTop g).pushFrame (.throwing q) := by
      refine e3.trans ?_
      rw [hf₂, State.calling_eq h.top, State.setFrames_setFrames, State.pushFrame, State.frames_setTop _ hr', State.setTop_of_frames _ hr', State.setFrames_setFrames, hr]
      rfl
    have hsame : U.sameButNew ({ U with heap := s₂.heap, slotsUsed := s₂.slotsUsed } : State) L mc ms := by
      refine ⟨?_, q2, q3, q4, q5, q6⟩
      obtain ⟨t, ht, -⟩ := State.frames_cons hr
      show ({ U with heap := s₂.heap, slotsUsed := s₂.slotsUsed } : State) = { U.setFrames U.frames with heap := s₂.heap, slotsUsed := s₂.slotsUsed }
      rw [State.setFrames_self ht]
    subst hg
    refine Or.inr ⟨q, ⟨(({ U with heap := s₂.heap, slotsUsed := s₂.slotsUsed } : State).setVm s₂.vm), Ls ++ L, c0 + mc, s0 + ms⟩,
      ⟨X.admits, X.cas, X.clock, X.frames, X.room, X.hears, X.method, X.code, (X.here.setHeapUsed s₂.heap s₂.slotsUsed).setVm hW'.alike, X.tail, State.WarmedH.trans X.warmed hW', X.limits, X.bytes, X.same.trans (hsame.setVm s.vm)⟩,
      ⟨g, mk, s₂, L, E, ce, rfl, rfl, hx, hce, hcv, hcl, rfl, hL, rfl, rfl⟩, ?_⟩
    show Steps p.tables e below _ (((({ U with heap := s₂.heap, slotsUsed := s₂.slotsUsed } : State).setVm s₂.vm).setTop g).pushFrame (.throwing q))
    rw [← hs₂]
    exact hsteps
end
variable {p : Program} {l : Launch} {e : Env} {R : Room} {s : State} {m : MethodId} {args : Array Value} {below : List Frame} {meth : Method} {c : Code} {T : State} {H : Heap} {locs : List Loc} {cells slots : Nat}
theorem vx_callVX (X : Stand p l e R s m args below meth c T locs cells slots) (hexec : p.tables.exec = Jvm.exec) {own C : String} {index : Nat} {y : MethodName} {bytes : ByteArray} {maxL : Nat} {ret : Option FieldType} {hh : List (Nat × Nat × Nat × Nat)}
    (hown : s.vm.findClass own = some m.cls) (hlink : (Cond.methodLink own index y).before args s = true) (hinst : (Cond.instanceMethod y).before args s = true) (hsel : (Cond.selects C y y).before args s = true)
    (hcode : (Cond.codeWith y bytes maxL ret hh).before args s = true) (hy : y.cls ≠ "java/lang/invoke/MethodHandle" ∧ y.cls ≠ "java/lang/invoke/VarHandle")
    {W9 : Nat} {Pre : Pt → Array Value → Prop} {Post : Pt → Array Value → Option Value → Pt → Prop} {PostX : Pt → Array Value → Addr → Pt → Prop} (hK : vx_Back l R p e below s args y 3 W9 Pre Post PostX)
    {b : Addr} {cellB : Cell} (hcell : T.heap[b]? = some cellB) (hobj : cellB.vm.isStatics = false) (hcls : s.vm.findClass C = some cellB.cls)
    {g : JFrame} (hg : g.method = m) (hsize : g.locals.size = c.maxLocals) {argsL rest : List Value} (hlen : ∀ sig, parseMethodDescriptor y.desc = some sig → argsL.length = sig.parameters.length)
    (hstack : g.stack = argsL.reverse ++ .ref b :: rest) (hW : 2 * g.monitorRoom + (rest.map fun v => v.category).sum ≤ W9) (hdg : decode c.code g.pc = .ok (.invokevirtual index, 3))
    (hpre : ∀ vm₁, s.WarmedH vm₁ → Pre ⟨T.setVm vm₁, locs, cells, slots⟩ (Value.ref b :: argsL).toArray) :
    (∃ (v : Option Value) (vm₁ : Vm) (B : Pt), s.WarmedH vm₁ ∧ Stand p l e R s m args below meth c B.U B.locs B.cells B.slots ∧ Post ⟨T.setVm vm₁, locs, cells, slots⟩ (Value.ref b :: argsL).toArray v B ∧
      ∀ target, Steps p.tables e below (B.U.setTop { g with pc := g.pc + 3, stack := v.toList ++ rest }) target → Steps p.tables e below (T.setTop g) target) ∨
    (∃ (q : Addr) (vm₁ : Vm) (B : Pt), s.WarmedH vm₁ ∧ Stand p l e R s m args below meth c B.U B.locs B.cells B.slots ∧ PostX ⟨T.setVm vm₁, locs, cells, slots⟩ (Value.ref b :: argsL).toArray q B ∧
      Steps p.tables e below (T.setTop g) ((B.U.setTop { g with stack := rest }).pushFrame (.throwing q))) := by
  obtain ⟨mk, methM, hnamed, hmethM, hstM, habM⟩ := Cond.instanceMethod_spec hinst
  obtain ⟨m8, methM', cM, hn8, hmethM', -, -, -, -, -, -, hsigM⟩ := Cond.codeWith_spec hcode
  cases Option.some.inj (hn8.symm.trans hnamed)
  cases hmethM.symm.trans hmethM'
  obtain ⟨c2, r2, m2, q1, q2, q3, q4, kP, hkP, hkPi⟩ := Cond.selects_spec hsel
  cases hcls.symm.trans q1
  cases (State.methodFound?_of_named hnamed hy).symm.trans q2
  cases hnamed.symm.trans q3
  have hselP : selectMethod e.platform s.vm cellB.cls mk = .method mk := by rw [Launch.admits_selectMethod X.admits]; exact q4
  obtain ⟨vm₁, X₁, hstep₁⟩ := X.invokevirtual hexec hown hlink hnamed hmethM hstM hkP hkPi hy (a := b) (cell := cellB) hcell
    (fun z h => by rw [h] at hobj; cases hobj) hselP hmethM habM hkP hkPi (g := g) hg (argsL := argsL) (rest := rest) (hlen _ hsigM) hstack hdg
  rcases hK m meth c ⟨T.setVm vm₁, locs, cells, slots⟩ { g with stack := rest } (.invokevirtual index) mk (Value.ref b :: argsL).toArray X₁ hg hsize hdg hW (X₁.named hnamed) (hpre vm₁ X₁.warmed) with ⟨v, B, X', hpost, hsteps⟩ | ⟨q, B, X', hpost, hsteps⟩
  · exact Or.inl ⟨v, vm₁, B, X₁.warmed, X', hpost, fun target h => hstep₁ _ fun acts => by rw [doInvoke_state]; exact hsteps.trans h⟩
  · exact Or.inr ⟨q, vm₁, B, X₁.warmed, X', hpost, hstep₁ _ fun acts => by rw [doInvoke_state]; exact hsteps⟩
theorem vx_callSX (X : Stand p l e R s m args below meth c T locs cells slots) (hexec : p.tables.exec = Jvm.exec) {own : String} {index : Nat} {y : MethodName} {bytes : ByteArray} {maxL : Nat} {ret : Option FieldType} {hh : List (Nat × Nat × Nat × Nat)}
    (hown : s.vm.findClass own = some m.cls) (hlink : (Cond.methodLink own index y).before args s = true) (hstat : (Cond.static y).before args s = true) (hinit : (Cond.initialized y.cls).before args s = true)
    (hcode : (Cond.codeWith y bytes maxL ret hh).before args s = true) (hy : y.cls ≠ "java/lang/invoke/MethodHandle" ∧ y.cls ≠ "java/lang/invoke/VarHandle")
    {W9 : Nat} {Pre : Pt → Array Value → Prop} {Post : Pt → Array Value → Option Value → Pt → Prop} {PostX : Pt → Array Value → Addr → Pt → Prop} (hK : vx_Back l R p e below s args y 3 W9 Pre Post PostX)
    {g : JFrame} (hg : g.method = m) (hsize : g.locals.size = c.maxLocals) {argsL rest : List Value} (hlen : ∀ sig, parseMethodDescriptor y.desc = some sig → argsL.length = sig.parameters.length)
    (hstack : g.stack = argsL.reverse ++ rest) (hW : 2 * g.monitorRoom + (rest.map fun v => v.category).sum ≤ W9) (hdg : decode c.code g.pc = .ok (.invokestatic index, 3))
    (hpre : ∀ vm₁, s.WarmedH vm₁ → Pre ⟨T.setVm vm₁, locs, cells, slots⟩ argsL.toArray) :
    (∃ (v : Option Value) (vm₁ : Vm) (B : Pt), s.WarmedH vm₁ ∧ Stand p l e R s m args below meth c B.U B.locs B.cells B.slots ∧ Post ⟨T.setVm vm₁, locs, cells, slots⟩ argsL.toArray v B ∧
      ∀ target, Steps p.tables e below (B.U.setTop { g with pc := g.pc + 3, stack := v.toList ++ rest }) target → Steps p.tables e below (T.setTop g) target) ∨
    (∃ (q : Addr) (vm₁ : Vm) (B : Pt), s.WarmedH vm₁ ∧ Stand p l e R s m args below meth c B.U B.locs B.cells B.slots ∧ PostX ⟨T.setVm vm₁, locs, cells, slots⟩ argsL.toArray q B ∧
      Steps p.tables e below (T.setTop g) ((B.U.setTop { g with stack := rest }).pushFrame (.throwing q))) := by
  obtain ⟨mk, methM, cM, hnamed, hmethM, -, -, -, -, -, -, hsigM⟩ := Cond.codeWith_spec hcode
  have hstatic : methM.isStatic = true := Cond.static_spec hnamed hmethM hstat
  obtain ⟨kP, hkP, -⟩ := className_of_methodNamed hnamed
  have hinitP : kP.init = .initialized := Cond.initialized_spec (findClass_of_methodNamed hnamed) hkP hinit
  obtain ⟨vm₁, X₁, hstep₁⟩ := X.invokestatic hexec hown hlink hnamed hmethM hstatic hkP hinitP hy (g := g) hg (argsL := argsL) (rest := rest) (hlen _ hsigM) hstack hdg
  rcases hK m meth c ⟨T.setVm vm₁, locs, cells, slots⟩ { g with stack := rest } (.invokestatic index) mk argsL.toArray X₁ hg hsize hdg hW (X₁.named hnamed) (hpre vm₁ X₁.warmed) with ⟨v, B, X', hpost, hsteps⟩ | ⟨q, B, X', hpost, hsteps⟩
  · exact Or.inl ⟨v, vm₁, B, X₁.warmed, X', hpost, fun target h => hstep₁ _ fun acts => by rw [doInvoke_state]; exact hsteps.trans h⟩
  · exact Or.inr ⟨q, vm₁, B, X₁.warmed, X', hpost, hstep₁ _ fun acts => by rw [doInvoke_state]; exact hsteps⟩
theorem vx_callVW (X : Stand p l e R s m args below meth c T locs cells slots) (hexec : p.tables.exec = Jvm.exec) {own C : String} {index : Nat} {y : MethodName} {bytes : ByteArray} {maxL : Nat} {ret : Option FieldType} {hh : List (Nat × Nat × Nat × Nat)}
    (hown : s.vm.findClass own = some m.cls) (hlink : (Cond.methodLink own index y).before args s = true) (hinst : (Cond.instanceMethod y).before args s = true) (hsel : (Cond.selects C y y).before args s = true)
    (hcode : (Cond.codeWith y bytes maxL ret hh).before args s = true) (hy : y.cls ≠ "java/lang/invoke/MethodHandle" ∧ y.cls ≠ "java/lang/invoke/VarHandle")
    {W9 : Nat} {Pre : Pt → Array Value → Prop} {Post : Pt → Array Value → Option Value → Pt → Prop} (hK : Back l R p e below s args y 3 W9 Pre Post)
    {b : Addr} {cellB : Cell} (hcell : T.heap[b]? = some cellB) (hobj : cellB.vm.isStatics = false) (hcls : s.vm.findClass C = some cellB.cls)
    {g : JFrame} (hg : g.method = m) (hsize : g.locals.size = c.maxLocals) {argsL rest : List Value} (hlen : ∀ sig, parseMethodDescriptor y.desc = some sig → argsL.length = sig.parameters.length)
    (hstack : g.stack = argsL.reverse ++ .ref b :: rest) (hW : 2 * g.monitorRoom + (rest.map fun v => v.category).sum ≤ W9) (hdg : decode c.code g.pc = .ok (.invokevirtual index, 3))
    (hpre : ∀ vm₁, s.WarmedH vm₁ → Pre ⟨T.setVm vm₁, locs, cells, slots⟩ (Value.ref b :: argsL).toArray) :
    ∃ (v : Option Value) (vm₁ : Vm) (B : Pt), s.WarmedH vm₁ ∧ Stand p l e R s m args below meth c B.U B.locs B.cells B.slots ∧ Post ⟨T.setVm vm₁, locs, cells, slots⟩ (Value.ref b :: argsL).toArray v B ∧
      ∀ target, Steps p.tables e below (B.U.setTop { g with pc := g.pc + 3, stack := v.toList ++ rest }) target → Steps p.tables e below (T.setTop g) target := by
  obtain ⟨mk, methM, hnamed, hmethM, hstM, habM⟩ := Cond.instanceMethod_spec hinst
  obtain ⟨m8, methM', cM, hn8, hmethM', -, -, -, -, -, -, hsigM⟩ := Cond.codeWith_spec hcode
  cases Option.some.inj (hn8.symm.trans hnamed)
  cases hmethM.symm.trans hmethM'
  obtain ⟨c2, r2, m2, q1, q2, q3, q4, kP, hkP, hkPi⟩ := Cond.selects_spec hsel
  cases hcls.symm.trans q1
  cases (State.methodFound?_of_named hnamed hy).symm.trans q2
  cases hnamed.symm.trans q3
  have hselP : selectMethod e.platform s.vm cellB.cls mk = .method mk := by rw [Launch.admits_selectMethod X.admits]; exact q4
  obtain ⟨vm₁, X₁, hstep₁⟩ := X.invokevirtual hexec hown hlink hnamed hmethM hstM hkP hkPi hy (a := b) (cell := cellB) hcell
    (fun z h => by rw [h] at hobj; cases hobj) hselP hmethM habM hkP hkPi (g := g) hg (argsL := argsL) (rest := rest) (hlen _ hsigM) hstack hdg
  obtain ⟨v, B, X', hpost, hsteps⟩ := hK m meth c ⟨T.setVm vm₁, locs, cells, slots⟩ { g with stack := rest } (.invokevirtual index) mk (Value.ref b :: argsL).toArray X₁ hg hsize hdg hW (X₁.named hnamed) (hpre vm₁ X₁.warmed)
  exact ⟨v, vm₁, B, X₁.warmed, X', hpost, fun target h => hstep₁ _ fun acts => by rw [doInvoke_state]; exact hsteps.trans h⟩
abbrev vx_CVW (R : Room) (s : State) (args : Array Value) (own C : String) (index : Nat) (y : MethodName) (bytes : ByteArray) (maxL : Nat) (ret : Option FieldType) (hh : List (Nat × Nat × Nat × Nat)) (ws : List Cond) (rm : Room) (mc ms n : Nat) : Prop :=
  (rm.cells = mc ∧ rm.slots = ms ∧ rm.frames + 1 ≤ R.frames ∧ 8 + (maxL + 11) + rm.locals ≤ R.locals ∧ (∀ w ∈ ws, ∀ (a' : Array Value) (U : State), s.WarmedH U.vm → w.before a' U = true) ∧ Cond.codeWith y bytes maxL ret hh ∈ ws) ∧
  (Cond.codeWith y bytes maxL ret hh).before args s = true ∧ (Cond.initialized y.cls).before args s = true ∧ (y.cls ≠ "java/lang/invoke/MethodHandle" ∧ y.cls ≠ "java/lang/invoke/VarHandle") ∧
  (∀ sig, parseMethodDescriptor y.desc = some sig → n = sig.parameters.length) ∧ (Cond.methodLink own index y).before args s = true ∧ (Cond.instanceMethod y).before args s = true ∧ (Cond.selects C y y).before args s = true
theorem vx_cwVW {own C : String} {index maxL mc ms : Nat} {y : MethodName} {bytes : ByteArray} {ret : Option FieldType} {hh : List (Nat × Nat × Nat × Nat)} {Ts ws ws' : List Cond} {rm : Room} (n : Nat) (ht : ∀ w ∈ Ts, w.before args s = true) (hT : GoodIn Ts (wsV own index C y ws)) (hw : ws = Cond.codeWith y bytes maxL ret hh :: ws') (hrc : rm.cells = mc) (hrs : rm.slots = ms)
    (hd : y.cls = C ∧ y.cls ≠ "java/lang/invoke/MethodHandle" ∧ y.cls ≠ "java/lang/invoke/VarHandle" ∧ (parseMethodDescriptor y.desc).map (fun d => d.parameters.length) = some n) (hR : rm.frames + 1 ≤ R.frames ∧ 8 + (maxL + 11) + rm.locals ≤ R.locals) :
    vx_CVW R s args own C index y bytes maxL ret hh ws rm mc ms n := by
  obtain ⟨hC, hd⟩ := hd
  subst hC
  have ok : ∀ w ∈ wsV own index y.cls y ws, w.before args s = true := fun w h => ht w (hT w h).1
  have hG : GoodIn Ts ws := fun w h => hT w (by unfold wsV; exact List.mem_append_right _ h)
  have hc : Cond.codeWith y bytes maxL ret hh ∈ ws := by rw [hw]; exact List.mem_cons_self
  refine ⟨⟨hrc, hrs, hR.1, hR.2, pay_in ht hG, hc⟩, ht _ (hG _ hc).1, ok _ (by simp [wsV]), ⟨hd.1, hd.2.1⟩, fun sig h => ?_, ok _ (by simp [wsV]), ok _ (by simp [wsV]), ok _ (by simp [wsV])⟩
  have h2 := hd.2.2
  rw [h] at h2
  exact (Option.some.inj h2).symm
theorem vx_runVW {y : MethodName} {bytes cc : ByteArray} {maxL nL mc ms n index : Nat} {ret : Option FieldType} {hh : List (Nat × Nat × Nat × Nat)} {ws : List Cond} {rm : Room} {Pc : Array Value → State → Prop} {Qc : Array Value → State → Outcome → State → Prop} {free : Addr → Prop} {Ts : List Cond} {own C : String} {b : Addr} {As rest : List Value} {g : JFrame}
    (S : CallFix p m c cc nL s args Ts own) (hM : Met l y ws rm Pc Qc mc ms free) (cw : vx_CVW R s args own C index y bytes maxL ret hh ws rm mc ms n) (hp : PreV s H C b Pc As)
    (hg : g.method = m) (hn : As.length = n) (hsize : g.locals.size = nL) (hstack : g.stack = As.reverse ++ .ref b :: rest) (hW : 2 * g.monitorRoom + (rest.map fun v => v.category).sum ≤ 8) (hdg : decode cc g.pc = .ok (.invokevirtual index, 3)) (hf : cells + mc ≤ R.cells ∧ slots + ms ≤ R.slots) :
    va_Run p l e R s m args below meth c H locs cells slots mc ms g rest (Qc (Value.ref b :: As).toArray) free := by
  obtain ⟨⟨hrc, hrs, hfr, hlo, hws, hcw⟩, hcode, hini, hy, hlen, hl, hin, hse⟩ := cw
  have hK : Back l R p e below s args y 3 8 (PreOf R mc ms Pc) (PostOf Qc mc ms free) := va_backW (hh := hh) (bytes := bytes) (maxL := maxL) (ret := ret) hM hp.1 hrc hrs hfr hlo hws hcw (fun a' U hW => word_at hW (Or.inl (by first | rfl | simp [Cond.onTables, Cond.keeps, Cond.steady])) hini)
  obtain ⟨hx, hb, hml, ho, -⟩ := S
  obtain ⟨-, ⟨cellB, hcB, hoB, hclB⟩, hPc⟩ := hp
  intro T hT X
  obtain ⟨v, vm₁, ⟨U', l2, c2, s2⟩, hW₁, X', ⟨g', mk, t, L, e1, e2, hq, h1, hL, h2, h3⟩, st⟩ := vx_callVW X hx (C := C) (hh := hh) (bytes := bytes) (maxL := maxL) (ret := ret) ho hl hin hse hcode hy hK (by rw [hT]; exact hcB) hoB hclB hg (hsize.trans hml.symm) (argsL := As) (rest := rest) (fun sig h => hn.trans (hlen sig h)) hstack hW (by rw [hb]; exact hdg)
    (fun vm₁ hW₁ => ⟨hf.1, hf.2, hPc (T.setVm vm₁) hT hW₁⟩)
  dsimp only [Pt.U, Pt.locs, Pt.cells, Pt.slots] at X' e1 e2 h1 h2 h3 st
  subst h1; subst h2; subst h3
  exact ⟨v, (T.setVm vm₁).calling g' mk (Value.ref b :: As).toArray, t, U', L, hT, X', hL, e1, e2, hq, st⟩
section
variable {y : MethodName} {bytes cc : ByteArray} {maxL nL mc ms n index : Nat} {ret : Option FieldType} {ws : List Cond} {rm : Room} {Pc : Array Value → State → Prop} {Qc : Array Value → State → Outcome → State → Prop} {XC : String → State → State → Prop} {free : Addr → Prop} {Ts : List Cond} {own C : String} {b : Addr} {As rest : List Value} {g : JFrame}
theorem vx_runVX {hh : List (Nat × Nat × Nat × Nat)} (S : CallFix p m c cc nL s args Ts own) (hM : vx_Met l y ws rm Pc Qc XC mc ms free) (cw : vx_CVW R s args own C index y bytes maxL ret hh ws rm mc ms n) (hp : PreV s H C b Pc As)
    (hg : g.method = m) (hn : As.length = n) (hsize : g.locals.size = nL) (hstack : g.stack = As.reverse ++ .ref b :: rest) (hW : 2 * g.monitorRoom + (rest.map fun v => v.category).sum ≤ 8) (hdg : decode cc g.pc = .ok (.invokevirtual index, 3)) (hf : cells + mc ≤ R.cells ∧ slots + ms ≤ R.slots) :
    vx_Run p l e R s m args below meth c H locs cells slots mc ms g rest (Qc (Value.ref b :: As).toArray) XC free := by
  obtain ⟨⟨hrc, hrs, hfr, hlo, hws, hcw⟩, hcode, hini, hy, hlen, hl, hin, hse⟩ := cw
  have hK : vx_Back l R p e below s args y 3 8 (PreOf R mc ms Pc) (PostOf Qc mc ms free) (vx_Post XC mc ms free) := vx_backW (hh := hh) (bytes := bytes) (maxL := maxL) (ret := ret) hM hp.1 hrc hrs hfr hlo hws hcw (fun a' U hW => word_at hW (Or.inl (by first | rfl | simp [Cond.onTables, Cond.keeps, Cond.steady])) hini)
  obtain ⟨hx, hb, hml, ho, -⟩ := S
  obtain ⟨-, ⟨cellB, hcB, hoB, hclB⟩, hPc⟩ := hp
  intro T hT X
  rcases vx_callVX X hx (C := C) (hh := hh) (bytes := bytes) (maxL := maxL) (ret := ret) ho hl hin hse hcode hy hK (by rw [hT]; exact hcB) hoB hclB hg (hsize.trans hml.symm) (argsL := As) (rest := rest) (fun sig h => hn.trans (hlen sig h)) hstack hW (by rw [hb]; exact hdg)
    (fun vm₁ hW₁ => ⟨hf.1, hf.2, hPc (T.setVm vm₁) hT hW₁⟩) with ⟨v, vm₁, ⟨U', l2, c2, s2⟩, hW₁, X', ⟨g', mk, t, L, e1, e2, hq, h1, hL, h2, h3⟩, st⟩ | ⟨q, vm₁, ⟨U', l2, c2, s2⟩, hW₁, X', ⟨g', mk, t, L, E, ce, e1, e2, hq, hce, hcv, hcl, h1, hL, h2, h3⟩, st⟩
  · dsimp only [Pt.U, Pt.locs, Pt.cells, Pt.slots] at X' e1 e2 h1 h2 h3 st
    subst h1; subst h2; subst h3
    exact Or.inl ⟨v, (T.setVm vm₁).calling g' mk (Value.ref b :: As).toArray, t, U', L, hT, X', hL, e1, e2, hq, st⟩
  · dsimp only [Pt.U, Pt.locs, Pt.cells, Pt.slots] at X' e1 e2 h1 h2 h3 st hcl
    subst h1; subst h2; subst h3
    exact Or.inr ⟨q, (T.setVm vm₁).calling g' mk (Value.ref b :: As).toArray, t, U', L, E, ce, hT, X', hL, e1, e2, hq, hce, hcv, vx_cls hW₁ hcl, st⟩
theorem vx_runSX {hh : List (Nat × Nat × Nat × Nat)} (S : CallFix p m c cc nL s args Ts own) (hM : vx_Met l y ws rm Pc Qc XC mc ms free) (cw : vx_CSW R s args own index y bytes maxL ret hh ws rm mc ms n) (hp : PreS s H Pc As)
    (hg : g.method = m) (hn : As.length = n) (hsize : g.locals.size = nL) (hstack : g.stack = As.reverse ++ rest) (hW : 2 * g.monitorRoom + (rest.map fun v => v.category).sum ≤ 8) (hdg : decode cc g.pc = .ok (.invokestatic index, 3)) (hf : cells + mc ≤ R.cells ∧ slots + ms ≤ R.slots) :
    vx_Run p l e R s m args below meth c H locs cells slots mc ms g rest (Qc As.toArray) XC free := by
  obtain ⟨⟨hrc, hrs, hfr, hlo, hws, hcw⟩, hcode, hini, hy, hlen, hl, hstt⟩ := cw
  have hK : vx_Back l R p e below s args y 3 8 (PreOf R mc ms Pc) (PostOf Qc mc ms free) (vx_Post XC mc ms free) := vx_backW (hh := hh) (bytes := bytes) (maxL := maxL) (ret := ret) hM hp.1 hrc hrs hfr hlo hws hcw (fun a' U hW => word_at hW (Or.inl (by first | rfl | simp [Cond.onTables, Cond.keeps, Cond.steady])) hini)
  obtain ⟨hx, hb, hml, ho, -⟩ := S
  intro T hT X
  rcases vx_callSX X hx (hh := hh) (bytes := bytes) (maxL := maxL) (ret := ret) ho hl hstt hini hcode hy hK hg (hsize.trans hml.symm) (argsL := As) (rest := rest) (fun sig h => hn.trans (hlen sig h)) hstack hW (by rw [hb]; exact hdg)
    (fun vm₁ hW₁ => ⟨hf.1, hf.2, hp.2 (T.setVm vm₁) hT hW₁⟩) with ⟨v, vm₁, ⟨U', l2, c2, s2⟩, hW₁, X', ⟨g', mk, t, L, e1, e2, hq, h1, hL, h2, h3⟩, st⟩ | ⟨q, vm₁, ⟨U', l2, c2, s2⟩, hW₁, X', ⟨g', mk, t, L, E, ce, e1, e2, hq, hce, hcv, hcl, h1, hL, h2, h3⟩, st⟩
  · dsimp only [Pt.U, Pt.locs, Pt.cells, Pt.slots] at X' e1 e2 h1 h2 h3 st
    subst h1; subst h2; subst h3
    exact Or.inl ⟨v, (T.setVm vm₁).calling g' mk As.toArray, t, U', L, hT, X', hL, e1, e2, hq, st⟩
  · dsimp only [Pt.U, Pt.locs, Pt.cells, Pt.slots] at X' e1 e2 h1 h2 h3 st hcl
    subst h1; subst h2; subst h3
    exact Or.inr ⟨q, (T.setVm vm₁).calling g' mk As.toArray, t, U', L, E, ce, hT, X', hL, e1, e2, hq, hce, hcv, vx_cls hW₁ hcl, st⟩
end
end VXH
theorem vx_ofWH {l : Launch} {y : MethodName} {ws ws' : List Cond} {rm : Room} {Pc : Array Value → State → Prop} {Qc : Array Value → State → Outcome → State → Prop} {XC : String → State → State → Prop} {mc ms : Nat} {free : Addr → Prop} {cc : ByteArray} {maxL : Nat} {ret : Option FieldType} {hh : List (Nat × Nat × Nat × Nat)}
    (hy : plainName y.cls = true) (hw : ws = Cond.codeWith y cc maxL ret hh :: ws')
    (body : ∀ p e s m args below meth c s₁, BodyLoose p l y (headSpec ws rm) cc maxL ret e s m args below meth c s₁ → c.maxLocals = maxL → Pc args s →
      W p l e (headSpec ws rm).room s m args below meth c s.heap [] 0 0 (vx_MQ below Qc XC args s mc ms free) (entryFrame m args maxL)) : vx_Met l y ws rm Pc Qc XC mc ms free := by
  refine MetFree.of_bodyS (code := cc) (maxLocals := maxL) (ret := ret) hy ?_ ?_
  · intro args s m h hn
    obtain ⟨m9, meth, c, hn9, h1, h2, h3, h4, -, h5, h6, -⟩ := Cond.codeWith_spec (atoms_spec (ws := ws) h _ (by rw [hw]; exact List.mem_cons_self))
    cases hn.symm.trans hn9
    exact ⟨meth, c, h1, h2, h3, h4, h5, h6⟩
  · intro p e s m args below meth c s₁ B hml hP _
    have hh0 : s₁.heap = s.heap := by rw [B.state]; rfl
    obtain ⟨t, a1, o, b1, b2, b3⟩ := body p e s m args below meth c s₁ B hml hP s₁ hh0 (Stand.of_body B)
    exact ⟨t, o, a1, b1, b2, b3⟩
/-! ===== END ===== -/

/-! names printed by program: classes, their fields -/
def RX0 : String := "BarcodeEngine$Codabar"
def TX0 : u_T := fun k => match k with
  | 0 => ("BarcodeEngine$Symbology", "startStep", "I", true)
  | 1 => ("BarcodeEngine$Symbology", "stopStep", "I", true)
  | 2 => ("BarcodeEngine$Symbology", "unitStep", "I", true)
  | _ => ("BarcodeEngine$Symbology", "mostUnits", "I", true)
def tyX0 : Nat → FieldType := fun k => match k with
  | 0 => .int
  | 1 => .int
  | 2 => .int
  | _ => .int
abbrev wsX00 : List Cond := u_ws RX0 TX0 4
theorem nmX0 : ∀ a, a < 4 → ∀ b, b < 4 → a ≠ b → (TX0 a).2.1 ≠ (TX0 b).2.1 := by decide +kernel
theorem tyX0_ok : ∀ k, k < 4 → parseFieldDescriptor (TX0 k).2.2.1 = some (tyX0 k) := by decide +kernel
def RX1 : String := "BarcodeEngine$Ean8"
def TX1 : u_T := fun k => match k with
  | 0 => ("BarcodeEngine$Symbology", "startStep", "I", true)
  | 1 => ("BarcodeEngine$Symbology", "stopStep", "I", true)
  | 2 => ("BarcodeEngine$Symbology", "unitStep", "I", true)
  | _ => ("BarcodeEngine$Symbology", "mostUnits", "I", true)
def tyX1 : Nat → FieldType := fun k => match k with
  | 0 => .int
  | 1 => .int
  | 2 => .int
  | _ => .int
abbrev wsX10 : List Cond := u_ws RX1 TX1 4
theorem nmX1 : ∀ a, a < 4 → ∀ b, b < 4 → a ≠ b → (TX1 a).2.1 ≠ (TX1 b).2.1 := by decide +kernel
theorem tyX1_ok : ∀ k, k < 4 → parseFieldDescriptor (TX1 k).2.2.1 = some (tyX1 k) := by decide +kernel
def RX2 : String := "BarcodeEngine$Interleaved"
def TX2 : u_T := fun k => match k with
  | 0 => ("BarcodeEngine$Symbology", "startStep", "I", true)
  | 1 => ("BarcodeEngine$Symbology", "stopStep", "I", true)
  | 2 => ("BarcodeEngine$Symbology", "unitStep", "I", true)
  | _ => ("BarcodeEngine$Symbology", "mostUnits", "I", true)
def tyX2 : Nat → FieldType := fun k => match k with
  | 0 => .int
  | 1 => .int
  | 2 => .int
  | _ => .int
abbrev wsX20 : List Cond := u_ws RX2 TX2 4
theorem nmX2 : ∀ a, a < 4 → ∀ b, b < 4 → a ≠ b → (TX2 a).2.1 ≠ (TX2 b).2.1 := by decide +kernel
theorem tyX2_ok : ∀ k, k < 4 → parseFieldDescriptor (TX2 k).2.2.1 = some (tyX2 k) := by decide +kernel
def RX3 : String := "BarcodeEngine$Reading"
def TX3 : u_T := fun k => match k with
  | 0 => ("BarcodeEngine$Reading", "whole", "LBarcodeEngine$Sequence;", true)
  | 1 => ("BarcodeEngine$Reading", "head", "LBarcodeEngine$Sequence;", true)
  | 2 => ("BarcodeEngine$Reading", "tail", "LBarcodeEngine$Sequence;", true)
  | 3 => ("BarcodeEngine$Reading", "isFresh", "Z", false)
  | 4 => ("BarcodeEngine$Reading", "reversed", "Z", false)
  | 5 => ("BarcodeEngine$Reading", "firstBar", "I", false)
  | _ => ("BarcodeEngine$Reading", "lastBar", "I", false)
def tyX3 : Nat → FieldType := fun k => match k with
  | 0 => .object "BarcodeEngine$Sequence"
  | 1 => .object "BarcodeEngine$Sequence"
  | 2 => .object "BarcodeEngine$Sequence"
  | 3 => .boolean
  | 4 => .boolean
  | 5 => .int
  | _ => .int
abbrev wsX30 : List Cond := u_ws RX3 TX3 7
theorem nmX3 : ∀ a, a < 7 → ∀ b, b < 7 → a ≠ b → (TX3 a).2.1 ≠ (TX3 b).2.1 := by decide +kernel
theorem tyX3_ok : ∀ k, k < 7 → parseFieldDescriptor (TX3 k).2.2.1 = some (tyX3 k) := by decide +kernel
def RX4 : String := "BarcodeEngine$Row"
def TX4 : u_T := fun k => match k with
  | 0 => ("BarcodeEngine$Row", "widths", "[I", true)
  | 1 => ("BarcodeEngine$Row", "size", "I", false)
  | _ => ("BarcodeEngine$Row", "certainty", "I", false)
def tyX4 : Nat → FieldType := fun k => match k with
  | 0 => .array .int
  | 1 => .int
  | _ => .int
abbrev wsX40 : List Cond := u_ws RX4 TX4 3
theorem nmX4 : ∀ a, a < 3 → ∀ b, b < 3 → a ≠ b → (TX4 a).2.1 ≠ (TX4 b).2.1 := by decide +kernel
theorem tyX4_ok : ∀ k, k < 3 → parseFieldDescriptor (TX4 k).2.2.1 = some (tyX4 k) := by decide +kernel
def RX5 : String := "BarcodeEngine$Scan"
def TX5 : u_T := fun k => match k with
  | 0 => ("BarcodeEngine$Scan", "row", "LBarcodeEngine$Row;", true)
  | _ => ("BarcodeEngine$Scan", "readings", "[LBarcodeEngine$Reading;", true)
def tyX5 : Nat → FieldType := fun k => match k with
  | 0 => .object "BarcodeEngine$Row"
  | _ => .array (.object "BarcodeEngine$Reading")
abbrev wsX50 : List Cond := u_ws RX5 TX5 2
theorem nmX5 : ∀ a, a < 2 → ∀ b, b < 2 → a ≠ b → (TX5 a).2.1 ≠ (TX5 b).2.1 := by decide +kernel
theorem tyX5_ok : ∀ k, k < 2 → parseFieldDescriptor (TX5 k).2.2.1 = some (tyX5 k) := by decide +kernel
def RX6 : String := "BarcodeEngine$Sequence"
def TX6 : u_T := fun k => match k with
  | 0 => ("BarcodeEngine$Sequence", "values", "[I", true)
  | 1 => ("BarcodeEngine$Sequence", "confidences", "[I", true)
  | _ => ("BarcodeEngine$Sequence", "count", "I", false)
def tyX6 : Nat → FieldType := fun k => match k with
  | 0 => .array .int
  | 1 => .array .int
  | _ => .int
abbrev wsX60 : List Cond := u_ws RX6 TX6 3
theorem nmX6 : ∀ a, a < 3 → ∀ b, b < 3 → a ≠ b → (TX6 a).2.1 ≠ (TX6 b).2.1 := by decide +kernel
theorem tyX6_ok : ∀ k, k < 3 → parseFieldDescriptor (TX6 k).2.2.1 = some (tyX6 k) := by decide +kernel
def RX7 : String := "BarcodeEngine$Symbology"
def TX7 : u_T := fun k => match k with
  | _ => ("", "", "", false)
def tyX7 : Nat → FieldType := fun k => match k with
  | _ => .int
abbrev wsX70 : List Cond := u_ws RX7 TX7 0
theorem nmX7 : ∀ a, a < 0 → ∀ b, b < 0 → a ≠ b → (TX7 a).2.1 ≠ (TX7 b).2.1 := by decide +kernel
theorem tyX7_ok : ∀ k, k < 0 → parseFieldDescriptor (TX7 k).2.2.1 = some (tyX7 k) := by decide +kernel
def RX8 : String := "BarcodeEngine$Tally"
def TX8 : u_T := fun k => match k with
  | 0 => ("BarcodeEngine$Tally", "weights", "[I", true)
  | 1 => ("BarcodeEngine$Tally", "supports", "[I", true)
  | 2 => ("BarcodeEngine$Tally", "totals", "[I", true)
  | 3 => ("BarcodeEngine$Tally", "majorities", "[I", true)
  | 4 => ("BarcodeEngine$Tally", "places", "I", false)
  | _ => ("BarcodeEngine$Tally", "isFresh", "Z", false)
def tyX8 : Nat → FieldType := fun k => match k with
  | 0 => .array .int
  | 1 => .array .int
  | 2 => .array .int
  | 3 => .array .int
  | 4 => .int
  | _ => .boolean
abbrev wsX80 : List Cond := u_ws RX8 TX8 6
theorem nmX8 : ∀ a, a < 6 → ∀ b, b < 6 → a ≠ b → (TX8 a).2.1 ≠ (TX8 b).2.1 := by decide +kernel
theorem tyX8_ok : ∀ k, k < 6 → parseFieldDescriptor (TX8 k).2.2.1 = some (tyX8 k) := by decide +kernel
def RX9 : String := "BarcodeEngine"
def TX9 : u_T := fun k => match k with
  | 0 => ("BarcodeEngine", "text", "[I", true)
  | 1 => ("BarcodeEngine", "textLength", "I", false)
  | 2 => ("BarcodeEngine", "pending", "LBarcodeEngine$Row;", true)
  | 3 => ("BarcodeEngine", "scans", "[LBarcodeEngine$Scan;", true)
  | 4 => ("BarcodeEngine", "scansUsed", "I", false)
  | 5 => ("BarcodeEngine", "kinds", "[LBarcodeEngine$Symbology;", true)
  | 6 => ("BarcodeEngine", "tallies", "[LBarcodeEngine$Tally;", true)
  | 7 => ("BarcodeEngine", "checks", "[Z", true)
  | 8 => ("BarcodeEngine", "arguments", "LBarcodeEngine$Row;", true)
  | 9 => ("BarcodeEngine", "backward", "LBarcodeEngine$Row;", true)
  | 10 => ("BarcodeEngine", "modules", "LBarcodeEngine$Row;", true)
  | _ => ("BarcodeEngine", "code", "LBarcodeEngine$Sequence;", true)
def tyX9 : Nat → FieldType := fun k => match k with
  | 0 => .array .int
  | 1 => .int
  | 2 => .object "BarcodeEngine$Row"
  | 3 => .array (.object "BarcodeEngine$Scan")
  | 4 => .int
  | 5 => .array (.object "BarcodeEngine$Symbology")
  | 6 => .array (.object "BarcodeEngine$Tally")
  | 7 => .array .boolean
  | 8 => .object "BarcodeEngine$Row"
  | 9 => .object "BarcodeEngine$Row"
  | 10 => .object "BarcodeEngine$Row"
  | _ => .object "BarcodeEngine$Sequence"
abbrev wsX90 : List Cond := u_ws RX9 TX9 12
theorem nmX9 : ∀ a, a < 12 → ∀ b, b < 12 → a ≠ b → (TX9 a).2.1 ≠ (TX9 b).2.1 := by decide +kernel
theorem tyX9_ok : ∀ k, k < 12 → parseFieldDescriptor (TX9 k).2.2.1 = some (tyX9 k) := by decide +kernel
def RX10 : String := "BarcodeEngineModel"
def TX10 : u_T := fun k => match k with
  | 0 => ("BarcodeEngineModel", "widths", "[I", true)
  | 1 => ("BarcodeEngineModel", "counts", "[I", true)
  | 2 => ("BarcodeEngineModel", "pending", "[I", true)
  | 3 => ("BarcodeEngineModel", "buffer", "[I", true)
  | 4 => ("BarcodeEngineModel", "checks", "[Z", true)
  | 5 => ("BarcodeEngineModel", "eans", "[I", true)
  | 6 => ("BarcodeEngineModel", "fives", "[I", true)
  | 7 => ("BarcodeEngineModel", "sevens", "[I", true)
  | 8 => ("BarcodeEngineModel", "scans", "I", false)
  | 9 => ("BarcodeEngineModel", "pendingMany", "I", false)
  | 10 => ("BarcodeEngineModel", "buffered", "I", false)
  | 11 => ("BarcodeEngineModel", "thrown", "I", false)
  | 12 => ("BarcodeEngineModel", "code", "[I", true)
  | 13 => ("BarcodeEngineModel", "modules", "[I", true)
  | 14 => ("BarcodeEngineModel", "moduleMany", "I", false)
  | 15 => ("BarcodeEngineModel", "row", "[I", true)
  | 16 => ("BarcodeEngineModel", "many", "I", false)
  | 17 => ("BarcodeEngineModel", "signs", "[I", true)
  | 18 => ("BarcodeEngineModel", "sure", "[I", true)
  | 19 => ("BarcodeEngineModel", "signMany", "I", false)
  | 20 => ("BarcodeEngineModel", "wides", "I", false)
  | 21 => ("BarcodeEngineModel", "sureOfThem", "I", false)
  | 22 => ("BarcodeEngineModel", "readMany", "[I", true)
  | 23 => ("BarcodeEngineModel", "readSigns", "[I", true)
  | 24 => ("BarcodeEngineModel", "readSure", "[I", true)
  | 25 => ("BarcodeEngineModel", "isBack", "[Z", true)
  | 26 => ("BarcodeEngineModel", "beginsAt", "[I", true)
  | 27 => ("BarcodeEngineModel", "wideSum", "J", false)
  | 28 => ("BarcodeEngineModel", "moduleSum", "J", false)
  | 29 => ("BarcodeEngineModel", "barSum", "J", false)
  | 30 => ("BarcodeEngineModel", "barModules", "J", false)
  | 31 => ("BarcodeEngineModel", "supports", "[I", true)
  | _ => ("BarcodeEngineModel", "votes", "[I", true)
def tyX10 : Nat → FieldType := fun k => match k with
  | 0 => .array .int
  | 1 => .array .int
  | 2 => .array .int
  | 3 => .array .int
  | 4 => .array .boolean
  | 5 => .array .int
  | 6 => .array .int
  | 7 => .array .int
  | 8 => .int
  | 9 => .int
  | 10 => .int
  | 11 => .int
  | 12 => .array .int
  | 13 => .array .int
  | 14 => .int
  | 15 => .array .int
  | 16 => .int
  | 17 => .array .int
  | 18 => .array .int
  | 19 => .int
  | 20 => .int
  | 21 => .int
  | 22 => .array .int
  | 23 => .array .int
  | 24 => .array .int
  | 25 => .array .boolean
  | 26 => .array .int
  | 27 => .long
  | 28 => .long
  | 29 => .long
  | 30 => .long
  | 31 => .array .int
  | _ => .array .int
abbrev wsX100 : List Cond := u_ws RX10 TX10 33
theorem nmX10 : ∀ a, a < 33 → ∀ b, b < 33 → a ≠ b → (TX10 a).2.1 ≠ (TX10 b).2.1 := by decide +kernel
theorem tyX10_ok : ∀ k, k < 33 → parseFieldDescriptor (TX10 k).2.2.1 = some (tyX10 k) := by decide +kernel
def RL : String := "BarcodeEngineLaw"
abbrev vwCl : List vw_C := [(RX0, TX0, 4), (RX1, TX1, 4), (RX2, TX2, 4), (RX3, TX3, 7), (RX4, TX4, 3), (RX5, TX5, 2), (RX6, TX6, 3), (RX8, TX8, 6), (RX9, TX9, 12), (RX10, TX10, 33)]
end
section
/-! TABLES, by program: the methods, the links, by their places among the words -/
/-- a private method of the abstract class, selected by its heirs -/
def bz_su : List Cond := [.selects "BarcodeEngine$Codabar" ⟨"BarcodeEngine$Symbology", "findWhole", "(LBarcodeEngine$Row;LBarcodeEngine$Reading;)Z"⟩ ⟨"BarcodeEngine$Symbology", "findWhole", "(LBarcodeEngine$Row;LBarcodeEngine$Reading;)Z"⟩, .selects "BarcodeEngine$Ean8" ⟨"BarcodeEngine$Symbology", "findWhole", "(LBarcodeEngine$Row;LBarcodeEngine$Reading;)Z"⟩ ⟨"BarcodeEngine$Symbology", "findWhole", "(LBarcodeEngine$Row;LBarcodeEngine$Reading;)Z"⟩, .selects "BarcodeEngine$Interleaved" ⟨"BarcodeEngine$Symbology", "findWhole", "(LBarcodeEngine$Row;LBarcodeEngine$Reading;)Z"⟩ ⟨"BarcodeEngine$Symbology", "findWhole", "(LBarcodeEngine$Row;LBarcodeEngine$Reading;)Z"⟩, .selects "BarcodeEngine$Codabar" ⟨"BarcodeEngine$Symbology", "findParts", "(LBarcodeEngine$Row;LBarcodeEngine$Reading;)Z"⟩ ⟨"BarcodeEngine$Symbology", "findParts", "(LBarcodeEngine$Row;LBarcodeEngine$Reading;)Z"⟩, .selects "BarcodeEngine$Ean8" ⟨"BarcodeEngine$Symbology", "findParts", "(LBarcodeEngine$Row;LBarcodeEngine$Reading;)Z"⟩ ⟨"BarcodeEngine$Symbology", "findParts", "(LBarcodeEngine$Row;LBarcodeEngine$Reading;)Z"⟩, .selects "BarcodeEngine$Interleaved" ⟨"BarcodeEngine$Symbology", "findParts", "(LBarcodeEngine$Row;LBarcodeEngine$Reading;)Z"⟩ ⟨"BarcodeEngine$Symbology", "findParts", "(LBarcodeEngine$Row;LBarcodeEngine$Reading;)Z"⟩, .selects "BarcodeEngine$Codabar" ⟨"BarcodeEngine$Symbology", "addHead", "(LBarcodeEngine$Row;ILBarcodeEngine$Sequence;)V"⟩ ⟨"BarcodeEngine$Symbology", "addHead", "(LBarcodeEngine$Row;ILBarcodeEngine$Sequence;)V"⟩, .selects "BarcodeEngine$Ean8" ⟨"BarcodeEngine$Symbology", "addHead", "(LBarcodeEngine$Row;ILBarcodeEngine$Sequence;)V"⟩ ⟨"BarcodeEngine$Symbology", "addHead", "(LBarcodeEngine$Row;ILBarcodeEngine$Sequence;)V"⟩, .selects "BarcodeEngine$Interleaved" ⟨"BarcodeEngine$Symbology", "addHead", "(LBarcodeEngine$Row;ILBarcodeEngine$Sequence;)V"⟩ ⟨"BarcodeEngine$Symbology", "addHead", "(LBarcodeEngine$Row;ILBarcodeEngine$Sequence;)V"⟩, .selects "BarcodeEngine$Codabar" ⟨"BarcodeEngine$Symbology", "addTail", "(LBarcodeEngine$Row;ILBarcodeEngine$Sequence;)V"⟩ ⟨"BarcodeEngine$Symbology", "addTail", "(LBarcodeEngine$Row;ILBarcodeEngine$Sequence;)V"⟩, .selects "BarcodeEngine$Ean8" ⟨"BarcodeEngine$Symbology", "addTail", "(LBarcodeEngine$Row;ILBarcodeEngine$Sequence;)V"⟩ ⟨"BarcodeEngine$Symbology", "addTail", "(LBarcodeEngine$Row;ILBarcodeEngine$Sequence;)V"⟩, .selects "BarcodeEngine$Interleaved" ⟨"BarcodeEngine$Symbology", "addTail", "(LBarcodeEngine$Row;ILBarcodeEngine$Sequence;)V"⟩ ⟨"BarcodeEngine$Symbology", "addTail", "(LBarcodeEngine$Row;ILBarcodeEngine$Sequence;)V"⟩]
def bz_T : List Cond := bz_su ++ lw_tbl
def bz_own : List String := ["BarcodeEngine", "BarcodeEngine$Row", "BarcodeEngine$Ean8", "BarcodeEngine$Symbology", "BarcodeEngine$Interleaved", "BarcodeEngine$Codabar", "BarcodeEngine$Tally", "BarcodeEngine$Sequence", "BarcodeEngine$Scan", "BarcodeEngine$Reading", "java/lang/Math", "BarcodeEngineLaw", "java/lang/String", "java/lang/StringLatin1", "jdk/internal/util/Preconditions", "BarcodeEngineModel"]
set_option maxRecDepth 20000 in
def bz_mls : List Nat := [2, 1, 1, 5, 1, 1, 1, 1, 1, 1, 1, 5, 5, 1, 4, 1, 5, 3, 13, 6, 3, 6, 3, 6, 12, 3, 3, 1, 2, 3, 3, 6, 5, 4, 5, 7, 3, 4, 3, 3, 6, 6, 7, 6, 6, 3, 2, 7, 11, 3, 4, 4, 2, 2, 2, 2, 6, 3, 5, 3, 3, 4, 4, 4, 4, 8, 6, 3, 8, 8, 2, 3, 1, 2, 3, 1, 1, 1, 4, 1, 6, 3, 6, 4, 1, 7, 2, 6, 3, 7, 1, 8, 2, 3, 5, 5, 2, 2, 4, 6, 1, 2, 2, 2, 3, 9, 9, 4, 2, 3, 2, 3, 4, 2, 2, 5, 4, 2, 6, 6, 6, 5, 4, 3, 3, 5, 4, 6, 4, 6, 4, 4, 5, 3, 4, 6, 4, 2, 6, 5, 6, 5, 7, 6, 5, 3, 6, 8, 6, 8, 5, 8, 3, 7, 5, 15, 6, 6, 7, 7, 8, 4, 6, 4, 2, 6, 6, 5, 4, 5, 5, 8, 4, 2, 4, 2, 2, 4, 4, 4, 7, 4, 5, 4, 1, 1, 8, 10, 1, 6, 5, 2, 6, 1, 2, 3, 3, 3, 2, 4, 2, 4, 5, 10, 2, 2, 1, 2, 2, 3, 3, 5, 5, 3, 4, 6, 4, 3, 3, 3, 4, 4, 3, 5, 1, 3, 3, 11, 5, 5, 2, 3, 10, 2, 3, 2, 3, 6, 1, 3, 2, 3, 3, 4, 4, 4, 4, 6, 5, 3, 4, 4, 5, 4, 4, 4, 6, 3, 3, 6, 9, 7, 3, 5, 5, 6, 4, 4, 6, 7, 4, 4, 2, 3, 3, 4, 6, 4, 3, 4, 5, 4, 3, 4, 7, 2, 3, 4, 8, 2, 8, 4, 6, 8, 4, 7]
set_option maxRecDepth 20000 in
def bz_ocs : List Nat := [0, 1, 2, 3, 4, 5, 6, 7, 8, 9, 0, 0, 0, 0, 3, 9, 3, 5, 1, 1, 2, 1, 4, 2, 2, 1, 2, 10, 10, 7, 2, 3, 5, 3, 5, 4, 5, 4, 1, 9, 3, 3, 3, 6, 6, 7, 10, 2, 3, 2, 3, 7, 5, 2, 4, 6, 6, 6, 6, 0, 6, 7, 5, 3, 6, 11, 0, 0, 11, 0, 0, 0, 0, 12, 12, 12, 12, 12, 13, 13, 13, 0, 5, 3, 0, 5, 1, 2, 2, 4, 4, 0, 0, 0, 11, 0, 5, 3, 7, 0, 0, 12, 13, 12, 14, 11, 0, 1, 1, 11, 0, 1, 11, 0, 0, 11, 0, 0, 11, 0, 11, 0, 1, 11, 0, 11, 0, 1, 11, 0, 11, 0, 11, 0, 0, 11, 0, 9, 11, 0, 11, 0, 11, 0, 11, 0, 11, 0, 11, 0, 11, 0, 0, 1, 11, 0, 10, 11, 0, 11, 0, 11, 0, 11, 0, 11, 0, 11, 0, 11, 0, 0, 11, 0, 11, 0, 6, 11, 0, 11, 0, 6, 11, 0, 15, 15, 15, 15, 15, 15, 15, 15, 15, 15, 15, 15, 15, 15, 15, 15, 15, 15, 15, 15, 15, 15, 15, 15, 15, 15, 15, 15, 15, 15, 15, 15, 15, 15, 15, 15, 15, 15, 15, 15, 15, 15, 15, 15, 15, 15, 15, 15, 15, 15, 15, 15, 15, 15, 15, 15, 15, 15, 15, 15, 15, 15, 15, 15, 15, 15, 15, 15, 15, 15, 15, 15, 15, 15, 15, 15, 15, 15, 15, 15, 15, 15, 15, 15, 15, 15, 15, 15, 15, 15, 15, 15, 15, 15, 15, 15, 15, 15, 15, 15, 15, 15, 15, 15, 15, 15, 15, 15, 15, 15, 15, 11]
set_option maxRecDepth 20000 in
def bz_ys : List MethodName := [⟨"BarcodeEngine", "<init>", "()V"⟩, ⟨"BarcodeEngine$Row", "<init>", "()V"⟩, ⟨"BarcodeEngine$Ean8", "<init>", "()V"⟩, ⟨"BarcodeEngine$Symbology", "<init>", "(IIII)V"⟩, ⟨"BarcodeEngine$Interleaved", "<init>", "()V"⟩, ⟨"BarcodeEngine$Codabar", "<init>", "()V"⟩, ⟨"BarcodeEngine$Tally", "<init>", "()V"⟩, ⟨"BarcodeEngine$Sequence", "<init>", "()V"⟩, ⟨"BarcodeEngine$Scan", "<init>", "()V"⟩, ⟨"BarcodeEngine$Reading", "<init>", "()V"⟩, ⟨"BarcodeEngine", "scanCount", "()I"⟩, ⟨"BarcodeEngine", "winner", "()I"⟩, ⟨"BarcodeEngine", "tally", "(I)LBarcodeEngine$Tally;"⟩, ⟨"BarcodeEngine", "requireSymbology", "(I)V"⟩, ⟨"BarcodeEngine$Symbology", "interpret", "(LBarcodeEngine$Row;LBarcodeEngine$Row;LBarcodeEngine$Reading;)V"⟩, ⟨"BarcodeEngine$Reading", "clear", "()V"⟩, ⟨"BarcodeEngine$Symbology", "findWhole", "(LBarcodeEngine$Row;LBarcodeEngine$Reading;)Z"⟩, ⟨"BarcodeEngine$Codabar", "beginsAt", "(LBarcodeEngine$Row;I)Z"⟩, ⟨"BarcodeEngine$Row", "match", "(III[I)I"⟩, ⟨"BarcodeEngine$Row", "isQuiet", "(III)Z"⟩, ⟨"BarcodeEngine$Ean8", "beginsAt", "(LBarcodeEngine$Row;I)Z"⟩, ⟨"BarcodeEngine$Row", "isEven", "(II)Z"⟩, ⟨"BarcodeEngine$Interleaved", "beginsAt", "(LBarcodeEngine$Row;I)Z"⟩, ⟨"BarcodeEngine$Ean8", "addWhole", "(LBarcodeEngine$Row;ILBarcodeEngine$Sequence;)I"⟩, ⟨"BarcodeEngine$Ean8", "addUnit", "(LBarcodeEngine$Row;ILBarcodeEngine$Sequence;)Z"⟩, ⟨"BarcodeEngine$Row", "has", "(II)Z"⟩, ⟨"BarcodeEngine$Ean8", "digitOf", "(IIZ)I"⟩, ⟨"java/lang/Math", "abs", "(I)I"⟩, ⟨"java/lang/Math", "max", "(II)I"⟩, ⟨"BarcodeEngine$Sequence", "add", "(II)V"⟩, ⟨"BarcodeEngine$Ean8", "endsAt", "(LBarcodeEngine$Row;I)Z"⟩, ⟨"BarcodeEngine$Symbology", "addWhole", "(LBarcodeEngine$Row;ILBarcodeEngine$Sequence;)I"⟩, ⟨"BarcodeEngine$Codabar", "addGuard", "(LBarcodeEngine$Row;ILBarcodeEngine$Sequence;)V"⟩, ⟨"BarcodeEngine$Symbology", "addGuard", "(LBarcodeEngine$Row;ILBarcodeEngine$Sequence;)V"⟩, ⟨"BarcodeEngine$Codabar", "addUnit", "(LBarcodeEngine$Row;ILBarcodeEngine$Sequence;)Z"⟩, ⟨"BarcodeEngine$Interleaved", "addUnit", "(LBarcodeEngine$Row;ILBarcodeEngine$Sequence;)Z"⟩, ⟨"BarcodeEngine$Codabar", "endsAt", "(LBarcodeEngine$Row;I)Z"⟩, ⟨"BarcodeEngine$Interleaved", "endsAt", "(LBarcodeEngine$Row;I)Z"⟩, ⟨"BarcodeEngine$Row", "copyReversed", "(LBarcodeEngine$Row;)V"⟩, ⟨"BarcodeEngine$Reading", "turn", "(I)V"⟩, ⟨"BarcodeEngine$Symbology", "findParts", "(LBarcodeEngine$Row;LBarcodeEngine$Reading;)Z"⟩, ⟨"BarcodeEngine$Symbology", "addHead", "(LBarcodeEngine$Row;ILBarcodeEngine$Sequence;)V"⟩, ⟨"BarcodeEngine$Symbology", "addTail", "(LBarcodeEngine$Row;ILBarcodeEngine$Sequence;)V"⟩, ⟨"BarcodeEngine$Tally", "recount", "(LBarcodeEngine$Symbology;I[LBarcodeEngine$Scan;I)V"⟩, ⟨"BarcodeEngine$Tally", "supportedLength", "(I[LBarcodeEngine$Scan;I)I"⟩, ⟨"BarcodeEngine$Sequence", "leastConfidence", "()I"⟩, ⟨"java/lang/Math", "min", "(II)I"⟩, ⟨"BarcodeEngine$Ean8", "joinedLength", "(I[LBarcodeEngine$Scan;I)I"⟩, ⟨"BarcodeEngine$Symbology", "joinedLength", "(I[LBarcodeEngine$Scan;I)I"⟩, ⟨"BarcodeEngine$Ean8", "seam", "(LBarcodeEngine$Sequence;LBarcodeEngine$Sequence;)I"⟩, ⟨"BarcodeEngine$Symbology", "seam", "(LBarcodeEngine$Sequence;LBarcodeEngine$Sequence;)I"⟩, ⟨"BarcodeEngine$Sequence", "endsLike", "(LBarcodeEngine$Sequence;I)Z"⟩, ⟨"BarcodeEngine$Codabar", "hasLength", "(I)Z"⟩, ⟨"BarcodeEngine$Ean8", "hasLength", "(I)Z"⟩, ⟨"BarcodeEngine$Interleaved", "hasLength", "(I)Z"⟩, ⟨"BarcodeEngine$Tally", "countVotes", "(LBarcodeEngine$Reading;)V"⟩, ⟨"BarcodeEngine$Tally", "addVotes", "(LBarcodeEngine$Sequence;I)V"⟩, ⟨"BarcodeEngine$Tally", "majorityAt", "(I)I"⟩, ⟨"BarcodeEngine$Tally", "weightOf", "(II)I"⟩, ⟨"BarcodeEngine", "problemOf", "(LBarcodeEngine$Tally;I)I"⟩, ⟨"BarcodeEngine$Tally", "doubts", "()I"⟩, ⟨"BarcodeEngine$Sequence", "copyValues", "([II)V"⟩, ⟨"BarcodeEngine$Codabar", "isRight", "(LBarcodeEngine$Sequence;)Z"⟩, ⟨"BarcodeEngine$Symbology", "isRight", "(LBarcodeEngine$Sequence;)Z"⟩, ⟨"BarcodeEngine$Tally", "share", "()I"⟩, ⟨"BarcodeEngineLaw", "append", "(LBarcodeEngine;IIIII[J)I"⟩, ⟨"BarcodeEngine", "append", "(IIIII)I"⟩, ⟨"BarcodeEngine", "appendBytes", "(I)V"⟩, ⟨"BarcodeEngineLaw", "print", "(LBarcodeEngine;IIIII[J)I"⟩, ⟨"BarcodeEngine", "print", "(IIIII)I"⟩, ⟨"BarcodeEngine", "requireTextLength", "(I)V"⟩, ⟨"BarcodeEngine", "takeText", "(I)V"⟩, ⟨"BarcodeEngine", "valueOf", "(I)I"⟩, ⟨"java/lang/String", "indexOf", "(I)I"⟩, ⟨"java/lang/String", "indexOf", "(II)I"⟩, ⟨"java/lang/String", "isLatin1", "()Z"⟩, ⟨"java/lang/String", "length", "()I"⟩, ⟨"java/lang/String", "coder", "()B"⟩, ⟨"java/lang/StringLatin1", "indexOf", "([BIII)I"⟩, ⟨"java/lang/StringLatin1", "canEncode", "(I)Z"⟩, ⟨"java/lang/StringLatin1", "indexOfChar", "([BIII)I"⟩, ⟨"BarcodeEngine", "isCode", "(LBarcodeEngine$Symbology;)Z"⟩, ⟨"BarcodeEngine$Codabar", "allows", "(III)Z"⟩, ⟨"BarcodeEngine$Symbology", "allows", "(III)Z"⟩, ⟨"BarcodeEngine", "requireRoomForScan", "()V"⟩, ⟨"BarcodeEngine$Codabar", "draw", "(LBarcodeEngine$Sequence;LBarcodeEngine$Row;)V"⟩, ⟨"BarcodeEngine$Row", "add", "(I)V"⟩, ⟨"BarcodeEngine$Ean8", "draw", "(LBarcodeEngine$Sequence;LBarcodeEngine$Row;)V"⟩, ⟨"BarcodeEngine$Ean8", "addOnes", "(LBarcodeEngine$Row;I)V"⟩, ⟨"BarcodeEngine$Interleaved", "draw", "(LBarcodeEngine$Sequence;LBarcodeEngine$Row;)V"⟩, ⟨"BarcodeEngine$Interleaved", "patternOf", "(I)I"⟩, ⟨"BarcodeEngine", "addPrinted", "(LBarcodeEngine$Row;III)V"⟩, ⟨"BarcodeEngine", "keepScan", "(LBarcodeEngine$Scan;)I"⟩, ⟨"BarcodeEngine", "forget", "(LBarcodeEngine$Scan;)V"⟩, ⟨"BarcodeEngineLaw", "checkCharacter", "(LBarcodeEngine;II[J)I"⟩, ⟨"BarcodeEngine", "checkCharacter", "(II)I"⟩, ⟨"BarcodeEngine$Codabar", "checkPlace", "(I)I"⟩, ⟨"BarcodeEngine$Symbology", "checkPlace", "(I)I"⟩, ⟨"BarcodeEngine$Sequence", "insert", "(II)V"⟩, ⟨"BarcodeEngine", "rightValue", "(LBarcodeEngine$Symbology;I)I"⟩, ⟨"BarcodeEngine", "characterOf", "(I)I"⟩, ⟨"java/lang/String", "charAt", "(I)C"⟩, ⟨"java/lang/StringLatin1", "charAt", "([BI)C"⟩, ⟨"java/lang/String", "checkIndex", "(II)V"⟩, ⟨"jdk/internal/util/Preconditions", "checkIndex", "(IILjava/util/function/BiFunction;)I"⟩, ⟨"BarcodeEngineLaw", "addWidths", "(LBarcodeEngine;IIIIII[J)I"⟩, ⟨"BarcodeEngine", "addWidths", "(IIIIII)I"⟩, ⟨"BarcodeEngine$Row", "isWithin", "(II)Z"⟩, ⟨"BarcodeEngine$Row", "countBeforeZero", "()I"⟩, ⟨"BarcodeEngineLaw", "endScan", "(LBarcodeEngine;[J)I"⟩, ⟨"BarcodeEngine", "endScan", "()I"⟩, ⟨"BarcodeEngine$Row", "copy", "(LBarcodeEngine$Row;)V"⟩, ⟨"BarcodeEngineLaw", "widthCount", "(LBarcodeEngine;I[J)I"⟩, ⟨"BarcodeEngine", "widthCount", "(I)I"⟩, ⟨"BarcodeEngine", "requireScan", "(I)V"⟩, ⟨"BarcodeEngineLaw", "width", "(LBarcodeEngine;II[J)I"⟩, ⟨"BarcodeEngine", "width", "(II)I"⟩, ⟨"BarcodeEngine", "requirePlace", "(II)V"⟩, ⟨"BarcodeEngineLaw", "setWidth", "(LBarcodeEngine;III[J)I"⟩, ⟨"BarcodeEngine", "setWidth", "(III)I"⟩, ⟨"BarcodeEngineLaw", "cut", "(LBarcodeEngine;III[J)I"⟩, ⟨"BarcodeEngine", "cut", "(III)I"⟩, ⟨"BarcodeEngine$Row", "keep", "(II)V"⟩, ⟨"BarcodeEngineLaw", "reverse", "(LBarcodeEngine;I)I"⟩, ⟨"BarcodeEngine", "reverse", "(I)V"⟩, ⟨"BarcodeEngineLaw", "smear", "(LBarcodeEngine;II[J)I"⟩, ⟨"BarcodeEngine", "smear", "(II)I"⟩, ⟨"BarcodeEngine$Row", "widenBars", "(I)I"⟩, ⟨"BarcodeEngineLaw", "average", "(LBarcodeEngine;II)I"⟩, ⟨"BarcodeEngine", "average", "(II)V"⟩, ⟨"BarcodeEngineLaw", "removeScan", "(LBarcodeEngine;I[J)I"⟩, ⟨"BarcodeEngine", "removeScan", "(I)I"⟩, ⟨"BarcodeEngineLaw", "read", "(LBarcodeEngine;II[J)I"⟩, ⟨"BarcodeEngine", "read", "(II)I"⟩, ⟨"BarcodeEngine", "reading", "(II)LBarcodeEngine$Reading;"⟩, ⟨"BarcodeEngineLaw", "readPart", "(LBarcodeEngine;IIZ[J)I"⟩, ⟨"BarcodeEngine", "readPart", "(IIZ)I"⟩, ⟨"BarcodeEngine$Reading", "part", "(Z)LBarcodeEngine$Sequence;"⟩, ⟨"BarcodeEngineLaw", "character", "(LBarcodeEngine;III[J)I"⟩, ⟨"BarcodeEngine", "character", "(III)I"⟩, ⟨"BarcodeEngineLaw", "confidence", "(LBarcodeEngine;III[J)I"⟩, ⟨"BarcodeEngine", "confidence", "(III)I"⟩, ⟨"BarcodeEngineLaw", "partCharacter", "(LBarcodeEngine;IIZI[J)I"⟩, ⟨"BarcodeEngine", "partCharacter", "(IIZI)I"⟩, ⟨"BarcodeEngineLaw", "isReversed", "(LBarcodeEngine;II[J)I"⟩, ⟨"BarcodeEngine", "isReversed", "(II)Z"⟩, ⟨"BarcodeEngineLaw", "agreement", "(LBarcodeEngine;III[J)I"⟩, ⟨"BarcodeEngine", "agreement", "(III)I"⟩, ⟨"BarcodeEngineLaw", "overlap", "(LBarcodeEngine;III[J)I"⟩, ⟨"BarcodeEngine", "overlap", "(III)I"⟩, ⟨"BarcodeEngineLaw", "module", "(LBarcodeEngine;II[J)I"⟩, ⟨"BarcodeEngine", "module", "(II)I"⟩, ⟨"BarcodeEngine", "drawWhole", "(LBarcodeEngine$Symbology;LBarcodeEngine$Reading;)V"⟩, ⟨"BarcodeEngine$Row", "sum", "(III)J"⟩, ⟨"BarcodeEngineLaw", "spread", "(LBarcodeEngine;II[J)I"⟩, ⟨"BarcodeEngine", "spread", "(II)I"⟩, ⟨"java/lang/Math", "floorDiv", "(JJ)J"⟩, ⟨"BarcodeEngineLaw", "mergedLength", "(LBarcodeEngine;III[J)I"⟩, ⟨"BarcodeEngine", "mergedLength", "(III)I"⟩, ⟨"BarcodeEngineLaw", "mergedCharacter", "(LBarcodeEngine;IIII[J)I"⟩, ⟨"BarcodeEngine", "mergedCharacter", "(IIII)I"⟩, ⟨"BarcodeEngineLaw", "bestScan", "(LBarcodeEngine;I[J)I"⟩, ⟨"BarcodeEngine", "bestScan", "(I)I"⟩, ⟨"BarcodeEngineLaw", "length", "(LBarcodeEngine;I[J)I"⟩, ⟨"BarcodeEngine", "length", "(I)I"⟩, ⟨"BarcodeEngineLaw", "weight", "(LBarcodeEngine;III[J)I"⟩, ⟨"BarcodeEngine", "weight", "(III)I"⟩, ⟨"BarcodeEngineLaw", "voted", "(LBarcodeEngine;II[J)I"⟩, ⟨"BarcodeEngine", "voted", "(II)I"⟩, ⟨"BarcodeEngineLaw", "runnerUp", "(LBarcodeEngine;II[J)I"⟩, ⟨"BarcodeEngine", "runnerUp", "(II)I"⟩, ⟨"BarcodeEngine", "strongest", "(LBarcodeEngine$Tally;II)I"⟩, ⟨"BarcodeEngineLaw", "problem", "(LBarcodeEngine;I[J)I"⟩, ⟨"BarcodeEngine", "problem", "(I)I"⟩, ⟨"BarcodeEngineLaw", "doubtful", "(LBarcodeEngine;I[J)I"⟩, ⟨"BarcodeEngine", "doubtful", "(I)I"⟩, ⟨"BarcodeEngine$Tally", "firstDoubt", "()I"⟩, ⟨"BarcodeEngineLaw", "repaired", "(LBarcodeEngine;I[J)I"⟩, ⟨"BarcodeEngine", "repaired", "(I)I"⟩, ⟨"BarcodeEngineLaw", "worstScan", "(LBarcodeEngine;I[J)I"⟩, ⟨"BarcodeEngine", "worstScan", "(I)I"⟩, ⟨"BarcodeEngine$Tally", "disagreements", "(LBarcodeEngine$Sequence;)I"⟩, ⟨"BarcodeEngineLaw", "setCheck", "(LBarcodeEngine;IZ[J)I"⟩, ⟨"BarcodeEngine", "setCheck", "(IZ)Z"⟩, ⟨"BarcodeEngineModel", "<init>", "()V"⟩, ⟨"BarcodeEngineModel", "thrown", "()I"⟩, ⟨"BarcodeEngineModel", "append", "(IIIII)I"⟩, ⟨"BarcodeEngineModel", "print", "(IIIII)I"⟩, ⟨"BarcodeEngineModel", "isSymbology", "(I)Z"⟩, ⟨"BarcodeEngineModel", "isIn", "(JJJ)Z"⟩, ⟨"BarcodeEngineModel", "canPrint", "(IIII)Z"⟩, ⟨"BarcodeEngineModel", "isLength", "(II)Z"⟩, ⟨"BarcodeEngineModel", "areCharacters", "(II)Z"⟩, ⟨"BarcodeEngineModel", "isLetter", "(I)Z"⟩, ⟨"BarcodeEngineModel", "valueOf", "(I)I"⟩, ⟨"BarcodeEngineModel", "laysModules", "(II)V"⟩, ⟨"BarcodeEngineModel", "laysEan", "()V"⟩, ⟨"BarcodeEngineModel", "laysOnes", "(I)V"⟩, ⟨"BarcodeEngineModel", "lays", "(I)V"⟩, ⟨"BarcodeEngineModel", "laysPairs", "(I)V"⟩, ⟨"BarcodeEngineModel", "wideOr", "(II)I"⟩, ⟨"BarcodeEngineModel", "laysCodabar", "(I)V"⟩, ⟨"BarcodeEngineModel", "checkCharacter", "(II)I"⟩, ⟨"BarcodeEngineModel", "addWidths", "(IIIIII)I"⟩, ⟨"BarcodeEngineModel", "isWidth", "(II)Z"⟩, ⟨"BarcodeEngineModel", "endScan", "()I"⟩, ⟨"BarcodeEngineModel", "scanCount", "()I"⟩, ⟨"BarcodeEngineModel", "widthCount", "(I)I"⟩, ⟨"BarcodeEngineModel", "isScan", "(I)Z"⟩, ⟨"BarcodeEngineModel", "width", "(II)I"⟩, ⟨"BarcodeEngineModel", "hasWidth", "(II)Z"⟩, ⟨"BarcodeEngineModel", "setWidth", "(III)I"⟩, ⟨"BarcodeEngineModel", "cut", "(III)I"⟩, ⟨"BarcodeEngineModel", "reverse", "(I)V"⟩, ⟨"BarcodeEngineModel", "laysRow", "(IZ)V"⟩, ⟨"BarcodeEngineModel", "smear", "(II)I"⟩, ⟨"BarcodeEngineModel", "average", "(II)V"⟩, ⟨"BarcodeEngineModel", "removeScan", "(I)I"⟩, ⟨"BarcodeEngineModel", "read", "(II)I"⟩, ⟨"BarcodeEngineModel", "reads", "(II)Z"⟩, ⟨"BarcodeEngineModel", "readsScan", "(II)V"⟩, ⟨"BarcodeEngineModel", "isWhole", "(II)Z"⟩, ⟨"BarcodeEngineModel", "isWholeFrom", "(II)Z"⟩, ⟨"BarcodeEngineModel", "isBeginning", "(II)Z"⟩, ⟨"BarcodeEngineModel", "startOf", "(I)I"⟩, ⟨"BarcodeEngineModel", "exists", "(II)Z"⟩, ⟨"BarcodeEngineModel", "sevenAt", "(I)I"⟩, ⟨"BarcodeEngineModel", "readsWides", "(III)Z"⟩, ⟨"BarcodeEngineModel", "areEven", "(II)Z"⟩, ⟨"BarcodeEngineModel", "leastOf", "(II)I"⟩, ⟨"BarcodeEngineModel", "isWholeEan", "(I)Z"⟩, ⟨"BarcodeEngineModel", "readsDigits", "(I)Z"⟩, ⟨"BarcodeEngineModel", "readsDigit", "(I)Z"⟩, ⟨"BarcodeEngineModel", "rounded", "(II)I"⟩, ⟨"BarcodeEngineModel", "digitBy", "(IIZ)I"⟩, ⟨"BarcodeEngineModel", "apart", "(II)I"⟩, ⟨"BarcodeEngineModel", "signsOne", "(II)V"⟩, ⟨"BarcodeEngineModel", "isEnd", "(II)Z"⟩, ⟨"BarcodeEngineModel", "stopOf", "(I)I"⟩, ⟨"BarcodeEngineModel", "isWholePairs", "(I)Z"⟩, ⟨"BarcodeEngineModel", "readsPair", "(I)Z"⟩, ⟨"BarcodeEngineModel", "readsFive", "(I)Z"⟩, ⟨"BarcodeEngineModel", "isWholeCodabar", "(I)Z"⟩, ⟨"BarcodeEngineModel", "readsSeven", "(IZ)Z"⟩, ⟨"BarcodeEngineModel", "keeps", "(II)V"⟩, ⟨"BarcodeEngineModel", "hasParts", "(II)Z"⟩, ⟨"BarcodeEngineModel", "readsHead", "(II)V"⟩, ⟨"BarcodeEngineModel", "readsTail", "(II)V"⟩, ⟨"BarcodeEngineModel", "partsTo", "(II)I"⟩, ⟨"BarcodeEngineModel", "manyOf", "(II)I"⟩, ⟨"BarcodeEngineModel", "readPart", "(IIZ)I"⟩, ⟨"BarcodeEngineModel", "character", "(III)I"⟩, ⟨"BarcodeEngineModel", "has", "(IIII)Z"⟩, ⟨"BarcodeEngineModel", "signOf", "(III)I"⟩, ⟨"BarcodeEngineModel", "confidence", "(III)I"⟩, ⟨"BarcodeEngineModel", "weightOf", "(III)I"⟩, ⟨"BarcodeEngineModel", "partCharacter", "(IIZI)I"⟩, ⟨"BarcodeEngineModel", "isReversed", "(II)Z"⟩, ⟨"BarcodeEngineModel", "module", "(II)I"⟩, ⟨"BarcodeEngineModel", "measures", "(II)Z"⟩, ⟨"BarcodeEngineModel", "spread", "(II)I"⟩, ⟨"BarcodeEngineModel", "agreement", "(III)I"⟩, ⟨"BarcodeEngineModel", "readsAll", "(I)V"⟩, ⟨"BarcodeEngineModel", "overlap", "(III)I"⟩, ⟨"BarcodeEngineModel", "mostOverlap", "(II)I"⟩, ⟨"BarcodeEngineModel", "overlaps", "(III)Z"⟩, ⟨"BarcodeEngineModel", "mergedLength", "(III)I"⟩, ⟨"BarcodeEngineModel", "mergesNow", "(III)I"⟩, ⟨"BarcodeEngineModel", "merges", "(III)I"⟩, ⟨"BarcodeEngineModel", "mergedCharacter", "(IIII)I"⟩, ⟨"BarcodeEngineModel", "bestScan", "(I)I"⟩, ⟨"BarcodeEngineModel", "leastWeight", "(I)I"⟩, ⟨"BarcodeEngineModel", "length", "(I)I"⟩, ⟨"BarcodeEngineModel", "lengthOf", "(I)I"⟩, ⟨"BarcodeEngineModel", "wholeLength", "()I"⟩, ⟨"BarcodeEngineModel", "hasAny", "(I)Z"⟩, ⟨"BarcodeEngineModel", "longestMerge", "(I)I"⟩, ⟨"BarcodeEngineModel", "weight", "(III)I"⟩, ⟨"BarcodeEngineModel", "hasPlace", "(II)Z"⟩, ⟨"BarcodeEngineModel", "laysVotes", "(I)I"⟩, ⟨"BarcodeEngineModel", "adds", "(III)V"⟩, ⟨"BarcodeEngineModel", "allAt", "(I)I"⟩, ⟨"BarcodeEngineModel", "voted", "(II)I"⟩, ⟨"BarcodeEngineModel", "votedAt", "(I)I"⟩, ⟨"BarcodeEngineModel", "runnerUp", "(II)I"⟩, ⟨"BarcodeEngineModel", "problem", "(I)I"⟩, ⟨"BarcodeEngineModel", "problemOf", "(I)I"⟩, ⟨"BarcodeEngineModel", "doubtFrom", "(II)I"⟩, ⟨"BarcodeEngineModel", "isRight", "(IIII)Z"⟩, ⟨"BarcodeEngineModel", "doubtful", "(I)I"⟩, ⟨"BarcodeEngineModel", "repaired", "(I)I"⟩, ⟨"BarcodeEngineModel", "winner", "()I"⟩, ⟨"BarcodeEngineModel", "shareOf", "(I)I"⟩, ⟨"BarcodeEngineModel", "worstScan", "(I)I"⟩, ⟨"BarcodeEngineModel", "setCheck", "(IZ)Z"⟩, ⟨"BarcodeEngineLaw", "law", "([I)Z"⟩]
set_option maxRecDepth 20000 in
def bz_bs : List ByteArray := [prog_1_method_1_code, prog_6_method_1_code, prog_3_method_1_code, prog_9_method_1_code, prog_4_method_1_code, prog_2_method_1_code, prog_10_method_1_code, prog_8_method_1_code, prog_7_method_1_code, prog_5_method_1_code, prog_1_method_7_code, prog_1_method_36_code, prog_1_method_55_code, prog_1_method_40_code, prog_9_method_13_code, prog_5_method_3_code, prog_9_method_14_code, prog_2_method_7_code, prog_6_method_13_code, prog_6_method_12_code, prog_3_method_5_code, prog_6_method_11_code, prog_4_method_5_code, prog_3_method_7_code, prog_3_method_8_code, prog_6_method_10_code, prog_3_method_9_code, prog_21_method_59_code, prog_21_method_65_code, prog_8_method_2_code, prog_3_method_6_code, prog_9_method_15_code, prog_2_method_9_code, prog_9_method_7_code, prog_2_method_10_code, prog_4_method_7_code, prog_2_method_8_code, prog_4_method_6_code, prog_6_method_4_code, prog_5_method_4_code, prog_9_method_16_code, prog_9_method_17_code, prog_9_method_18_code, prog_10_method_3_code, prog_10_method_4_code, prog_8_method_5_code, prog_21_method_69_code, prog_3_method_11_code, prog_9_method_12_code, prog_3_method_10_code, prog_9_method_11_code, prog_8_method_6_code, prog_2_method_2_code, prog_3_method_2_code, prog_4_method_2_code, prog_10_method_5_code, prog_10_method_6_code, prog_10_method_7_code, prog_10_method_2_code, prog_1_method_56_code, prog_10_method_9_code, prog_8_method_4_code, prog_2_method_5_code, prog_9_method_10_code, prog_10_method_10_code, method_3_code, prog_1_method_2_code, prog_1_method_44_code, method_4_code, prog_1_method_3_code, prog_1_method_42_code, prog_1_method_47_code, prog_1_method_45_code, prog_23_method_79_code, prog_23_method_80_code, prog_23_method_154_code, prog_23_method_54_code, prog_23_method_152_code, prog_24_method_22_code, prog_24_method_4_code, prog_24_method_23_code, prog_1_method_48_code, prog_2_method_3_code, prog_9_method_8_code, prog_1_method_43_code, prog_2_method_6_code, prog_6_method_2_code, prog_3_method_3_code, prog_3_method_4_code, prog_4_method_3_code, prog_4_method_4_code, prog_1_method_50_code, prog_1_method_52_code, prog_1_method_53_code, method_5_code, prog_1_method_4_code, prog_2_method_4_code, prog_9_method_9_code, prog_8_method_3_code, prog_1_method_49_code, prog_1_method_46_code, prog_23_method_56_code, prog_24_method_2_code, prog_23_method_155_code, prog_30_method_11_code, method_6_code, prog_1_method_5_code, prog_6_method_6_code, prog_6_method_7_code, method_7_code, prog_1_method_6_code, prog_6_method_3_code, method_8_code, prog_1_method_8_code, prog_1_method_39_code, method_9_code, prog_1_method_9_code, prog_1_method_41_code, method_10_code, prog_1_method_10_code, method_11_code, prog_1_method_11_code, prog_6_method_5_code, method_12_code, prog_1_method_12_code, method_13_code, prog_1_method_13_code, prog_6_method_8_code, method_14_code, prog_1_method_14_code, method_15_code, prog_1_method_15_code, method_16_code, prog_1_method_16_code, prog_1_method_54_code, method_17_code, prog_1_method_17_code, prog_5_method_2_code, method_18_code, prog_1_method_18_code, method_19_code, prog_1_method_19_code, method_20_code, prog_1_method_20_code, method_21_code, prog_1_method_21_code, method_22_code, prog_1_method_22_code, method_23_code, prog_1_method_23_code, method_24_code, prog_1_method_24_code, prog_1_method_51_code, prog_6_method_9_code, method_25_code, prog_1_method_25_code, prog_21_method_49_code, method_26_code, prog_1_method_26_code, method_27_code, prog_1_method_27_code, method_28_code, prog_1_method_28_code, method_29_code, prog_1_method_29_code, method_30_code, prog_1_method_30_code, method_31_code, prog_1_method_31_code, method_32_code, prog_1_method_32_code, prog_1_method_57_code, method_33_code, prog_1_method_33_code, method_34_code, prog_1_method_34_code, prog_10_method_8_code, method_35_code, prog_1_method_35_code, method_36_code, prog_1_method_37_code, prog_10_method_11_code, method_37_code, prog_1_method_38_code, prog_12_method_1_code, prog_12_method_2_code, prog_12_method_4_code, prog_12_method_18_code, prog_12_method_5_code, prog_12_method_3_code, prog_12_method_17_code, prog_12_method_9_code, prog_12_method_8_code, prog_12_method_7_code, prog_12_method_6_code, prog_12_method_16_code, prog_12_method_12_code, prog_12_method_11_code, prog_12_method_10_code, prog_12_method_14_code, prog_12_method_13_code, prog_12_method_15_code, prog_12_method_19_code, prog_12_method_21_code, prog_12_method_20_code, prog_12_method_22_code, prog_12_method_23_code, prog_12_method_26_code, prog_12_method_24_code, prog_12_method_27_code, prog_12_method_25_code, prog_12_method_28_code, prog_12_method_29_code, prog_12_method_30_code, prog_12_method_34_code, prog_12_method_31_code, prog_12_method_32_code, prog_12_method_33_code, prog_12_method_69_code, prog_12_method_68_code, prog_12_method_63_code, prog_12_method_61_code, prog_12_method_56_code, prog_12_method_50_code, prog_12_method_48_code, prog_12_method_35_code, prog_12_method_46_code, prog_12_method_43_code, prog_12_method_37_code, prog_12_method_36_code, prog_12_method_53_code, prog_12_method_52_code, prog_12_method_42_code, prog_12_method_39_code, prog_12_method_41_code, prog_12_method_40_code, prog_12_method_38_code, prog_12_method_51_code, prog_12_method_49_code, prog_12_method_54_code, prog_12_method_45_code, prog_12_method_44_code, prog_12_method_55_code, prog_12_method_47_code, prog_12_method_60_code, prog_12_method_62_code, prog_12_method_57_code, prog_12_method_59_code, prog_12_method_58_code, prog_12_method_65_code, prog_12_method_70_code, prog_12_method_72_code, prog_12_method_71_code, prog_12_method_66_code, prog_12_method_73_code, prog_12_method_67_code, prog_12_method_74_code, prog_12_method_75_code, prog_12_method_77_code, prog_12_method_76_code, prog_12_method_78_code, prog_12_method_79_code, prog_12_method_64_code, prog_12_method_82_code, prog_12_method_81_code, prog_12_method_80_code, prog_12_method_85_code, prog_12_method_84_code, prog_12_method_83_code, prog_12_method_86_code, prog_12_method_87_code, prog_12_method_88_code, prog_12_method_97_code, prog_12_method_92_code, prog_12_method_89_code, prog_12_method_90_code, prog_12_method_91_code, prog_12_method_99_code, prog_12_method_98_code, prog_12_method_94_code, prog_12_method_93_code, prog_12_method_95_code, prog_12_method_100_code, prog_12_method_96_code, prog_12_method_101_code, prog_12_method_105_code, prog_12_method_104_code, prog_12_method_102_code, prog_12_method_103_code, prog_12_method_106_code, prog_12_method_107_code, prog_12_method_109_code, prog_12_method_108_code, prog_12_method_110_code, prog_12_method_111_code, code]
set_option maxRecDepth 20000 in
def bz_rts : List (Option FieldType) := [none, none, none, none, none, none, none, none, none, none, (some .int), (some .int), (some (.object "BarcodeEngine$Tally")), none, none, none, (some .boolean), (some .boolean), (some .int), (some .boolean), (some .boolean), (some .boolean), (some .boolean), (some .int), (some .boolean), (some .boolean), (some .int), (some .int), (some .int), none, (some .boolean), (some .int), none, none, (some .boolean), (some .boolean), (some .boolean), (some .boolean), none, none, (some .boolean), none, none, none, (some .int), (some .int), (some .int), (some .int), (some .int), (some .int), (some .int), (some .boolean), (some .boolean), (some .boolean), (some .boolean), none, none, (some .int), (some .int), (some .int), (some .int), none, (some .boolean), (some .boolean), (some .int), (some .int), (some .int), none, (some .int), (some .int), none, none, (some .int), (some .int), (some .int), (some .boolean), (some .int), (some .byte), (some .int), (some .boolean), (some .int), (some .boolean), (some .boolean), (some .boolean), none, none, none, none, none, none, (some .int), none, (some .int), none, (some .int), (some .int), (some .int), (some .int), none, (some .int), (some .int), (some .char), (some .char), none, (some .int), (some .int), (some .int), (some .boolean), (some .int), (some .int), (some .int), none, (some .int), (some .int), none, (some .int), (some .int), none, (some .int), (some .int), (some .int), (some .int), none, (some .int), none, (some .int), (some .int), (some .int), (some .int), none, (some .int), (some .int), (some .int), (some .int), (some (.object "BarcodeEngine$Reading")), (some .int), (some .int), (some (.object "BarcodeEngine$Sequence")), (some .int), (some .int), (some .int), (some .int), (some .int), (some .int), (some .int), (some .boolean), (some .int), (some .int), (some .int), (some .int), (some .int), (some .int), none, (some .long), (some .int), (some .int), (some .long), (some .int), (some .int), (some .int), (some .int), (some .int), (some .int), (some .int), (some .int), (some .int), (some .int), (some .int), (some .int), (some .int), (some .int), (some .int), (some .int), (some .int), (some .int), (some .int), (some .int), (some .int), (some .int), (some .int), (some .int), (some .int), (some .int), (some .boolean), none, (some .int), (some .int), (some .int), (some .boolean), (some .boolean), (some .boolean), (some .boolean), (some .boolean), (some .boolean), (some .int), none, none, none, none, none, (some .int), none, (some .int), (some .int), (some .boolean), (some .int), (some .int), (some .int), (some .boolean), (some .int), (some .boolean), (some .int), (some .int), none, none, (some .int), none, (some .int), (some .int), (some .boolean), none, (some .boolean), (some .boolean), (some .boolean), (some .int), (some .boolean), (some .int), (some .boolean), (some .boolean), (some .int), (some .boolean), (some .boolean), (some .boolean), (some .int), (some .int), (some .int), none, (some .boolean), (some .int), (some .boolean), (some .boolean), (some .boolean), (some .boolean), (some .boolean), none, (some .boolean), none, none, (some .int), (some .int), (some .int), (some .int), (some .boolean), (some .int), (some .int), (some .int), (some .int), (some .boolean), (some .int), (some .boolean), (some .int), (some .int), none, (some .int), (some .int), (some .boolean), (some .int), (some .int), (some .int), (some .int), (some .int), (some .int), (some .int), (some .int), (some .int), (some .boolean), (some .int), (some .int), (some .boolean), (some .int), none, (some .int), (some .int), (some .int), (some .int), (some .int), (some .int), (some .int), (some .boolean), (some .int), (some .int), (some .int), (some .int), (some .int), (some .boolean), (some .boolean)]
set_option maxRecDepth 20000 in
def bz_hhs : List (List (Nat × Nat × Nat × Nat)) := [[], [], [], [], [], [], [], [], [], [], [], [], [], [], [], [], [], [], [], [], [], [], [], [], [], [], [], [], [], [], [], [], [], [], [], [], [], [], [], [], [], [], [], [], [], [], [], [], [], [], [], [], [], [], [], [], [], [], [], [], [], [], [], [], [], [(0, 16, 19, 13)], [], [], [(0, 16, 19, 18), (0, 16, 23, 20), (0, 16, 27, 13)], [], [], [], [], [], [], [], [], [], [], [], [], [], [], [], [], [], [], [], [], [], [], [], [], [], [(0, 10, 13, 18), (0, 10, 17, 20)], [], [], [], [], [], [], [], [], [], [], [(0, 18, 21, 20), (0, 18, 25, 13)], [], [], [], [(0, 8, 11, 13)], [], [], [(0, 9, 12, 18)], [], [], [(0, 10, 13, 18)], [], [], [(0, 12, 15, 18), (0, 12, 19, 20)], [], [(0, 12, 15, 18), (0, 12, 19, 20)], [], [], [(0, 5, 8, 18)], [], [(0, 10, 13, 18), (0, 10, 17, 20)], [], [], [(0, 6, 9, 18), (0, 6, 12, 20)], [], [(0, 9, 12, 18)], [], [(0, 10, 13, 18)], [], [], [(0, 12, 15, 18)], [], [], [(0, 12, 15, 18)], [], [(0, 12, 15, 18)], [], [(0, 14, 17, 18)], [], [(0, 17, 20, 18)], [], [(0, 12, 15, 18)], [], [(0, 12, 15, 18)], [], [(0, 10, 13, 18), (0, 10, 17, 92)], [], [], [], [(0, 10, 13, 18), (0, 10, 17, 92)], [], [], [(0, 12, 15, 18)], [], [(0, 14, 17, 18)], [], [(0, 9, 12, 18), (0, 9, 15, 92)], [], [(0, 9, 12, 18)], [], [(0, 12, 15, 18)], [], [(0, 10, 13, 18)], [], [(0, 10, 13, 18)], [], [], [(0, 9, 12, 18)], [], [(0, 9, 12, 18)], [], [], [(0, 9, 12, 18), (0, 9, 15, 13), (0, 9, 18, 92)], [], [(0, 9, 12, 18), (0, 9, 15, 92)], [], [], [(0, 17, 20, 18)], [], [], [], [], [], [], [], [], [], [], [], [], [], [], [], [], [], [], [], [], [], [], [], [], [], [], [], [], [], [], [], [], [], [], [], [], [], [], [], [], [], [], [], [], [], [], [], [], [], [], [], [], [], [], [], [], [], [], [], [], [], [], [], [], [], [], [], [], [], [], [], [], [], [], [], [], [], [], [], [], [], [], [], [], [], [], [], [], [], [], [], [], [], [], [], [], [], [], [], [], [], [], [], [], [], [], [], [], [], [], [], [], []]
set_option maxRecDepth 20000 in
def bz_frs : List Nat := [4, 1, 2, 1, 2, 2, 1, 1, 3, 2, 0, 8, 7, 6, 4, 0, 3, 1, 0, 0, 1, 0, 1, 2, 1, 0, 0, 0, 0, 0, 1, 2, 1, 0, 1, 1, 1, 1, 0, 0, 3, 2, 2, 3, 2, 1, 0, 0, 2, 0, 1, 0, 0, 0, 0, 1, 0, 1, 0, 2, 0, 1, 0, 0, 1, 7, 6, 0, 8, 7, 6, 5, 4, 3, 2, 0, 1, 0, 1, 0, 0, 1, 0, 0, 6, 1, 0, 2, 1, 1, 0, 1, 1, 0, 8, 7, 0, 0, 0, 1, 4, 3, 2, 1, 0, 7, 6, 0, 0, 8, 7, 0, 8, 7, 6, 8, 7, 6, 8, 7, 8, 7, 0, 8, 7, 8, 7, 1, 8, 7, 8, 7, 9, 8, 7, 9, 8, 0, 9, 8, 9, 8, 9, 8, 9, 8, 9, 8, 9, 8, 9, 8, 6, 0, 9, 8, 0, 9, 8, 9, 8, 9, 8, 9, 8, 9, 8, 9, 8, 9, 8, 5, 9, 8, 9, 8, 0, 9, 8, 9, 8, 0, 8, 7, 1, 0, 0, 7, 1, 0, 6, 1, 5, 1, 4, 6, 2, 1, 0, 2, 0, 5, 6, 2, 1, 0, 0, 2, 1, 3, 2, 3, 3, 2, 0, 2, 2, 2, 10, 9, 8, 7, 6, 2, 0, 0, 1, 0, 1, 0, 3, 2, 1, 0, 0, 0, 0, 2, 0, 3, 2, 1, 5, 4, 0, 7, 5, 6, 5, 0, 10, 11, 10, 0, 11, 0, 11, 10, 11, 10, 11, 10, 9, 10, 1, 1, 11, 10, 2, 11, 10, 1, 11, 10, 2, 1, 2, 13, 12, 11, 1, 0, 13, 1, 13, 13, 12, 2, 5, 12, 12, 13, 12, 12, 2, 17]
set_option maxRecDepth 20000 in
def bz_los : List Nat := [80, 20, 44, 20, 44, 44, 20, 20, 60, 40, 0, 156, 132, 90, 109, 0, 83, 32, 0, 0, 25, 0, 25, 53, 22, 0, 0, 0, 0, 0, 25, 58, 32, 0, 32, 32, 32, 25, 0, 0, 84, 58, 58, 76, 43, 21, 0, 0, 46, 0, 23, 0, 0, 0, 0, 25, 0, 24, 0, 45, 0, 22, 0, 0, 24, 115, 90, 0, 160, 133, 90, 111, 91, 70, 48, 0, 20, 0, 25, 0, 0, 25, 0, 0, 90, 21, 0, 43, 21, 21, 0, 21, 22, 0, 157, 133, 0, 0, 0, 25, 85, 64, 43, 22, 0, 118, 90, 0, 0, 131, 110, 0, 132, 111, 90, 134, 111, 90, 136, 111, 135, 111, 0, 133, 111, 134, 111, 21, 136, 111, 134, 111, 177, 155, 132, 178, 155, 0, 179, 155, 179, 155, 180, 155, 177, 155, 182, 155, 182, 155, 182, 155, 90, 0, 189, 155, 0, 181, 155, 182, 155, 180, 155, 177, 156, 181, 156, 179, 156, 180, 156, 105, 177, 156, 177, 156, 0, 179, 156, 182, 156, 0, 133, 110, 20, 0, 0, 155, 25, 0, 131, 25, 106, 25, 85, 129, 43, 21, 0, 43, 0, 106, 131, 46, 25, 0, 0, 46, 25, 68, 46, 68, 68, 46, 0, 46, 46, 46, 225, 203, 180, 152, 130, 52, 0, 0, 30, 0, 24, 0, 77, 51, 22, 0, 0, 0, 0, 52, 0, 77, 52, 30, 108, 85, 0, 157, 108, 132, 108, 0, 225, 249, 225, 0, 249, 0, 249, 225, 250, 225, 250, 225, 203, 225, 22, 23, 248, 225, 48, 248, 225, 23, 247, 225, 46, 22, 48, 292, 270, 247, 23, 0, 292, 23, 292, 292, 270, 46, 106, 270, 270, 295, 270, 270, 45, 680]
set_option maxRecDepth 20000 in
def pc_0 : List Nat := [0, 1, 4, 5, 7, 9, 12, 13, 16, 17, 20, 23, 24, 26, 29, 32, 33, 34, 37, 38, 39, 42, 43, 46, 47, 48, 49, 52, 53, 56, 57, 58, 59, 62, 63, 66, 67, 70, 71, 72, 75, 76, 77, 80, 81, 84, 85, 86, 87, 90, 91, 94, 95, 96, 97, 100, 101, 104, 105, 108, 109, 110, 112, 113, 114, 115, 116, 117, 118, 119, 120, 121, 122, 123, 124, 127, 128, 131, 132, 135, 138, 139, 142, 143, 146, 149, 150, 153, 154, 157, 160, 161, 164, 165, 168, 171, 172, 173, 173, 174, 176, 179, 180, 183, 184, 187, 188, 191, 192, 195, 198]
set_option maxRecDepth 20000 in
def pc_1 : List Nat := [0, 1, 4, 5, 8, 10, 13]
set_option maxRecDepth 20000 in
def pc_2 : List Nat := [0, 1, 2, 3, 4, 5, 8]
set_option maxRecDepth 20000 in
def pc_3 : List Nat := [0, 1, 4, 5, 6, 9, 10, 11, 14, 15, 16, 19, 20, 22, 25]
set_option maxRecDepth 20000 in
def pc_4 : List Nat := [0, 1, 2, 3, 5, 7, 10]
set_option maxRecDepth 20000 in
def pc_5 : List Nat := [0, 1, 3, 5, 7, 9, 12]
set_option maxRecDepth 20000 in
def pc_6 : List Nat := [0, 1, 4, 5, 8, 10, 13, 14, 16, 18, 21, 22, 24, 26, 29, 30, 32, 34, 37]
set_option maxRecDepth 20000 in
def pc_7 : List Nat := [0, 1, 4, 5, 7, 9, 12, 13, 15, 17, 20]
set_option maxRecDepth 20000 in
def pc_8 : List Nat := [0, 1, 4, 5, 8, 9, 12, 15, 16, 17, 20, 21, 22, 25, 26, 29, 30, 31, 32, 35, 36, 39, 40, 41, 42, 45, 46, 49, 50, 53]
set_option maxRecDepth 20000 in
def pc_9 : List Nat := [0, 1, 4, 5, 8, 9, 12, 15, 16, 19, 20, 23, 26, 27, 30, 31, 34, 37]
set_option maxRecDepth 20000 in
def pc_10 : List Nat := [0, 1, 4]
set_option maxRecDepth 20000 in
def pc_11 : List Nat := [0, 1, 2, 3, 4, 5, 6, 6, 7, 8, 11, 12, 13, 16, 18, 19, 21, 22, 25, 28, 30, 33, 34, 37, 38, 39, 41, 44, 45, 48, 51, 52]
set_option maxRecDepth 20000 in
def pc_12 : List Nat := [0, 1, 4, 5, 8, 9, 10, 11, 12, 15, 18, 19, 20, 21, 24, 25, 26, 27, 28, 30, 30, 32, 33, 36, 39, 40, 41, 44, 46, 47, 50, 51, 54, 55, 58, 60, 61, 64, 65, 66, 69, 72, 75, 76, 77, 78, 79, 82, 83, 86, 89, 90]
set_option maxRecDepth 20000 in
def pc_13 : List Nat := [0, 1, 4, 5, 6, 9, 12, 13, 16, 19, 20]
set_option maxRecDepth 20000 in
def pc_14 : List Nat := [0, 1, 4, 7, 8, 9, 10, 13, 14, 17, 18, 19, 20, 23, 26, 27, 28, 29, 32, 33, 34, 35, 38, 41, 42, 43, 46, 49, 52, 53, 54, 55, 58, 61, 62, 63, 64, 65, 68, 71]
set_option maxRecDepth 20000 in
def pc_15 : List Nat := [0, 1, 4, 5, 8, 9, 12, 13, 16, 17, 20, 21, 24, 25, 26, 29, 30, 31, 34, 35, 36, 39]
set_option maxRecDepth 20000 in
def pc_16 : List Nat := [0, 1, 2, 2, 3, 4, 7, 10, 11, 12, 13, 16, 19, 20, 21, 22, 23, 26, 29, 32, 33, 35, 37, 38, 41, 42, 43, 46, 47, 49, 52, 53, 54, 57, 60, 61, 64, 65, 68, 69]
set_option maxRecDepth 20000 in
def pc_17 : List Nat := [0, 1, 2, 3, 5, 8, 11, 13, 16, 17, 18, 19, 20, 21, 23, 26, 29, 30, 33, 34]
set_option maxRecDepth 20000 in
def pc_18 : List Nat := [0, 1, 2, 3, 4, 5, 6, 7, 9, 10, 13, 15, 16, 19, 21, 22, 25, 28, 29, 30, 31, 34, 35, 36, 38, 40, 42, 43, 45, 45, 47, 49, 52, 53, 56, 58, 59, 61, 64, 65, 68, 70, 71, 74, 76, 78, 79, 82, 84, 85, 87, 90, 91, 94, 96, 97, 100, 102, 104, 106, 107, 108, 110, 113, 114, 116, 117, 118, 120, 121, 124, 125, 126, 127, 129, 131, 133, 135, 137, 138, 140, 140, 142, 144, 147, 148, 151, 153, 154, 156, 157, 159, 160, 162, 164, 165, 168, 169, 171, 172, 173, 174, 176, 178, 180, 183, 185, 188, 190, 192, 195, 196, 198, 199, 201, 203, 205, 208, 210, 213, 215, 217, 219, 220, 221, 223, 226, 228, 229, 232, 233, 236, 239, 241, 243, 244, 245, 247, 248, 250, 251, 253, 255, 258, 260, 263, 265, 268, 269, 271, 271, 273, 275, 276, 279, 281, 283, 284, 286, 289, 291, 292, 295, 298, 299]
set_option maxRecDepth 20000 in
def pc_19 : List Nat := [0, 1, 4, 5, 6, 9, 12, 13, 16, 17, 18, 21, 22, 23, 24, 25, 28, 31, 32, 33, 34, 37, 38, 39, 41, 42, 44, 44, 46, 47, 48, 49, 52, 53, 56, 58, 59, 61, 64, 65, 68, 70, 71, 74, 76, 78, 81, 84, 85, 88, 89, 90, 91, 93, 94, 97, 98, 101, 102]
set_option maxRecDepth 20000 in
def pc_20 : List Nat := [0, 1, 2, 3, 6, 9, 10, 11, 12, 13, 14, 15, 18, 21, 22, 25, 26]
set_option maxRecDepth 20000 in
def pc_21 : List Nat := [0, 1, 4, 5, 6, 9, 10, 11, 12, 13, 16, 19, 20, 21, 22, 25, 26, 27, 28, 29, 31, 32, 34, 34, 36, 37, 38, 39, 42, 43, 46, 48, 49, 50, 53, 54, 57, 59, 60, 63, 64, 65, 66, 69, 71, 72, 74, 77, 78, 81, 83, 84, 87, 89, 91, 94, 97, 99, 100, 101, 102, 105, 106, 109, 110]
set_option maxRecDepth 20000 in
def pc_22 : List Nat := [0, 1, 2, 3, 6, 9, 10, 11, 12, 13, 14, 15, 18, 21, 22, 25, 26]
set_option maxRecDepth 20000 in
def pc_23 : List Nat := [0, 1, 2, 5, 6, 7, 10, 11, 13, 14, 16, 16, 18, 20, 23, 25, 26, 29, 30, 32, 33, 36, 39, 40, 41, 44, 45, 46, 48, 49, 52, 55, 56, 57, 59, 60, 63, 64, 66, 69, 72, 73, 74, 76, 77, 80, 81, 84, 87, 89, 90, 93, 94, 97, 98]
set_option maxRecDepth 20000 in
def pc_24 : List Nat := [0, 1, 2, 3, 6, 9, 10, 11, 12, 15, 16, 17, 18, 21, 22, 23, 24, 25, 26, 28, 29, 32, 33, 34, 35, 36, 37, 40, 41, 42, 43, 44, 45, 47, 49, 50, 53, 54, 55, 56, 57, 58, 59, 62, 63, 64, 65, 66, 67, 69, 71, 72, 75, 76, 77, 79, 81, 82, 84, 85, 86, 88, 89, 90, 92, 94, 96, 97, 99, 100, 101, 103, 104, 105, 107, 109, 110, 113, 114, 115, 116, 119, 120, 121, 122, 123, 124, 125, 126, 128, 129, 132, 133, 136, 137, 139, 141, 143, 145, 148, 150, 152, 153, 156, 157, 158, 160, 162, 163, 165, 167, 168, 169, 172, 174, 176, 177, 179, 181, 182, 183, 186, 189, 191, 192, 194, 196, 199, 201, 202, 204, 205, 206, 209, 210]
set_option maxRecDepth 20000 in
def pc_25 : List Nat := [0, 1, 4, 5, 6, 7, 8, 11, 14, 15, 18, 19]
set_option maxRecDepth 20000 in
def pc_26 : List Nat := [0, 2, 3, 4, 5, 6, 80, 81, 82, 83, 86, 87, 90, 92, 93, 94, 97, 98, 101, 103, 104, 105, 106, 107, 108, 109, 110, 112, 113, 115, 116, 117]
set_option maxRecDepth 20000 in
def pc_27 : List Nat := [0, 1, 4, 5, 6, 9, 10]
set_option maxRecDepth 20000 in
def pc_28 : List Nat := [0, 1, 2, 5, 6, 9, 10]
set_option maxRecDepth 20000 in
def pc_29 : List Nat := [0, 1, 4, 5, 8, 9, 12, 13, 16, 17, 20, 21, 22, 23, 26, 27, 30, 31, 32, 33, 34, 37, 38, 39, 42]
set_option maxRecDepth 20000 in
def pc_30 : List Nat := [0, 1, 2, 3, 4, 5, 8, 11, 12, 13, 14, 15, 16, 17, 18, 19, 22, 25, 26, 29, 30]
set_option maxRecDepth 20000 in
def pc_31 : List Nat := [0, 1, 2, 5, 6, 7, 8, 9, 12, 13, 14, 17, 18, 20, 21, 23, 23, 25, 26, 29, 32, 33, 34, 36, 37, 40, 43, 45, 46, 49, 50, 52, 53, 54, 56, 57, 60, 61, 64, 67, 68, 69, 71, 72, 75, 77, 78, 81, 82, 83, 86, 89, 90]
set_option maxRecDepth 20000 in
def pc_32 : List Nat := [0, 1, 2, 3, 5, 8, 11, 13, 15, 17, 20, 21, 23, 24, 27, 30]
set_option maxRecDepth 20000 in
def pc_33 : List Nat := [0]
set_option maxRecDepth 20000 in
def pc_34 : List Nat := [0, 1, 2, 3, 5, 8, 11, 13, 15, 18, 20, 22, 25, 26, 27, 28, 30, 31, 34, 37, 38]
set_option maxRecDepth 20000 in
def pc_35 : List Nat := [0, 1, 2, 3, 4, 7, 10, 12, 13, 16, 18, 19, 20, 21, 22, 23, 24, 27, 30, 32, 34, 35, 38, 40, 41, 44, 45, 46, 47, 49, 51, 54, 55, 57, 58, 61, 64, 65]
set_option maxRecDepth 20000 in
def pc_36 : List Nat := [0, 1, 2, 4, 5, 6, 8, 11, 14, 16, 19, 20, 21, 22, 23, 24, 26, 27, 29, 32, 35, 36, 39, 40]
set_option maxRecDepth 20000 in
def pc_37 : List Nat := [0, 1, 2, 3, 4, 5, 8, 11, 12, 13, 14, 15, 18, 19, 20, 21, 22, 23, 24, 25, 26, 27, 30, 31, 32, 33, 34, 35, 38, 39, 40, 41, 44, 45, 46, 47, 50, 51, 52, 53, 54, 55, 56, 57, 58, 61, 64, 65, 68, 69]
set_option maxRecDepth 20000 in
def pc_38 : List Nat := [0, 1, 2, 5, 8, 9, 10, 10, 11, 12, 15, 18, 19, 22, 23, 24, 27, 28, 31, 32, 33, 34, 35, 36, 37, 40, 43]
set_option maxRecDepth 20000 in
def pc_39 : List Nat := [0, 1, 4, 5, 6, 7, 8, 9, 10, 13, 14, 17, 18, 19, 20, 21, 22, 23, 26, 27, 28, 31]
set_option maxRecDepth 20000 in
def pc_40 : List Nat := [0, 1, 4, 5, 6, 7, 10, 11, 13, 13, 15, 16, 19, 22, 23, 26, 27, 30, 31, 32, 35, 36, 37, 39, 42, 45, 46, 47, 49, 50, 53, 56, 59, 60, 63, 65, 67, 68, 71, 72, 75, 76, 77, 79, 79, 81, 84, 86, 89, 90, 93, 95, 96, 99, 100, 101, 103, 106, 109, 110, 111, 113, 115, 118, 121, 124, 125, 126, 129, 130, 133, 134, 137, 138, 141, 144, 146, 148, 151, 152, 155, 156, 159, 161, 164, 167, 168, 171, 174, 176, 179, 182, 183, 186, 187]
set_option maxRecDepth 20000 in
def pc_41 : List Nat := [0, 1, 2, 3, 4, 7, 8, 9, 12, 13, 15, 16, 18, 18, 20, 21, 24, 27, 28, 29, 31, 32, 35, 38, 40, 41, 44, 45, 47, 50, 53]
set_option maxRecDepth 20000 in
def pc_42 : List Nat := [0, 1, 2, 5, 6, 8, 9, 11, 11, 13, 14, 17, 20, 21, 22, 24, 25, 28, 29, 30, 33, 36, 38, 39, 42, 43, 45, 48, 51, 52, 53, 56, 57, 59, 59, 61, 63, 66, 67, 68, 70, 71, 74, 75, 77, 78, 81, 82, 84, 87, 90, 91, 92, 94, 95, 98]
set_option maxRecDepth 20000 in
def pc_43 : List Nat := [0, 1, 2, 3, 4, 6, 9, 12, 13, 16, 19, 20, 21, 22, 23, 25, 28, 31, 32, 34, 34, 36, 37, 40, 41, 44, 45, 48, 50, 51, 52, 55, 58, 59, 61, 61, 63, 64, 67, 68, 71, 72, 75, 77, 78, 79, 82, 85, 86, 88, 88, 90, 92, 95, 96, 97, 99, 100, 103, 104, 105, 108, 111, 114, 115, 117, 117, 119, 121, 124, 125, 128, 130, 131, 133, 136, 137, 140, 143, 144, 145, 148]
set_option maxRecDepth 20000 in
def pc_44 : List Nat := [0, 1, 3, 3, 5, 6, 9, 10, 13, 14, 17, 19, 20, 21, 24, 27, 28, 30, 30, 32, 33, 36, 37, 39, 40, 43, 44, 45, 48, 50, 52, 55, 58, 60, 63, 64, 67, 68, 71, 72, 75, 77, 80, 81, 82, 83, 85, 88, 89, 90, 91, 94, 97, 98, 100, 101, 103, 103, 105, 106, 109, 110, 113, 114, 117, 119, 120, 121, 124, 126, 127, 130, 132, 134, 137, 140, 142]
set_option maxRecDepth 20000 in
def pc_45 : List Nat := [0, 2, 3, 4, 5, 5, 6, 7, 10, 13, 14, 15, 18, 19, 20, 23, 24, 27, 30, 31]
set_option maxRecDepth 20000 in
def pc_46 : List Nat := [0, 1, 2, 5, 6, 9, 10]
set_option maxRecDepth 20000 in
def pc_47 : List Nat := [0, 1, 3, 4, 6, 7, 9, 9, 11, 12, 15, 17, 20, 21, 23, 24, 27, 28, 29, 32, 35, 38, 39, 42, 43, 45, 47, 50, 51, 53, 54, 57, 58, 59, 62, 65, 68, 69, 72, 73, 75, 78, 81, 83, 86, 88, 91, 93, 96, 97]
set_option maxRecDepth 20000 in
def pc_48 : List Nat := [0, 1, 3, 4, 6, 7, 9, 9, 11, 12, 15, 16, 18, 19, 22, 23, 24, 27, 29, 30, 32, 32, 34, 35, 38, 39, 41, 42, 45, 46, 47, 50, 52, 54, 56, 59, 60, 63, 64, 66, 68, 71, 73, 75, 77, 80, 82, 84, 86, 89, 91, 94, 95, 97, 98, 100, 103, 106, 109, 112, 114]
set_option maxRecDepth 20000 in
def pc_49 : List Nat := [0, 1, 4, 5, 8, 9, 12, 13, 16, 17, 20, 21]
set_option maxRecDepth 20000 in
def pc_50 : List Nat := [0, 1, 4, 5, 8, 11, 12, 12, 13, 14, 17, 18, 19, 20, 23, 26, 27, 28, 31, 32, 35, 36, 37, 38, 41, 44, 45, 46, 49, 52, 53]
set_option maxRecDepth 20000 in
def pc_51 : List Nat := [0, 1, 4, 5, 6, 9, 12, 13, 14, 17, 20, 21, 22, 23, 24, 24, 25, 26, 29, 30, 33, 34, 37, 38, 39, 40, 41, 42, 43, 46, 47, 48, 51, 52, 53, 56, 59, 60]
set_option maxRecDepth 20000 in
def pc_52 : List Nat := [0, 1, 2, 5, 6, 8, 11, 12, 15, 16]
set_option maxRecDepth 20000 in
def pc_53 : List Nat := [0, 1, 3, 6, 7, 10, 11]
set_option maxRecDepth 20000 in
def pc_54 : List Nat := [0, 1, 2, 5, 6, 8, 11, 12, 13, 14, 17, 18, 21, 22]
set_option maxRecDepth 20000 in
def pc_55 : List Nat := [0, 1, 4, 7, 8, 11, 14, 15, 16, 19, 20, 23, 24, 27, 30, 31, 34, 37, 38, 39, 42, 43, 46, 47, 50, 53, 54, 57, 60, 61, 62, 65, 66, 69, 70, 73, 76, 77, 80]
set_option maxRecDepth 20000 in
def pc_56 : List Nat := [0, 1, 2, 2, 3, 4, 7, 10, 11, 12, 13, 15, 17, 19, 20, 21, 24, 25, 26, 27, 29, 31, 34, 36, 38, 41, 43, 46, 48, 49, 52, 53, 56, 57, 60, 62, 63, 64, 65, 66, 69, 70, 71, 72, 73, 74, 75, 78, 80, 81, 82, 83, 84, 87, 88, 89, 90, 91, 92, 95, 98]
set_option maxRecDepth 20000 in
def pc_57 : List Nat := [0, 1, 2, 2, 3, 5, 8, 9, 10, 11, 12, 15, 16, 17, 20, 21, 22, 25, 26, 27, 30, 33, 34]
set_option maxRecDepth 20000 in
def pc_58 : List Nat := [0, 1, 3, 4, 5, 6, 7, 8, 11, 12, 14, 17, 18, 21, 22, 24, 27, 28, 31, 32, 34, 36, 39, 40, 43, 44, 45, 48, 49]
set_option maxRecDepth 20000 in
def pc_59 : List Nat := [0, 1, 4, 7, 8, 9, 10, 13, 16, 17, 18, 19, 22, 23, 26, 27, 30, 33, 34, 37, 38, 39, 42, 43, 46, 47, 48, 49, 52, 55, 58, 59, 62, 63]
set_option maxRecDepth 20000 in
def pc_60 : List Nat := [0, 1, 2, 3, 4, 4, 5, 6, 9, 12, 13, 16, 17, 18, 19, 22, 25, 28, 31, 32]
set_option maxRecDepth 20000 in
def pc_61 : List Nat := [0, 1, 2, 5, 6, 7, 7, 8, 9, 12, 13, 14, 15, 18, 19, 20, 21, 22, 23, 26, 29, 32]
set_option maxRecDepth 20000 in
def pc_62 : List Nat := [0, 1, 2, 3, 4, 4, 5, 6, 9, 12, 13, 14, 17, 18, 19, 20, 21, 24, 27, 28, 30, 31, 34, 35, 38, 39]
set_option maxRecDepth 20000 in
def pc_63 : List Nat := [0, 1, 2, 3, 4, 4, 5, 6, 9, 12, 13, 14, 15, 16, 19, 20, 21, 24, 25, 26, 27, 30, 31, 34, 35, 36, 37, 38, 41, 44, 45, 47, 48, 51, 52, 55, 56]
set_option maxRecDepth 20000 in
def pc_64 : List Nat := [0, 2, 3, 4, 5, 5, 6, 7, 10, 13, 14, 17, 18, 19, 22, 24, 25, 26, 27, 30, 31, 32, 35, 36, 37, 40, 41, 42, 43, 44, 45, 46, 49, 50, 53, 56, 57]
set_option maxRecDepth 20000 in
def pc_65 : List Nat := [0, 2, 3, 4, 5, 6, 7, 9, 11, 14, 15, 16, 19, 21, 22, 23, 24]
set_option maxRecDepth 20000 in
def pc_66 : List Nat := [0, 1, 4, 6, 7, 9, 12, 15, 16, 18, 21, 22, 23, 24, 27, 28, 29, 32, 33, 34, 37, 38, 40, 43, 44, 46, 49, 50, 53]
set_option maxRecDepth 20000 in
def pc_67 : List Nat := [0, 2, 3, 3, 4, 7, 8, 11, 13, 16, 17, 20, 21, 24, 25, 26, 27, 30, 31, 32, 33, 34, 37, 38, 39, 42, 45, 48]
set_option maxRecDepth 20000 in
def pc_68 : List Nat := [0, 2, 3, 4, 5, 6, 7, 9, 11, 14, 15, 16, 19, 21, 22, 23, 25, 26, 27, 29, 30, 31, 32]
set_option maxRecDepth 20000 in
def pc_69 : List Nat := [0, 1, 4, 5, 6, 9, 10, 11, 14, 15, 17, 20, 22, 24, 27, 29, 30, 33, 36, 37, 39, 42, 43, 44, 47, 48, 49, 51, 52, 53, 56, 58, 59, 62, 65, 66, 68, 71, 74, 77, 78, 80, 83, 84, 85, 88, 89, 92, 93, 96, 98, 99, 102, 103, 106, 109, 110, 113, 114, 117, 118, 120, 122, 125, 126, 129, 131, 134, 136, 137, 138, 141, 142, 144, 147, 148, 150, 152, 155, 157, 160, 162, 163, 164, 167, 168, 169, 172, 173, 175, 178]
set_option maxRecDepth 20000 in
def pc_70 : List Nat := [0, 1, 4, 5, 6, 9, 12, 15, 16, 19, 22, 23]
set_option maxRecDepth 20000 in
def pc_71 : List Nat := [0, 1, 4, 5, 8, 9, 10, 10, 11, 12, 15, 16, 18, 21, 22, 25, 26, 29, 30, 31, 34, 35, 38, 41, 44]
set_option maxRecDepth 20000 in
def pc_72 : List Nat := [0, 1, 4, 5, 7, 10, 11, 14, 17, 18, 19, 22]
set_option maxRecDepth 20000 in
def pc_73 : List Nat := [0, 1, 2, 3, 6]
set_option maxRecDepth 20000 in
def pc_74 : List Nat := [0, 1, 4, 7, 8, 11, 12, 13, 14, 17, 20, 23, 24, 27, 28, 29, 30, 33, 36]
set_option maxRecDepth 20000 in
def pc_75 : List Nat := [0, 3, 6, 7, 10, 13, 14, 17, 18]
set_option maxRecDepth 20000 in
def pc_76 : List Nat := [0, 1, 4, 5, 6, 9, 10]
set_option maxRecDepth 20000 in
def pc_77 : List Nat := [0, 3, 6, 7, 10, 13, 14]
set_option maxRecDepth 20000 in
def pc_78 : List Nat := [0, 1, 4, 7, 8, 9, 10, 11, 14, 15, 16, 17, 18, 21, 22, 23, 24, 27, 28, 29, 30, 31, 32, 33, 36]
set_option maxRecDepth 20000 in
def pc_79 : List Nat := [0, 1, 4, 5, 8, 11, 12, 15, 16]
set_option maxRecDepth 20000 in
def pc_80 : List Nat := [0, 1, 2, 4, 5, 7, 7, 9, 10, 13, 14, 16, 17, 19, 22, 24, 25, 28, 31, 32]
set_option maxRecDepth 20000 in
def pc_81 : List Nat := [0, 1, 2, 2, 3, 4, 7, 10, 13, 14, 15, 18, 21, 22, 23, 24, 25, 28, 31, 34, 37, 38, 39, 42, 45, 46]
set_option maxRecDepth 20000 in
def pc_82 : List Nat := [0, 1, 3, 6, 7, 9, 12, 13, 16, 17, 19, 20, 23, 24, 26, 29, 30, 33, 34, 36, 37, 40, 41, 42, 43, 44, 47, 49, 52, 54]
set_option maxRecDepth 20000 in
def pc_83 : List Nat := [0, 1, 4, 5, 7, 10, 11, 14, 15]
set_option maxRecDepth 20000 in
def pc_84 : List Nat := [0, 1, 4, 6, 9, 12, 13, 16, 19, 20]
set_option maxRecDepth 20000 in
def pc_85 : List Nat := [0, 1, 2, 2, 3, 4, 7, 10, 11, 14, 15, 16, 19, 20, 23, 24, 25, 27, 29, 32, 34, 36, 39, 40, 43, 46, 48, 49, 51, 53, 55, 55, 57, 60, 61, 63, 65, 66, 67, 68, 69, 72, 73, 76, 77, 80, 83, 86, 89, 92]
set_option maxRecDepth 20000 in
def pc_86 : List Nat := [0, 1, 4, 5, 8, 9, 12, 13, 16, 17, 20, 21, 22, 23, 24, 27, 28, 29, 32]
set_option maxRecDepth 20000 in
def pc_87 : List Nat := [0, 1, 2, 5, 6, 7, 7, 8, 9, 12, 15, 16, 17, 20, 21, 22, 25, 26, 27, 30, 31, 32, 33, 35, 37, 39, 39, 41, 43, 44, 45, 48, 50, 53, 55, 58, 59, 62, 63, 66, 68, 69, 72, 75, 78, 81, 84, 85, 86, 89]
set_option maxRecDepth 20000 in
def pc_88 : List Nat := [0, 1, 2, 2, 3, 4, 7, 8, 9, 12, 15, 18]
set_option maxRecDepth 20000 in
def pc_89 : List Nat := [0, 1, 2, 2, 3, 4, 7, 8, 9, 12, 15, 18, 19, 20, 20, 21, 22, 23, 24, 27, 30, 31, 34, 35, 36, 39, 41, 42, 45, 46, 47, 48, 49, 52, 54, 55, 57, 57, 59, 62, 63, 65, 67, 68, 69, 70, 71, 74, 75, 78, 79, 82, 83, 85, 87, 88, 89, 90, 91, 94, 95, 98, 99, 102, 105, 108, 111, 114, 115, 116, 119, 120, 121, 124, 125, 126, 129]
set_option maxRecDepth 20000 in
def pc_90 : List Nat := [0, 1, 4, 5, 8, 9, 12, 13, 16, 19, 20, 21]
set_option maxRecDepth 20000 in
def pc_91 : List Nat := [0, 2, 4, 5, 7, 7, 9, 10, 13, 16, 19, 20, 23, 26, 28, 29, 30, 31, 33, 34, 35, 38, 39, 42, 43, 44, 45, 47, 49, 52, 55, 57, 58, 61, 62, 64, 66, 68, 70, 71, 72, 73, 74, 75, 76, 78, 79, 81, 82, 85, 88, 91, 94]
set_option maxRecDepth 20000 in
def pc_92 : List Nat := [0, 1, 2, 5, 6, 7, 10, 11, 12, 15, 16, 19, 20, 21]
set_option maxRecDepth 20000 in
def pc_93 : List Nat := [0, 1, 2, 2, 3, 4, 7, 8, 11, 12, 13, 14, 17, 18, 21, 22, 23, 24, 27, 30, 33]
set_option maxRecDepth 20000 in
def pc_94 : List Nat := [0, 1, 2, 3, 4, 5, 8, 9, 10, 13, 15, 16, 17, 19, 20, 21, 22]
set_option maxRecDepth 20000 in
def pc_95 : List Nat := [0, 1, 4, 5, 6, 9, 10, 13, 14, 15, 16, 17, 18, 19, 20, 23, 25, 26, 27, 30, 31, 34, 36, 37, 40, 41, 42, 43, 44, 47, 50, 51, 52, 55, 58, 61, 62, 64, 67, 68, 69, 70, 72, 75, 78]
set_option maxRecDepth 20000 in
def pc_96 : List Nat := [0, 1, 2, 3]
set_option maxRecDepth 20000 in
def pc_97 : List Nat := [0, 1, 2, 3]
set_option maxRecDepth 20000 in
def pc_98 : List Nat := [0, 1, 4, 5, 6, 9, 12, 13, 16, 17, 20, 21, 24, 25, 26, 29, 30, 30, 31, 32, 35, 36, 39, 40, 41, 44, 45, 46, 47, 48, 49, 52, 55, 56, 59, 60, 61, 62, 63, 64, 67, 68, 69, 72]
set_option maxRecDepth 20000 in
def pc_99 : List Nat := [0, 1, 4, 5, 6, 9, 12, 15, 16, 17, 18, 19, 20, 22, 23, 25, 25, 27, 29, 32, 33, 36, 39, 40, 42, 43, 44, 46, 47, 48, 51, 54, 57, 60, 61, 62, 65, 68, 71, 73, 74, 77, 80, 83, 85, 86, 89, 90, 93, 94]
set_option maxRecDepth 20000 in
def pc_100 : List Nat := [0, 1, 4, 5, 7, 10, 11, 14, 17, 18, 21]
set_option maxRecDepth 20000 in
def pc_101 : List Nat := [0, 1, 4, 7, 8, 11, 12, 15, 16, 17, 20, 21, 24]
set_option maxRecDepth 20000 in
def pc_102 : List Nat := [0, 1, 2, 3, 6, 7, 8, 9, 12, 13, 14]
set_option maxRecDepth 20000 in
def pc_103 : List Nat := [0, 1, 2, 5, 8, 9]
set_option maxRecDepth 20000 in
def pc_104 : List Nat := [0, 1, 4, 5, 6, 9, 10, 11, 12, 15, 16, 17]
set_option maxRecDepth 20000 in
def pc_105 : List Nat := [0, 2, 3, 4, 5, 6, 7, 9, 11, 13, 16, 17, 18, 21, 23, 24, 25, 27, 28, 29, 30]
set_option maxRecDepth 20000 in
def pc_106 : List Nat := [0, 1, 4, 5, 8, 9, 12, 13, 16, 17, 20, 21, 24, 25, 28, 29, 32, 33, 36, 38, 41, 42, 45, 47, 50, 51, 54, 56, 59, 60, 63, 64, 67, 70, 73, 76, 77, 79, 82, 83, 84, 87, 90, 92, 93, 96, 99, 101, 102, 105, 108, 111, 112, 114, 117, 118, 119, 121, 121, 123, 125, 128, 129, 132, 133, 136, 139, 141, 142, 145, 148, 151, 152, 155, 158]
set_option maxRecDepth 20000 in
def pc_107 : List Nat := [0, 1, 2, 2, 3, 4, 7, 10, 11, 14, 15, 16, 17, 20, 21, 24, 25, 26, 27, 30, 31, 32, 35, 38, 39]
set_option maxRecDepth 20000 in
def pc_108 : List Nat := [0, 1, 2, 2, 3, 4, 7, 10, 11, 14, 15, 16, 19, 22, 25, 26]
set_option maxRecDepth 20000 in
def pc_109 : List Nat := [0, 1, 2, 3, 6, 7, 8, 11, 12, 13, 14, 15]
set_option maxRecDepth 20000 in
def pc_110 : List Nat := [0, 1, 4, 7, 8, 11, 12, 15, 18, 19, 20, 23, 26, 27, 29, 32, 33, 34, 37, 38, 41, 42, 45, 46, 47, 48, 51, 52, 55, 58, 59, 62, 63, 66, 67, 68, 71]
set_option maxRecDepth 20000 in
def pc_111 : List Nat := [0, 1, 2, 5, 8, 9, 10, 10, 11, 12, 15, 18, 19, 22, 23, 24, 27, 28, 29, 30, 33, 36]
set_option maxRecDepth 20000 in
def pc_112 : List Nat := [0, 1, 2, 3, 4, 7, 8, 9, 12, 13, 14, 15, 16]
set_option maxRecDepth 20000 in
def pc_113 : List Nat := [0, 1, 2, 5, 6, 9, 10, 11, 14, 17]
set_option maxRecDepth 20000 in
def pc_114 : List Nat := [0, 1, 4, 5, 6, 9, 12, 15, 16, 19, 22, 23]
set_option maxRecDepth 20000 in
def pc_115 : List Nat := [0, 1, 2, 3, 4, 5, 8, 9, 10, 13, 15, 16, 17, 18]
set_option maxRecDepth 20000 in
def pc_116 : List Nat := [0, 1, 2, 5, 6, 9, 10, 11, 14, 15, 16, 17, 20, 23, 24, 27, 28, 29]
set_option maxRecDepth 20000 in
def pc_117 : List Nat := [0, 1, 4, 5, 6, 9, 12, 13, 16, 19, 20]
set_option maxRecDepth 20000 in
def pc_118 : List Nat := [0, 2, 3, 4, 5, 6, 7, 10, 11, 12, 15, 17, 18, 19, 21, 22, 23, 24]
set_option maxRecDepth 20000 in
def pc_119 : List Nat := [0, 1, 2, 5, 6, 9, 10, 11, 14, 16, 17, 19, 22, 25, 26, 27, 30, 31, 34, 37, 40, 41, 43, 46, 47, 49, 52, 53, 54, 56, 58, 61, 62, 63, 64, 65, 66, 69, 70, 71, 74, 76]
set_option maxRecDepth 20000 in
def pc_120 : List Nat := [0, 2, 3, 4, 5, 6, 7, 10, 11, 12, 15, 17, 18, 19, 21, 22, 23, 24]
set_option maxRecDepth 20000 in
def pc_121 : List Nat := [0, 1, 2, 5, 6, 9, 10, 11, 14, 16, 17, 19, 22, 25, 26, 28, 31, 34, 35, 36, 37, 40, 41, 42, 43, 46, 47, 48, 49, 50, 53, 56, 57, 59, 62, 63, 65, 66, 67, 70, 71, 72, 75, 76, 77, 80, 82, 85]
set_option maxRecDepth 20000 in
def pc_122 : List Nat := [0, 1, 4, 5, 6, 9, 12, 13, 14, 15, 15, 16, 17, 20, 21, 24, 25, 26, 27, 28, 31, 32, 33, 34, 37, 40, 41, 42, 43, 44, 45, 46, 49]
set_option maxRecDepth 20000 in
def pc_123 : List Nat := [0, 1, 2, 5, 8, 9, 10, 11, 12]
set_option maxRecDepth 20000 in
def pc_124 : List Nat := [0, 1, 2, 5, 6, 9, 10, 11, 14, 15, 16, 19, 20, 23, 24, 25, 28, 31, 32, 33, 36, 37, 38, 41]
set_option maxRecDepth 20000 in
def pc_125 : List Nat := [0, 1, 2, 3, 4, 5, 8, 9, 10, 13, 15, 16, 17, 19, 20, 21, 22]
set_option maxRecDepth 20000 in
def pc_126 : List Nat := [0, 1, 2, 5, 6, 8, 11, 12, 14, 17, 20, 21, 23, 26, 27, 28, 31, 32, 33, 36, 37, 40, 41, 42, 43, 46, 47, 48, 51, 52]
set_option maxRecDepth 20000 in
def pc_127 : List Nat := [0, 1, 2, 3, 4, 4, 5, 6, 9, 10, 11, 14, 15, 18, 19, 20, 21, 22, 23, 24, 27, 28, 31, 32, 33, 34, 36, 37, 39, 42, 45, 48, 50, 52, 54, 57, 60, 61, 64, 65, 67, 68, 71, 74, 75]
set_option maxRecDepth 20000 in
def pc_128 : List Nat := [0, 1, 2, 3, 6, 9, 10, 11, 12, 13, 14, 15, 16]
set_option maxRecDepth 20000 in
def pc_129 : List Nat := [0, 1, 2, 5, 6, 7, 10, 11, 14, 15, 16, 19, 20, 21, 24, 25, 26, 29, 31, 32, 35, 37, 40, 43, 46, 47, 49, 52, 53, 54, 56, 56, 58, 59, 62, 65, 66, 69, 71, 72, 75, 77, 78, 80, 83, 85, 86, 87, 88, 89, 90, 91, 92, 95, 98, 99, 100, 103, 104, 105, 108]
set_option maxRecDepth 20000 in
def pc_130 : List Nat := [0, 1, 2, 3, 4, 7, 8, 9, 12, 13, 14, 15, 16]
set_option maxRecDepth 20000 in
def pc_131 : List Nat := [0, 1, 2, 5, 6, 9, 10, 11, 12, 13, 14, 14, 15, 16, 17, 18, 21, 24, 25, 28, 29, 30, 33, 34, 35, 36, 37, 38, 41, 44, 45, 46, 49, 50, 51, 54, 55, 58, 59, 62, 63, 64, 65, 66, 69, 70, 73]
set_option maxRecDepth 20000 in
def pc_132 : List Nat := [0, 1, 2, 3, 4, 5, 8, 9, 10, 13, 15, 16, 17, 18]
set_option maxRecDepth 20000 in
def pc_133 : List Nat := [0, 1, 2, 3, 6, 9, 12]
set_option maxRecDepth 20000 in
def pc_134 : List Nat := [0, 1, 2, 5, 6, 9, 10, 13, 14, 15, 18, 19, 20, 21, 22, 25, 26, 27, 28, 31, 32, 33, 36, 37, 40, 41, 44, 45]
set_option maxRecDepth 20000 in
def pc_135 : List Nat := [0, 2, 3, 4, 5, 6, 7, 10, 11, 12, 15, 17, 18, 19, 20]
set_option maxRecDepth 20000 in
def pc_136 : List Nat := [0, 1, 2, 3, 6, 7, 10, 13]
set_option maxRecDepth 20000 in
def pc_137 : List Nat := [0, 1, 4, 5, 8, 11, 12, 15]
set_option maxRecDepth 20000 in
def pc_138 : List Nat := [0, 2, 3, 4, 5, 6, 7, 10, 11, 12, 15, 17, 18, 19, 20]
set_option maxRecDepth 20000 in
def pc_139 : List Nat := [0, 1, 2, 3, 6, 9, 11, 12, 14, 17, 20, 22, 25, 26, 27, 30]
set_option maxRecDepth 20000 in
def pc_140 : List Nat := [0, 2, 3, 4, 5, 6, 7, 10, 11, 12, 15, 17, 18, 19, 20]
set_option maxRecDepth 20000 in
def pc_141 : List Nat := [0, 1, 2, 3, 6, 9, 11, 12, 14, 17, 20, 22, 25, 26, 27]
set_option maxRecDepth 20000 in
def pc_142 : List Nat := [0, 2, 3, 4, 5, 6, 7, 9, 12, 13, 14, 17, 19, 20, 21, 22]
set_option maxRecDepth 20000 in
def pc_143 : List Nat := [0, 1, 2, 3, 6, 7, 10, 12, 14, 16, 19, 22, 24, 27, 29, 30, 33]
set_option maxRecDepth 20000 in
def pc_144 : List Nat := [0, 1, 2, 3, 4, 5, 8, 11, 12, 15, 16, 17, 20, 22, 23, 24, 25]
set_option maxRecDepth 20000 in
def pc_145 : List Nat := [0, 1, 2, 3, 6, 9]
set_option maxRecDepth 20000 in
def pc_146 : List Nat := [0, 2, 3, 4, 5, 6, 7, 10, 11, 12, 15, 17, 18, 19, 20]
set_option maxRecDepth 20000 in
def pc_147 : List Nat := [0, 1, 2, 3, 6, 9, 11, 12, 13, 14, 17, 20, 22, 24, 27, 30, 32, 35, 37, 40, 43, 44, 45, 46, 48, 49, 51, 51, 53, 55, 58, 61, 63, 66, 68, 69, 71, 74, 76, 77, 80, 83, 86, 89, 91]
set_option maxRecDepth 20000 in
def pc_148 : List Nat := [0, 2, 3, 4, 5, 6, 7, 10, 11, 12, 15, 17, 18, 19, 20]
set_option maxRecDepth 20000 in
def pc_149 : List Nat := [0, 1, 2, 3, 6, 9, 11, 12, 13, 14, 17, 20, 22, 24, 27, 30, 32, 35, 38, 39, 40, 42, 45, 47, 50, 53, 55, 57, 59, 59, 61, 64, 66, 68, 70, 73, 76, 78, 79, 82, 85, 86]
set_option maxRecDepth 20000 in
def pc_150 : List Nat := [0, 1, 2, 3, 4, 5, 8, 9, 10, 13, 15, 16, 17, 19, 20, 21, 22]
set_option maxRecDepth 20000 in
def pc_151 : List Nat := [0, 1, 2, 3, 6, 7, 8, 9, 12, 13, 14, 15, 18, 19, 22, 23, 24, 27, 30, 31, 32, 33, 36, 38, 40, 41, 42, 45, 46, 47, 48, 51, 52, 53, 56, 57, 60, 61, 64, 65, 68, 70, 73, 75, 76, 78, 79, 80]
set_option maxRecDepth 20000 in
def pc_152 : List Nat := [0, 1, 4, 7, 10, 13, 14, 17, 20, 21, 22, 25, 26, 29, 30, 31, 34, 35, 38, 41]
set_option maxRecDepth 20000 in
def pc_153 : List Nat := [0, 1, 3, 4, 7, 8, 9, 12, 15, 16, 17, 20, 22, 23, 24, 26, 26, 28, 29, 32, 34, 35, 38, 40, 41, 42, 43, 45, 47, 48, 49, 51, 54, 56]
set_option maxRecDepth 20000 in
def pc_154 : List Nat := [0, 1, 2, 3, 4, 5, 8, 9, 10, 13, 15, 16, 17, 19, 20, 21, 22]
set_option maxRecDepth 20000 in
def pc_155 : List Nat := [0, 1, 2, 3, 6, 7, 8, 9, 12, 13, 14, 15, 18, 19, 22, 23, 24, 27, 30, 31, 32, 33, 36, 38, 38, 39, 42, 43, 44, 47, 50, 51, 52, 53, 56, 58, 58, 59, 62, 63, 64, 67, 69, 71, 72, 75, 76, 79, 80, 83, 85, 85, 87, 88, 91, 92, 95, 96, 99, 101, 101, 102, 105, 108, 109, 110, 111, 112, 113, 115, 116, 118, 118, 120, 121, 122, 125, 126, 127, 130, 132, 134, 135, 137, 139, 140, 141, 142, 144, 147, 148]
set_option maxRecDepth 20000 in
def pc_156 : List Nat := [0, 1, 2, 3, 5, 6, 7, 8, 9, 10, 13, 15, 16, 17, 18, 19, 22, 24, 25, 26, 27, 29]
set_option maxRecDepth 20000 in
def pc_157 : List Nat := [0, 2, 3, 4, 5, 6, 7, 10, 11, 12, 15, 17, 18, 19, 20]
set_option maxRecDepth 20000 in
def pc_158 : List Nat := [0, 1, 2, 3, 6, 9, 11, 12, 13, 14, 17, 20, 22, 23, 26, 27, 28, 30, 32, 35, 37, 39, 40, 43, 44, 47, 49, 52, 54, 57, 58, 60, 61]
set_option maxRecDepth 20000 in
def pc_159 : List Nat := [0, 2, 3, 4, 5, 6, 7, 9, 12, 13, 14, 17, 19, 20, 21, 22]
set_option maxRecDepth 20000 in
def pc_160 : List Nat := [0, 1, 2, 3, 6, 9, 11, 12, 13, 14, 17, 20, 22, 23, 26, 27, 28, 30, 32, 35, 37, 39, 41, 42, 45, 46, 49, 51, 54, 56, 59, 60, 62, 63, 66, 68, 70, 73, 76, 78, 81, 83, 84, 87, 88, 90, 93, 95, 97, 100, 101, 103, 104, 105, 108]
set_option maxRecDepth 20000 in
def pc_161 : List Nat := [0, 1, 2, 3, 4, 7, 8, 9, 12, 13, 14, 15, 16, 17, 18, 19]
set_option maxRecDepth 20000 in
def pc_162 : List Nat := [0, 1, 4, 5, 6, 7, 8, 9, 11, 11, 13, 14, 17, 20, 21, 23, 24, 27, 30, 32, 34, 37, 40, 42, 45, 46, 49, 51, 52, 54, 57, 58, 61, 64, 65, 66, 69, 72, 73, 76, 79, 80, 81]
set_option maxRecDepth 20000 in
def pc_163 : List Nat := [0, 1, 2, 3, 4, 7, 8, 9, 12, 13, 14, 15, 16]
set_option maxRecDepth 20000 in
def pc_164 : List Nat := [0, 1, 2, 5, 8]
set_option maxRecDepth 20000 in
def pc_165 : List Nat := [0, 2, 3, 4, 5, 6, 7, 10, 11, 12, 15, 17, 18, 19, 20]
set_option maxRecDepth 20000 in
def pc_166 : List Nat := [0, 1, 2, 5, 7, 8, 10, 13, 16, 17, 18, 21, 23, 26, 27, 28, 29, 30, 33, 35, 37, 38, 41, 42, 45, 47, 48, 50, 53]
set_option maxRecDepth 20000 in
def pc_167 : List Nat := [0, 1, 2, 3, 4, 5, 8, 9, 10, 13, 15, 16, 17, 18]
set_option maxRecDepth 20000 in
def pc_168 : List Nat := [0, 1, 2, 5, 6, 7, 8, 11, 14, 15, 18, 19, 20, 23]
set_option maxRecDepth 20000 in
def pc_169 : List Nat := [0, 1, 2, 3, 4, 5, 8, 9, 10, 13, 15, 16, 17, 18]
set_option maxRecDepth 20000 in
def pc_170 : List Nat := [0, 1, 2, 5, 6, 7, 8, 11, 14, 15, 16, 17, 20, 22, 24, 25, 28, 29, 32, 33, 34, 36, 39, 42]
set_option maxRecDepth 20000 in
def pc_171 : List Nat := [0, 1, 2, 3, 5, 6, 8, 8, 10, 12, 15, 16, 17, 19, 22, 24, 26, 28, 31, 32, 33, 36, 38, 41, 42, 45, 48, 49, 52, 53, 55, 57, 58, 61, 63, 65, 68, 70, 73, 75, 76, 78, 80, 83, 86, 87]
set_option maxRecDepth 20000 in
def pc_172 : List Nat := [0, 1, 2, 3, 4, 7, 8, 9, 12, 13, 14, 15, 16]
set_option maxRecDepth 20000 in
def pc_173 : List Nat := [0, 1, 2, 3, 6, 7, 10]
set_option maxRecDepth 20000 in
def pc_174 : List Nat := [0, 1, 2, 3, 4, 7, 8, 9, 12, 13, 14, 15, 16]
set_option maxRecDepth 20000 in
def pc_175 : List Nat := [0, 1, 2, 5, 8]
set_option maxRecDepth 20000 in
def pc_176 : List Nat := [0, 1, 2, 2, 3, 4, 7, 10, 11, 14, 15, 16, 17, 20, 21, 22, 25, 28, 29]
set_option maxRecDepth 20000 in
def pc_177 : List Nat := [0, 1, 2, 3, 4, 7, 8, 9, 12, 13, 14, 15, 16, 17, 18, 19, 20, 21, 22]
set_option maxRecDepth 20000 in
def pc_178 : List Nat := [0, 1, 2, 5, 6, 7, 10, 11, 14, 17, 18, 21, 24, 25, 26, 29, 30, 33, 34, 37, 40, 41, 42, 45, 46, 47, 48, 51, 54, 55, 56, 57, 60, 63, 64, 67, 70, 71, 72, 75]
set_option maxRecDepth 20000 in
def pc_179 : List Nat := [0, 1, 2, 3, 4, 7, 8, 9, 12, 13, 14, 15, 16, 17, 18, 19]
set_option maxRecDepth 20000 in
def pc_180 : List Nat := [0, 1, 2, 5, 6, 7, 8, 9, 11, 12, 14, 14, 16, 17, 20, 23, 24, 26, 27, 30, 33, 35, 37, 40, 43, 45, 48, 49, 52, 55, 56, 58, 61, 63, 66, 68, 69, 70, 72, 75, 77, 80, 83, 84, 85, 88, 91, 92, 95, 98, 99, 100]
set_option maxRecDepth 20000 in
def pc_181 : List Nat := [0, 1, 2, 3, 4, 4, 5, 6, 9, 12, 13, 16, 17, 18, 19, 22, 23, 24, 27, 30, 33, 36, 37]
set_option maxRecDepth 20000 in
def pc_182 : List Nat := [0, 1, 2, 3, 4, 5, 8, 11, 12, 15, 16, 17, 20, 22, 23, 24, 25]
set_option maxRecDepth 20000 in
def pc_183 : List Nat := [0, 1, 4, 5, 8, 9, 10, 11, 12, 15, 16, 17, 18, 19]
set_option maxRecDepth 20000 in
def pc_184 : List Nat := [0, 1, 4, 5, 8, 10, 13, 14, 16, 18, 21, 22, 25, 27, 30, 31, 33, 35, 38, 39, 40, 42, 43, 44, 45, 46, 47, 48, 49, 50, 51, 52, 53, 54, 57, 58, 60, 62, 63, 64, 67, 68, 69, 70, 73, 74, 75, 76, 79, 80, 81, 82, 85, 86, 87, 88, 91, 92, 93, 94, 97, 98, 99, 101, 104, 105, 106, 108, 111, 112, 113, 115, 118, 119, 120, 122, 125, 126, 129, 130, 132, 134, 135, 136, 138, 139, 140, 141, 143, 144, 145, 146, 148, 149, 150, 151, 153, 154, 155, 156, 157, 158, 159, 160, 162, 163, 164, 166, 168, 169, 170, 172, 173, 174, 175, 177, 179, 180, 181, 183, 185, 186, 189, 190, 192, 194, 195, 196, 197, 198, 199, 200, 202, 203, 204, 205, 207, 208, 209, 210, 212, 213, 214, 215, 217, 218, 219, 220, 222, 223, 224, 226, 228, 229, 230, 232, 234, 235, 236, 238, 240, 241, 242, 244, 246, 247, 248, 250, 252, 253, 254, 256, 258, 259, 260, 262, 264, 265, 266, 268, 270, 271, 272, 274, 276, 277, 278, 280, 282, 283, 284, 286, 288, 289, 290, 292, 294, 295, 296, 298, 300, 301, 302, 304, 306, 307, 310, 311, 313, 315, 318, 319, 321, 323, 326, 327, 330, 332, 335, 336, 338, 340, 343, 344, 346, 348, 351, 352, 354, 356, 359, 360, 363, 365, 368, 369, 372, 374, 377, 378, 380, 382, 385, 386, 388, 390, 393, 394, 396, 398, 401, 402, 405, 407, 410]
set_option maxRecDepth 20000 in
def pc_185 : List Nat := [0, 1, 4]
set_option maxRecDepth 20000 in
def pc_186 : List Nat := [0, 1, 2, 5, 7, 8, 10, 13, 14, 17, 18, 21, 22, 25, 28, 29, 30, 31, 33, 33, 35, 37, 40, 42, 43, 46, 47, 50, 52, 54, 57, 58, 61, 63, 65, 68, 69, 72, 74, 76, 79, 81, 84, 86, 88, 89, 92, 93, 96, 98, 100, 102, 104, 105, 106, 107, 108, 109, 112, 113, 114, 115, 116, 119, 120, 121, 124, 127, 130, 131, 134]
set_option maxRecDepth 20000 in
def pc_187 : List Nat := [0, 1, 2, 5, 8, 9, 12, 13, 14, 15, 16, 18, 21, 24, 25, 28, 29, 32, 34, 37, 38, 41, 42, 45, 46, 49, 52, 53, 54, 55, 57, 57, 59, 60, 63, 64, 67, 69, 70, 73, 75, 76, 77, 80, 83, 84, 85, 86, 89, 92, 93, 96, 97, 99, 101, 103, 104, 107, 109, 111, 112, 113, 114, 115, 117, 117, 119, 120, 123, 126, 128, 130, 131, 134, 135, 137, 138, 141, 143, 144, 145, 146, 148, 149, 150, 153, 155, 158, 160, 161, 162, 164, 167, 168, 171, 173, 175, 176, 177, 178, 179, 180, 181, 183, 184, 187, 189, 191, 192, 193, 194, 196, 197, 200, 201, 204, 206, 207, 210, 213, 214, 217, 219, 220, 223, 224, 225, 226, 228, 229, 230, 231, 232, 235, 236, 239, 240, 243, 244, 245, 246, 247, 248, 251, 252, 253, 256, 257, 258, 261, 262, 265, 266, 267]
set_option maxRecDepth 20000 in
def pc_188 : List Nat := [0, 1, 2, 3, 6, 9]
set_option maxRecDepth 20000 in
def pc_189 : List Nat := [0, 1, 2, 3, 6, 7, 9, 10, 13, 14, 17, 18]
set_option maxRecDepth 20000 in
def pc_190 : List Nat := [0, 1, 2, 3, 4, 7, 8, 11, 14, 15, 16, 19, 22, 25, 28, 30, 31, 34, 37, 40, 43, 44, 45, 48, 51, 52, 53, 54, 57, 60, 61, 64, 65]
set_option maxRecDepth 20000 in
def pc_191 : List Nat := [0, 1, 4, 5, 7, 10, 11, 14, 15, 18, 19, 20, 23, 24, 25, 26, 29, 30, 31, 34, 37, 40, 43, 44, 47, 48, 51, 52, 53, 56, 59, 62]
set_option maxRecDepth 20000 in
def pc_192 : List Nat := [0, 1, 2, 2, 3, 4, 7, 8, 9, 12, 13, 16, 17, 18, 19, 20, 23, 24, 27, 28, 30, 31, 32, 35, 36, 39, 40, 41, 42, 45, 48, 51, 54, 56, 59, 60, 63, 64, 65, 68, 71, 72, 75, 76, 77, 80, 81, 84, 85, 88, 89, 90, 93, 96, 97, 100, 101, 103, 105, 108, 109, 110, 113, 116, 117]
set_option maxRecDepth 20000 in
def pc_193 : List Nat := [0, 1, 2, 5, 8, 11]
set_option maxRecDepth 20000 in
def pc_194 : List Nat := [0, 1, 2, 2, 3, 5, 8, 10, 11, 14, 15, 18, 19, 20, 23, 26, 27]
set_option maxRecDepth 20000 in
def pc_195 : List Nat := [0, 1, 2, 5, 6, 9, 10, 13, 16, 17, 18, 21, 22, 23, 26, 29, 30, 31, 34]
set_option maxRecDepth 20000 in
def pc_196 : List Nat := [0, 1, 2, 5, 6, 7, 7, 8, 10, 13, 14, 15, 18, 19, 20, 23, 26, 27, 27, 28, 31, 32, 33, 36, 37, 40, 41, 42, 44, 45, 46, 47, 48, 50, 51, 54, 55, 57, 58, 59, 62, 65, 68, 69, 70, 73]
set_option maxRecDepth 20000 in
def pc_197 : List Nat := [0, 1, 2, 2, 3, 4, 7, 8, 9, 12, 15, 18]
set_option maxRecDepth 20000 in
def pc_198 : List Nat := [0, 1, 4, 5, 8, 9, 10, 11, 12, 15, 16, 17, 20]
set_option maxRecDepth 20000 in
def pc_199 : List Nat := [0, 1, 2, 5, 6, 7, 7, 8, 9, 12, 13, 14, 14, 15, 18, 19, 20, 23, 24, 27, 28, 29, 31, 32, 33, 34, 37, 40, 41, 42, 45, 46, 49, 50, 51, 52, 53, 55, 56, 57, 58, 61, 64, 67, 70, 73, 76, 77, 78, 81, 82, 83, 86]
set_option maxRecDepth 20000 in
def pc_200 : List Nat := [0, 1, 2, 3, 4, 5, 6, 9, 10, 13, 14]
set_option maxRecDepth 20000 in
def pc_201 : List Nat := [0, 1, 2, 2, 3, 4, 7, 8, 11, 12, 13, 16, 18, 19, 19, 20, 23, 24, 25, 28, 29, 32, 33, 34, 37, 38, 39, 42, 45, 48, 51, 54, 57]
set_option maxRecDepth 20000 in
def pc_202 : List Nat := [0, 1, 2, 5, 8, 9, 12, 13, 14, 15, 16, 19, 20, 23, 26, 27, 28, 29, 30, 33, 36, 37, 38, 39, 42, 45, 46, 49, 50, 53, 54, 57, 60, 61, 62, 63, 64, 65, 66, 69, 70, 72, 72, 74, 75, 78, 79, 80, 83, 85, 86, 89, 90, 91, 94, 97, 99, 101, 102, 104, 105, 106, 108, 109, 112, 113, 114, 116, 116, 118, 119, 122, 123, 125, 126, 127, 130, 131, 134, 135, 136, 139, 141, 142, 144, 145, 146, 147, 148, 151, 154, 156, 158, 159, 161, 162, 163, 165, 166, 167]
set_option maxRecDepth 20000 in
def pc_203 : List Nat := [0, 1, 2, 5, 8, 9, 10, 13, 16, 17, 18, 21, 24, 26, 27, 30, 33, 35, 36, 39, 42, 44, 45, 48, 51, 52, 55, 56, 58, 58, 59, 62, 63, 66, 67, 70, 71, 74, 75, 78, 79, 82, 84, 87, 88, 91, 93, 96, 97, 100, 102, 105, 106, 109, 111, 113, 113, 114, 116, 119, 120, 123, 124, 127, 129, 130, 133, 136, 137, 140, 141, 144, 145, 148, 151, 152, 153, 154, 156, 156, 158, 160, 163, 164, 167, 168, 171, 173, 176, 177, 180, 182, 183, 186, 187, 190, 192, 193, 196, 197, 200, 202, 203, 206, 208, 211, 213, 214, 217, 219, 222, 224, 225, 226, 227, 230, 231, 232, 235, 238, 241, 242, 245]
set_option maxRecDepth 20000 in
def pc_204 : List Nat := [0, 1, 2, 3, 4, 7, 10]
set_option maxRecDepth 20000 in
def pc_205 : List Nat := [0, 1, 2, 5, 6, 9, 10, 13, 14, 15, 18, 19, 22, 24, 27, 28, 31, 32, 35, 36, 39, 42, 43, 44, 45, 46, 46, 47, 48, 51, 54, 55, 58, 61, 62, 65, 66, 67, 68, 69, 72, 73, 74, 75, 78, 81, 82, 85, 86, 89, 90, 93, 94, 95, 96, 99, 100, 101, 104, 105, 106, 109, 110, 113, 114, 115]
set_option maxRecDepth 20000 in
def pc_206 : List Nat := [0, 1, 2, 5, 6, 9]
set_option maxRecDepth 20000 in
def pc_207 : List Nat := [0, 1, 2, 3, 6, 9, 10, 13, 14, 17, 18, 21, 24, 25, 28, 29, 32, 33, 34]
set_option maxRecDepth 20000 in
def pc_208 : List Nat := [0, 1, 2, 3, 4, 7, 8, 9, 10, 13]
set_option maxRecDepth 20000 in
def pc_209 : List Nat := [0, 1, 2, 3, 4, 7, 10, 11, 14, 15, 18, 19, 22, 25, 26, 29, 30, 33, 36, 37, 38, 39, 40, 41]
set_option maxRecDepth 20000 in
def pc_210 : List Nat := [0, 1, 2, 5, 8, 9, 10, 11, 12, 15, 16, 17, 18, 19, 20, 23, 26, 27, 30, 31]
set_option maxRecDepth 20000 in
def pc_211 : List Nat := [0, 1, 2, 3, 4, 7, 10, 11, 14, 15, 16, 19, 22, 23, 26, 27, 30, 31, 34, 37, 38, 39, 40, 43, 46, 47, 48, 49, 50, 51, 53, 54, 57, 60, 61, 62, 63, 64, 65, 66, 68]
set_option maxRecDepth 20000 in
def pc_212 : List Nat := [0, 1, 2, 3, 4, 7, 10, 11, 12, 13, 16, 19, 20, 23, 24, 25, 26, 27, 30, 31, 32, 33, 34, 37, 38, 39, 40, 41, 44, 45, 48, 49, 52, 53, 56, 59, 60, 61, 62, 65, 66, 67, 68, 69, 70, 71, 72, 73, 75, 75, 77, 78, 81, 82, 83, 86, 87, 90, 93, 94, 95, 97, 98, 99, 102, 105, 106, 107, 108, 109, 111, 112, 113, 114, 117, 120, 121, 124, 125, 126]
set_option maxRecDepth 20000 in
def pc_213 : List Nat := [0, 1, 2, 3, 6, 9, 10, 13, 14, 17, 18, 21, 24, 25, 26, 27, 28, 31, 32, 33, 33, 34, 35, 38, 41, 42, 45, 48, 49, 50, 51, 52, 53, 56, 57, 58, 59, 62, 65]
set_option maxRecDepth 20000 in
def pc_214 : List Nat := [0, 1, 2, 5, 6, 7, 10, 11, 12, 12, 13, 14, 17, 20, 21, 24, 25, 26, 29, 32, 33, 34, 35, 38, 39, 42, 43, 44, 45, 46, 49, 50, 51, 52, 53, 56, 59]
set_option maxRecDepth 20000 in
def pc_215 : List Nat := [0, 1, 2, 3, 6, 9, 10, 13, 14, 15, 18, 21, 24, 27, 28, 31, 32, 35, 36, 39, 42, 43, 44, 45, 46, 47, 49, 49, 51, 52, 55, 56, 57, 58, 59, 62, 63, 66, 69, 70, 71, 73, 74, 75, 77, 78, 79, 80, 83, 84, 87, 88, 89, 90, 92, 93, 95, 96, 99, 102, 103, 106, 107, 108, 109, 110, 113, 116, 117, 118, 120, 121, 123, 124, 127, 128, 131, 133, 136, 139, 142, 145, 147, 148, 151, 154, 155]
set_option maxRecDepth 20000 in
def pc_216 : List Nat := [0, 1, 2, 3, 6, 9, 10, 11, 14, 17, 18, 21, 22, 25, 26, 27, 28, 31, 32, 33, 36, 37, 40, 41, 44, 45, 46, 46, 47, 50, 53, 54, 55, 58, 59, 60, 63, 64, 67, 70, 71, 72, 73, 74, 75, 78, 81, 82, 83, 84, 85, 86, 87, 90, 93, 94, 95, 96, 97, 98, 99, 100, 101, 102, 103, 104, 107, 110]
set_option maxRecDepth 20000 in
def pc_217 : List Nat := [0, 1, 2, 3, 6, 9, 10, 13, 14, 17, 18, 21, 24, 25, 26, 27, 28, 31, 32, 33, 36, 37, 38, 38, 39, 40, 43, 46, 47, 50, 51, 52, 55, 56, 57, 58, 59, 60, 63, 66, 69, 70, 71, 72, 72, 73, 76, 77, 80, 81, 84, 85, 88, 89, 90, 93, 94, 97, 98, 99, 100, 103, 106, 107, 110]
set_option maxRecDepth 20000 in
def pc_218 : List Nat := [0, 1, 2, 3, 6, 9, 10, 11, 12, 15, 18, 19]
set_option maxRecDepth 20000 in
def pc_219 : List Nat := [0, 1, 2, 3, 6, 9, 10, 13, 16, 17, 20, 21, 24, 25, 28, 31, 32, 33, 34, 37, 38, 41, 44, 45, 48, 49]
set_option maxRecDepth 20000 in
def pc_220 : List Nat := [0, 1, 2, 2, 3, 4, 7, 8, 11, 12, 13, 14, 15, 16, 17, 18, 21, 24, 25, 28, 29, 30, 31, 32, 33, 34, 37, 38, 39, 40, 43, 46, 47, 48, 49, 50, 53, 54, 57, 58, 59, 60, 61, 62, 63, 66, 69, 70, 71, 72, 73, 76, 77, 80, 81, 82, 83, 84, 85, 86, 89, 92, 93, 94, 95, 96, 99, 100, 103, 104, 105, 106, 107, 110, 111]
set_option maxRecDepth 20000 in
def pc_221 : List Nat := [0, 1, 2, 2, 3, 4, 7, 10, 11, 12, 13, 16, 19, 22, 23, 24, 25, 28, 29, 32, 33, 34, 35, 36, 37, 40, 43, 44]
set_option maxRecDepth 20000 in
def pc_222 : List Nat := [0, 1, 2, 5, 6, 7, 8, 11, 14, 15, 18, 19, 20, 23, 26, 29, 30, 31, 34, 35, 36, 39, 42, 45, 46, 47, 50, 53, 54, 57, 58]
set_option maxRecDepth 20000 in
def pc_223 : List Nat := [0, 1, 4, 5, 6, 7, 8, 11, 14, 15, 16, 17, 18, 21, 22, 23, 26, 28, 31, 32, 35, 36, 39, 40, 41, 42, 45, 47, 49, 52, 53, 56, 57, 58, 59, 60, 61, 62, 63, 64, 67, 68, 71, 72, 75, 76]
set_option maxRecDepth 20000 in
def pc_224 : List Nat := [0, 1, 4, 5, 8, 9, 10, 13, 14, 17, 19]
set_option maxRecDepth 20000 in
def pc_225 : List Nat := [0, 1, 4, 5, 6, 7, 8, 11, 14, 15, 18, 19]
set_option maxRecDepth 20000 in
def pc_226 : List Nat := [0, 1, 2, 4, 7, 10, 11, 12, 14, 15, 18, 21, 22, 23, 24, 25, 25, 26, 28, 31, 32, 35, 36, 37, 38, 41, 44, 45, 46, 49, 52, 53]
set_option maxRecDepth 20000 in
def pc_227 : List Nat := [0, 1, 4, 5, 6, 8, 9, 12, 13, 14, 16, 17, 19, 19, 21, 22, 25, 26, 29, 30, 31, 33, 34, 35, 36, 38, 41, 42, 45, 46, 47, 49, 50, 51, 52, 55, 57, 59, 60, 63, 64, 65, 67, 68, 69, 70, 72, 75, 76, 79, 80, 81, 83, 84, 85, 86, 89, 91, 93, 96, 99, 100, 102, 103, 104, 106, 107, 110, 111, 112, 114, 116, 118, 120, 121, 122, 125, 126, 128, 128, 130, 131, 134, 135, 138, 139, 140, 142, 143, 144, 145, 147, 148, 150, 151, 153, 155, 156, 159, 160, 163, 164, 166, 167, 168, 169, 172, 173, 175, 178, 179, 182, 183, 184, 187, 189, 192, 194, 196, 199, 201, 204, 206, 208, 210, 213, 215, 217, 220, 222, 225, 227, 229, 232, 235, 236, 239, 241, 243, 244, 245, 247, 248, 251, 252, 253, 256, 258, 261, 263, 266, 267, 270, 273, 274]
set_option maxRecDepth 20000 in
def pc_228 : List Nat := [0, 1, 2, 3, 5, 5, 7, 8, 9, 10, 13, 14, 17, 19, 20, 21, 24, 25, 28, 30, 31, 34, 35, 36, 39, 42, 43, 44, 45, 46, 47, 50, 51, 54, 55, 58, 59]
set_option maxRecDepth 20000 in
def pc_229 : List Nat := [0, 1, 4, 5, 6, 7, 8, 10, 10, 12, 13, 14, 15, 18, 19, 22, 24, 25, 26, 29, 30, 33, 35, 36, 39, 40, 41, 44, 47, 48]
set_option maxRecDepth 20000 in
def pc_230 : List Nat := [0, 1, 2, 4, 7, 10, 11, 12, 13, 14, 17, 20, 21, 22, 24, 25, 26, 29, 32, 33, 34, 36, 37, 40, 43, 44, 45, 46, 48, 49, 52, 55, 56, 59, 60]
set_option maxRecDepth 20000 in
def pc_231 : List Nat := [0, 1, 2, 2, 3, 4, 7, 8, 9, 10, 11, 12, 13, 16, 19, 20, 21, 24, 27, 28]
set_option maxRecDepth 20000 in
def pc_232 : List Nat := [0, 1, 2, 3, 6, 9, 10, 11, 12, 15, 16, 17, 18, 21, 22, 23, 24, 25, 26, 27, 30, 31, 32, 33, 34, 35, 36, 39, 40, 41, 42, 43, 44, 45, 47, 48, 51, 52, 53, 54, 57, 58, 59, 60, 61, 62, 63, 64, 66, 67, 70, 71, 72, 73, 74, 75, 78, 79, 80, 81, 82, 83, 84, 86, 87, 88, 91, 93, 95, 96, 99, 101, 103, 105, 107, 108, 111, 112, 113, 114, 117, 118, 119, 120, 121, 122, 123, 124, 125, 126, 129, 130, 133, 134, 137, 139, 141, 142, 145, 146, 147, 148, 150, 151, 152, 155, 157, 159, 161, 162, 163, 166, 168, 169, 171, 173, 174, 176, 179, 181, 183, 186, 188, 191, 193, 194, 195, 196, 197, 200, 201]
set_option maxRecDepth 20000 in
def pc_233 : List Nat := [0, 1, 2, 3, 4, 5, 6, 7, 8, 9]
set_option maxRecDepth 20000 in
def pc_234 : List Nat := [0, 2, 3, 4, 5, 6, 80, 81, 82, 83, 84, 85, 86, 87, 88, 90, 91, 93, 94, 95, 98, 99, 102, 104, 105, 106, 109, 110, 113, 115, 116, 117]
set_option maxRecDepth 20000 in
def pc_235 : List Nat := [0, 1, 2, 5, 6, 7, 8, 11, 12, 13, 14]
set_option maxRecDepth 20000 in
def pc_236 : List Nat := [0, 1, 4, 5, 8, 9, 10, 11, 14, 15, 18, 19, 20, 21, 22, 25, 26, 27, 30]
set_option maxRecDepth 20000 in
def pc_237 : List Nat := [0, 1, 4, 5, 6, 7, 8, 9, 10, 12, 13, 15, 16, 17, 18, 21, 24, 25, 26, 27, 30, 31, 33, 34, 37, 40, 41, 42, 45, 46, 48, 51, 53, 56, 57, 60, 61, 64, 65, 66, 69, 71, 72, 73, 74, 75, 78, 80, 81, 82, 83, 84, 87, 88, 89, 92, 94, 95, 96, 97, 98, 101, 103, 104, 105, 106, 107, 110, 111, 114, 115, 117, 119, 122, 123, 126, 127, 128, 129, 130, 131, 132, 134, 135, 138, 139, 142, 143, 146, 147]
set_option maxRecDepth 20000 in
def pc_238 : List Nat := [0, 1, 2, 5, 7, 10, 11]
set_option maxRecDepth 20000 in
def pc_239 : List Nat := [0, 1, 2, 2, 3, 5, 8, 9, 10, 11, 12, 14, 15, 16, 17, 20, 23, 24, 25, 26, 27, 28, 30, 31, 33, 34, 35, 36, 39, 42, 43, 44, 47, 50, 51]
set_option maxRecDepth 20000 in
def pc_240 : List Nat := [0, 1, 2, 4, 7, 10, 11, 12, 15, 18, 19, 20, 21, 22, 23, 24, 27, 30, 31, 32, 33, 34, 37, 38, 39, 42, 43]
set_option maxRecDepth 20000 in
def pc_241 : List Nat := [0, 1, 2, 3, 4, 7, 10, 11, 12, 13, 14, 14, 15, 17, 20, 21, 24, 25, 26, 27, 30, 33, 36, 37, 39, 40, 41, 42, 45, 48, 49, 50, 53, 56, 57]
set_option maxRecDepth 20000 in
def pc_242 : List Nat := [0, 1, 2, 3, 6, 9, 10, 11, 12, 14, 15, 16, 16, 17, 20, 22, 25, 26, 27, 28, 31, 34, 37, 40, 41, 44, 45, 48, 49, 50, 51, 54, 57, 58, 59, 60, 62, 63, 66, 69, 70, 73, 74]
set_option maxRecDepth 20000 in
def pc_243 : List Nat := [0, 1, 2, 5, 6, 7, 8, 11, 12, 13, 15, 18, 19, 22, 23, 26, 27, 28, 29, 31, 32, 35, 36, 39, 42, 43]
set_option maxRecDepth 20000 in
def pc_244 : List Nat := [0, 1, 4, 5, 6, 7, 8, 9, 10, 13, 14, 15, 16, 16, 17, 18, 21, 24, 25, 28, 30, 31, 32, 33, 34, 35, 36, 37, 38, 39, 42, 43, 44, 45, 46, 49, 51, 52, 53, 54, 55, 56, 57, 58, 59, 60, 63, 64, 65, 66, 69, 72]
set_option maxRecDepth 20000 in
def pc_245 : List Nat := [0, 1, 2, 2, 3, 4, 7, 10, 11, 14, 15, 16, 17, 18, 19, 20, 23, 24, 25, 26, 29, 30, 33, 34, 37, 38, 39, 40, 43, 46, 49, 50, 53, 54, 55, 56, 56, 57, 60, 61, 64, 65, 66, 67, 68, 69, 70, 73, 74, 75, 76, 79, 80, 83, 84, 87, 88, 89, 90, 93, 96, 99, 100, 103, 104, 105, 106, 107, 108, 109, 112, 113, 116, 117, 118, 119, 120, 121, 122, 125, 126, 129, 130]
set_option maxRecDepth 20000 in
def pc_246 : List Nat := [0, 1, 2, 5, 6, 7, 8, 11, 14, 15, 16, 17, 18, 21, 21, 22, 23, 26, 27, 28, 29, 30, 31, 32, 33, 34, 37, 40, 43, 46, 47, 48, 51, 51, 52, 54, 57, 58, 59, 60, 61, 63, 64, 65, 66, 69, 72, 75, 78, 79, 80, 81, 84, 87, 87, 88, 90, 93, 94, 95, 97, 98, 100, 101, 102, 103, 104, 107, 110, 113, 116]
set_option maxRecDepth 20000 in
def pc_247 : List Nat := [0, 1, 2, 5, 6, 7, 8, 11, 14, 15, 16, 17, 18, 21, 22, 23, 24, 27, 28, 29, 30, 32, 32, 34, 37, 38, 41, 42, 43, 45, 46, 47, 49, 50, 51, 54, 57, 58, 59, 62, 63, 64, 66, 67, 69, 71, 72, 73, 76, 79, 80, 81, 83, 84, 86, 88, 89, 90, 91, 94, 96, 99, 102, 103, 104, 107, 108, 109, 111, 112, 113, 116, 118]
set_option maxRecDepth 20000 in
def pc_248 : List Nat := [0, 1, 2, 3, 5, 5, 7, 10, 11, 12, 15, 16, 19, 20, 21, 24, 25, 26, 28, 29, 30, 31, 32, 33, 36, 39, 40, 43, 44, 47, 48, 49, 52, 53, 55, 58, 59, 60, 62, 63, 65, 66, 67, 68, 71, 74, 75, 78, 79, 82, 83, 85, 88, 89, 90, 92, 93, 95, 96, 97, 98, 99, 102, 105, 106, 109, 110, 112, 113, 115, 118, 119, 122, 123, 124, 125, 128, 129]
set_option maxRecDepth 20000 in
def pc_249 : List Nat := [0, 1, 4, 5, 6, 7, 8, 9, 10]
set_option maxRecDepth 20000 in
def pc_250 : List Nat := [0, 1, 2, 3, 6, 9, 10, 11, 12, 15, 16, 19, 20, 23, 26, 27]
set_option maxRecDepth 20000 in
def pc_251 : List Nat := [0, 1, 2, 3, 4, 5, 8, 11, 12, 13, 14, 15, 18, 21, 22]
set_option maxRecDepth 20000 in
def pc_252 : List Nat := [0, 1, 2, 3, 6, 9, 11, 12, 13, 14, 15, 16, 19, 20, 21, 22, 25, 28, 29, 30, 33, 34, 37, 40, 41, 44, 45]
set_option maxRecDepth 20000 in
def pc_253 : List Nat := [0, 1, 4, 6, 7, 8, 9, 10, 11, 12, 13, 14, 15]
set_option maxRecDepth 20000 in
def pc_254 : List Nat := [0, 1, 2, 3, 4, 5, 8, 11, 12, 13, 14, 15, 18, 19, 20, 23, 24]
set_option maxRecDepth 20000 in
def pc_255 : List Nat := [0, 1, 2, 5, 7, 8, 9, 10, 11, 12, 13, 14, 15, 16, 17]
set_option maxRecDepth 20000 in
def pc_256 : List Nat := [0, 1, 4, 5, 8, 9, 11, 12, 13, 14, 16, 18, 21, 24, 25, 26, 28, 30, 33, 36, 37]
set_option maxRecDepth 20000 in
def pc_257 : List Nat := [0, 1, 2, 3, 6, 9, 10, 13, 14, 15, 18, 19, 22, 23]
set_option maxRecDepth 20000 in
def pc_258 : List Nat := [0, 1, 2, 3, 6, 9, 12, 13, 16, 17, 18, 21, 22, 23, 26, 27]
set_option maxRecDepth 20000 in
def pc_259 : List Nat := [0, 1, 2, 3, 6, 9, 10, 11, 12, 13, 14, 17, 18, 19, 20, 23, 24, 27, 28, 31, 32, 35, 38, 39, 40, 41, 43, 43, 45, 46, 49, 50, 53, 55, 56, 57, 58, 60, 63, 64, 67, 70, 71, 72, 73, 76, 77, 78, 79, 82, 83, 84, 87, 88, 89, 92, 93, 94, 97, 98, 99, 102, 103, 104, 107, 108, 110, 110, 112, 113, 116, 119, 120, 123, 124, 127, 128, 129, 131, 132, 133, 135, 136, 137, 140, 142, 143, 144, 147, 148, 149, 152, 153, 156, 158, 159, 160, 161, 164, 165, 166, 169, 171, 172, 173, 176, 178, 179, 182, 183, 184, 187, 188, 189, 192, 194, 195, 196, 199, 200, 203, 205, 206, 207, 210, 211, 212, 215, 218, 221, 222]
set_option maxRecDepth 20000 in
def pc_260 : List Nat := [0, 1, 2, 3, 6, 9, 10, 11, 14, 15, 18, 19, 22, 23, 24, 27, 28, 31, 32, 33, 34, 35, 36, 39, 40, 41, 42, 43, 44, 45, 48, 49, 51, 52, 54, 55, 57, 59, 61, 62, 63, 64, 67, 69, 70, 71, 74, 76, 77]
set_option maxRecDepth 20000 in
def pc_261 : List Nat := [0, 1, 2, 3, 6, 9, 10, 11, 14, 17, 18, 21, 24, 25, 28, 29, 32, 33, 36, 39, 40, 41, 42, 43, 46, 47, 48, 49, 52, 54, 56, 59, 60, 61, 62, 65, 67, 70, 71, 72, 73, 75, 76, 78, 78, 80, 82, 85, 87, 88, 89, 90, 92, 95, 96, 97, 98, 100, 103, 106, 107, 110, 111, 112, 114, 117, 120, 122]
set_option maxRecDepth 20000 in
def pc_262 : List Nat := [0, 1, 2, 2, 3, 4, 7, 10, 11, 12, 13, 16, 19, 22]
set_option maxRecDepth 20000 in
def pc_263 : List Nat := [0, 1, 2, 3, 6, 9, 10, 11, 14, 17, 18, 21, 24, 25, 28, 29, 32, 33, 36, 39, 40, 41, 42, 43, 46, 47, 48, 49, 52, 54, 56, 59, 60, 61, 61, 62, 63, 64, 66, 69, 72, 75, 78, 80]
set_option maxRecDepth 20000 in
def pc_264 : List Nat := [0, 1, 2, 3, 6, 7, 8, 9, 10, 13, 15, 16, 18, 21, 22, 25, 27]
set_option maxRecDepth 20000 in
def pc_265 : List Nat := [0, 1, 2, 3, 6, 7, 8, 10, 11, 13, 13, 15, 16, 19, 20, 21, 22, 24, 26, 27, 30, 31, 32, 33, 35, 38, 41, 42, 43, 46, 49, 50]
set_option maxRecDepth 20000 in
def pc_266 : List Nat := [0, 1, 2, 3, 4, 7]
set_option maxRecDepth 20000 in
def pc_267 : List Nat := [0, 1, 2, 3, 6, 9, 10, 11, 14, 17, 18, 21, 24, 25, 28, 29, 32, 33, 36, 39, 40, 41, 42, 43, 46, 47, 48, 49, 50, 53]
set_option maxRecDepth 20000 in
def pc_268 : List Nat := [0, 1, 4, 5, 6, 7, 10, 11, 14, 15, 16, 17, 20, 21, 24, 26, 29, 30, 31, 32, 33, 34, 37, 39, 39, 41, 42, 45, 46, 47, 48, 51, 52, 53, 54, 57, 58, 60, 61, 63, 64, 66, 69, 72, 73, 74, 75, 77, 80, 83, 85, 86, 89, 92, 93]
set_option maxRecDepth 20000 in
def pc_269 : List Nat := [0, 1, 2, 3, 4, 7, 9, 11, 12, 13, 15, 16, 17, 18, 21, 24, 25, 26, 29, 30, 33, 36, 37, 38, 39, 40, 41, 44, 46, 48, 50, 53, 54, 55, 56, 58, 61, 64, 65, 66, 67, 69, 71, 72, 73, 74, 75, 78, 79, 82]
set_option maxRecDepth 20000 in
def pc_270 : List Nat := [0, 1, 2, 5, 8, 9, 12, 13, 16, 17, 20, 23, 24, 25, 26, 27, 30, 31, 32, 33, 34, 34, 35, 36, 39, 42, 43, 44, 45, 48, 51, 52, 53, 56, 57, 58, 61, 62, 63, 66, 69, 70, 71, 74, 77, 78, 79, 80, 83, 84, 87, 88, 91, 92, 95, 98, 99, 102, 103]
set_option maxRecDepth 20000 in
def pc_271 : List Nat := [0, 1, 2, 3, 4, 7, 8, 9, 10, 10, 11, 12, 13, 14, 17, 20, 21, 22, 23, 24, 27, 28, 31, 32, 33, 34, 35, 38, 41, 42, 43, 46, 49, 50]
set_option maxRecDepth 20000 in
def pc_272 : List Nat := [0, 1, 2, 5, 8, 9, 12, 13, 16, 17, 20, 23, 24, 27, 28, 29, 32]
set_option maxRecDepth 20000 in
def pc_273 : List Nat := [0, 1, 2, 5, 6, 9, 10, 11, 14, 15, 16, 17, 20, 21, 22, 25, 28, 29, 30, 33, 36, 38, 41, 42, 45, 46, 47, 50]
set_option maxRecDepth 20000 in
def pc_274 : List Nat := [0, 1, 2, 2, 3, 5, 8, 9, 12, 13, 14, 15, 18, 21, 22, 23, 23, 24, 25, 28, 31, 32, 33, 34, 37, 40, 41, 44, 45, 46, 47, 50, 51, 52, 53, 54, 57, 58, 59, 62, 65, 66, 67, 68, 69, 69, 70, 72, 75, 76, 79, 80, 81, 82, 85, 86, 87, 90, 91, 94, 95, 96, 99, 102, 103]
set_option maxRecDepth 20000 in
def pc_275 : List Nat := [0, 1, 2, 3, 4, 4, 5, 6, 9, 12, 13, 14, 15, 16, 19, 22, 23, 26, 27, 28, 29, 32, 35, 36]
set_option maxRecDepth 20000 in
def pc_276 : List Nat := [0, 2, 3, 3, 4, 5, 8, 9, 10, 10, 11, 12, 15, 18, 19, 21, 21, 23, 24, 27, 30, 31, 32, 33, 36, 37, 39, 40, 43, 44, 45, 46, 48, 49, 51, 54, 55, 56, 57, 59, 62, 65, 66, 68, 71, 74, 75, 76, 78, 79, 82, 85, 87, 88, 91, 94, 97, 100, 103, 106, 107]
set_option maxRecDepth 20000 in
def pc_277 : List Nat := [0, 1, 2, 3, 6, 9, 10, 11, 12, 13, 16, 17, 18, 21, 24, 25, 26, 27, 30, 33, 36, 37, 40, 43, 44, 45, 46, 47, 48, 51, 52]
set_option maxRecDepth 20000 in
def pc_278 : List Nat := [0, 1, 2, 5, 8, 9, 10, 11, 12, 13, 16, 17, 18, 19, 22, 25, 26, 29, 30, 33, 34, 37, 40, 41, 44, 45]
set_option maxRecDepth 20000 in
def pc_279 : List Nat := [0, 1, 2, 5, 6, 7, 8, 8, 9, 12, 15, 16, 19, 20, 21, 22, 25, 28, 29, 30, 30, 31, 32, 35, 38, 39, 42, 43, 44, 45, 48, 49, 52, 53, 54, 55, 56, 59, 60, 61, 62, 65, 66, 69, 70, 71, 72, 73, 76, 77, 78, 79, 82, 83, 86, 87, 88, 89, 90, 91, 92, 93, 96, 97, 100, 103, 106, 107]
set_option maxRecDepth 20000 in
def pc_280 : List Nat := [0, 1, 3, 3, 5, 6, 7, 8, 11, 14, 15, 18, 21, 22, 24, 25, 26, 27, 28, 29, 31, 34, 35, 36, 37, 38, 39, 40, 42, 45, 46, 47, 50, 53]
set_option maxRecDepth 20000 in
def pc_281 : List Nat := [0, 1, 2, 3, 4, 4, 5, 8, 11, 12, 13, 16, 19, 20, 21, 22, 23, 24, 25, 26, 29, 32, 33]
set_option maxRecDepth 20000 in
def pc_282 : List Nat := [0, 1, 2, 3, 6, 9, 10, 11, 14, 17, 18]
set_option maxRecDepth 20000 in
def pc_283 : List Nat := [0, 1, 2, 5, 6, 7, 8, 8, 9, 12, 15, 16, 17, 20, 23, 24, 25, 26, 27, 28, 29, 30, 33, 34, 35, 38, 41, 42]
set_option maxRecDepth 20000 in
def pc_284 : List Nat := [0, 1, 2, 3, 6, 9, 10, 11, 12, 13, 14, 16, 17, 19, 19, 21, 24, 27, 28, 31, 34, 35, 36, 38, 39, 40, 42, 44, 47, 50, 51, 52, 55, 57, 58, 61, 64, 65, 66, 67, 68, 69, 72, 73, 75, 77, 78, 81, 83, 84, 87, 89, 90, 93, 96, 97, 98, 100, 101, 102, 105, 107, 109, 112, 115, 117]
set_option maxRecDepth 20000 in
def pc_285 : List Nat := [0, 1, 2, 5, 8, 9, 12, 13, 16, 17, 20, 23, 24, 27, 28, 29, 32]
set_option maxRecDepth 20000 in
def pc_286 : List Nat := [0, 1, 2, 5, 6, 7, 10, 11, 12, 13, 14, 15, 18, 19, 22, 23, 24, 25, 28, 29, 30, 33, 34, 35, 36, 37, 38, 41, 44, 45, 48, 49]
set_option maxRecDepth 20000 in
def pc_287 : List Nat := [0, 1, 2, 2, 3, 4, 7, 8, 9, 12, 13, 16, 17, 18, 21, 24, 25]
set_option maxRecDepth 20000 in
def pc_288 : List Nat := [0, 1, 3, 4, 6, 6, 8, 9, 12, 14, 15, 18, 20, 23, 24, 26, 29, 31, 33, 34, 35, 38, 40, 43, 46, 48, 49, 50, 53, 54, 57, 58, 60, 62, 63, 64, 65, 67, 70, 73, 75, 76, 77, 80, 82, 85, 87, 88, 91, 92, 95, 96]
set_option maxRecDepth 20000 in
def pc_289 : List Nat := [0, 1, 2, 5, 8, 9, 12, 13, 16, 17, 20, 23, 24, 27, 28, 29, 30, 31, 34, 37]
set_option maxRecDepth 20000 in
def pc_290 : List Nat := [0, 1, 2, 5, 8, 9, 12, 13, 16, 17, 20, 23, 24, 25, 26, 27, 30, 31, 32, 33, 34, 37, 38, 39, 40, 41, 44, 45, 46, 47, 48, 49, 52, 53, 56, 57, 60, 61, 64, 65, 68, 71, 72, 73, 74, 75, 78, 79, 82, 83, 84, 85, 86, 89, 90, 93, 94, 96, 97, 99, 100, 102, 104, 107, 109, 112, 113, 115, 115, 117, 119, 122, 124, 127, 128, 129, 132, 134, 137, 139, 142, 143, 144, 145, 146, 148, 150, 153, 156, 159, 162, 164, 166, 169, 171, 174, 177, 180, 181, 183, 184, 187, 188, 191, 192, 195, 196, 199, 202, 203, 206, 208]
set_option maxRecDepth 20000 in
def pc_291 : List Nat := [0, 1, 2, 5, 6, 7, 8, 9, 10, 11, 11, 12, 13, 16, 17, 18, 21, 24, 25, 26, 29, 30, 33, 36, 37, 38, 39, 40, 43, 44, 47, 50, 51]
set_option maxRecDepth 20000 in
def pc_292 : List Nat := [0, 1, 2, 5, 6, 8, 9, 10, 12, 12, 14, 15, 18, 20, 21, 24, 27, 29, 30, 31, 33, 36, 37, 38, 39, 40, 42, 45, 46, 48, 50, 51, 54, 56, 59, 60, 61, 64, 67, 68]
set_option maxRecDepth 20000 in
def pc_293 : List Nat := [0, 1, 2, 5, 8, 9, 12, 13, 16, 17, 20, 23, 24, 25, 26, 27, 30, 31, 32, 33, 34, 36, 37, 39, 39, 41, 42, 45, 48, 49, 52, 53, 55, 56, 59, 60, 63, 66, 67, 69, 70, 72, 72, 74, 75, 78, 80, 81, 83, 84, 86, 89, 90, 92, 95, 98, 99, 102, 103, 104, 106, 109, 112, 114, 116, 119, 122, 124, 125, 127, 129, 132, 135, 136, 137, 138, 141, 142, 145, 146, 149, 150, 153, 156, 157, 160, 161]
set_option maxRecDepth 20000 in
def pc_294 : List Nat := [0, 1, 2, 5, 8, 9, 12, 13, 16, 17, 20, 23, 24, 25, 26, 29, 30, 31, 32, 33, 36, 37, 38, 39, 40]
set_option maxRecDepth 20000 in
def pc_295 : List Nat := [0, 3, 4, 7, 8, 11, 12, 15, 16, 17, 19, 20, 21, 23, 23, 25, 26, 27, 29, 30, 33, 34, 36, 37, 39, 40, 204, 205, 206, 208, 209, 210, 211, 212, 214, 215, 216, 217, 218, 220, 221, 222, 223, 224, 226, 227, 228, 229, 230, 232, 233, 234, 235, 236, 239, 241, 242, 243, 245, 246, 247, 248, 249, 251, 252, 253, 254, 255, 257, 258, 259, 260, 261, 263, 264, 265, 266, 267, 269, 270, 271, 272, 275, 277, 278, 281, 283, 286, 287, 288, 290, 293, 294, 295, 296, 298, 299, 300, 303, 304, 305, 308, 309, 310, 312, 313, 314, 315, 316, 318, 319, 320, 321, 322, 324, 325, 326, 327, 328, 330, 331, 332, 333, 334, 336, 337, 338, 339, 340, 343, 345, 346, 347, 349, 350, 351, 352, 353, 355, 356, 357, 358, 359, 361, 362, 363, 364, 365, 367, 368, 369, 370, 371, 373, 374, 375, 376, 379, 381, 382, 385, 387, 390, 391, 392, 394, 397, 398, 399, 400, 402, 403, 404, 407, 408, 409, 412, 413, 414, 416, 417, 418, 419, 420, 422, 423, 424, 425, 426, 429, 431, 432, 433, 435, 436, 437, 438, 439, 441, 442, 443, 444, 447, 449, 450, 453, 455, 458, 459, 460, 462, 465, 466, 467, 468, 470, 471, 472, 475, 476, 477, 480, 481, 482, 484, 485, 486, 487, 488, 490, 491, 492, 493, 494, 496, 497, 498, 499, 500, 502, 503, 504, 505, 506, 508, 509, 510, 511, 512, 514, 516, 517, 518, 519, 522, 524, 525, 526, 528, 529, 530, 531, 532, 534, 535, 536, 537, 538, 540, 541, 542, 543, 544, 546, 547, 548, 549, 550, 552, 553, 554, 555, 556, 558, 560, 561, 562, 565, 567, 568, 571, 573, 576, 577, 578, 580, 583, 584, 585, 586, 588, 589, 590, 593, 594, 595, 598, 599, 600, 603, 605, 606, 609, 611, 612, 615, 617, 620, 621, 622, 624, 627, 628, 629, 630, 632, 633, 634, 637, 638, 639, 642, 643, 646, 647, 650, 653, 654, 655, 656, 657, 659, 660, 661, 662, 663, 666, 668, 669, 670, 672, 673, 674, 675, 678, 680, 681, 684, 686, 689, 690, 691, 693, 696, 697, 698, 699, 701, 702, 703, 706, 707, 708, 711, 712, 713, 715, 716, 717, 718, 719, 721, 722, 723, 724, 725, 728, 730, 731, 732, 734, 735, 736, 737, 738, 740, 741, 742, 743, 746, 748, 749, 752, 754, 757, 758, 759, 761, 764, 765, 766, 767, 769, 770, 771, 774, 775, 776, 779, 780, 781, 783, 784, 785, 786, 787, 789, 790, 791, 792, 793, 795, 796, 797, 798, 799, 802, 804, 805, 806, 808, 809, 810, 811, 812, 814, 815, 816, 817, 818, 820, 821, 822, 823, 826, 828, 829, 832, 834, 837, 838, 839, 841, 844, 845, 846, 847, 849, 850, 851, 854, 855, 856, 859, 860, 861, 863, 864, 865, 866, 867, 869, 870, 871, 872, 873, 875, 876, 877, 878, 879, 882, 884, 885, 886, 888, 889, 890, 891, 892, 894, 895, 896, 897, 898, 900, 901, 902, 903, 906, 908, 909, 912, 914, 917, 918, 919, 921, 924, 925, 926, 927, 929, 930, 931, 934, 935, 936, 939, 940, 941, 943, 944, 945, 946, 949, 951, 952, 953, 955, 956, 957, 958, 961, 962, 965, 967, 970, 971, 972, 975, 976, 977, 979, 980, 981, 982, 983, 985, 986, 987, 988, 989, 992, 994, 995, 996, 998, 999, 1000, 1001, 1002, 1004, 1005, 1006, 1007, 1010, 1012, 1013, 1016, 1018, 1021, 1022, 1023, 1025, 1028, 1029, 1030, 1031, 1033, 1034, 1035, 1038, 1039, 1040, 1043, 1044, 1045, 1047, 1048, 1049, 1050, 1051, 1053, 1054, 1055, 1056, 1059, 1061, 1062, 1063, 1065, 1066, 1067, 1068, 1069, 1071, 1072, 1073, 1074, 1077, 1078, 1081, 1083, 1086, 1087, 1088, 1091, 1092, 1093, 1095, 1096, 1097, 1098, 1099, 1102, 1104, 1105, 1106, 1108, 1109, 1110, 1111, 1114, 1116, 1117, 1120, 1122, 1125, 1126, 1127, 1129, 1132, 1133, 1134, 1135, 1137, 1138, 1139, 1142, 1143, 1144, 1147, 1148, 1149, 1151, 1152, 1153, 1154, 1155, 1157, 1158, 1159, 1160, 1161, 1164, 1166, 1167, 1168, 1170, 1171, 1172, 1173, 1174, 1176, 1177, 1178, 1179, 1182, 1184, 1185, 1188, 1190, 1193, 1194, 1195, 1197, 1200, 1201, 1202, 1203, 1205, 1206, 1207, 1210, 1211, 1212, 1215, 1216, 1217, 1219, 1220, 1221, 1222, 1223, 1225, 1226, 1227, 1228, 1229, 1231, 1232, 1233, 1234, 1237, 1238, 1241, 1242, 1243, 1246, 1248, 1249, 1250, 1252, 1253, 1254, 1255, 1256, 1258, 1259, 1260, 1261, 1262, 1264, 1265, 1266, 1267, 1270, 1271, 1274, 1275, 1278, 1280, 1281, 1284, 1286, 1289, 1290, 1291, 1293, 1296, 1297, 1298, 1299, 1301, 1302, 1303, 1306, 1307, 1308, 1311, 1312, 1313, 1315, 1316, 1317, 1318, 1319, 1321, 1322, 1323, 1324, 1325, 1327, 1328, 1329, 1330, 1331, 1334, 1336, 1337, 1338, 1340, 1341, 1342, 1343, 1344, 1346, 1347, 1348, 1349, 1350, 1352, 1353, 1354, 1355, 1358, 1360, 1361, 1364, 1366, 1369, 1370, 1371, 1373, 1376, 1377, 1378, 1379, 1381, 1382, 1383, 1386, 1387, 1388, 1391, 1392, 1393, 1395, 1396, 1397, 1398, 1399, 1401, 1402, 1403, 1404, 1405, 1407, 1408, 1409, 1410, 1411, 1414, 1416, 1417, 1418, 1420, 1421, 1422, 1423, 1424, 1426, 1427, 1428, 1429, 1430, 1432, 1433, 1434, 1435, 1438, 1440, 1441, 1444, 1446, 1449, 1450, 1451, 1453, 1456, 1457, 1458, 1459, 1461, 1462, 1463, 1466, 1467, 1468, 1471, 1472, 1473, 1475, 1476, 1477, 1478, 1479, 1481, 1482, 1483, 1484, 1485, 1487, 1488, 1489, 1490, 1493, 1494, 1497, 1498, 1499, 1501, 1502, 1503, 1504, 1505, 1508, 1510, 1511, 1512, 1514, 1515, 1516, 1517, 1518, 1520, 1521, 1522, 1523, 1524, 1526, 1527, 1528, 1529, 1532, 1533, 1536, 1537, 1538, 1540, 1541, 1542, 1543, 1546, 1548, 1549, 1552, 1554, 1557, 1558, 1559, 1561, 1564, 1565, 1566, 1567, 1569, 1570, 1571, 1574, 1575, 1576, 1579, 1580, 1581, 1583, 1584, 1585, 1586, 1587, 1589, 1590, 1591, 1592, 1593, 1596, 1598, 1599, 1600, 1602, 1603, 1604, 1605, 1606, 1608, 1609, 1610, 1611, 1614, 1616, 1617, 1620, 1622, 1625, 1626, 1627, 1629, 1632, 1633, 1634, 1635, 1637, 1640, 1641, 1644, 1645, 1646, 1649, 1650, 1651, 1654, 1655, 1656, 1658, 1659, 1660, 1661, 1662, 1664, 1665, 1666, 1667, 1668, 1670, 1671, 1672, 1673, 1674, 1677, 1679, 1680, 1681, 1683, 1684, 1685, 1686, 1687, 1689, 1690, 1691, 1692, 1693, 1695, 1696, 1697, 1698, 1701, 1703, 1704, 1707, 1709, 1712, 1713, 1714, 1716, 1719, 1720, 1721, 1722, 1724, 1725, 1726, 1729, 1730, 1731, 1734, 1735, 1736, 1738, 1739, 1740, 1741, 1742, 1744, 1745, 1746, 1747, 1748, 1750, 1751, 1752, 1753, 1754, 1757, 1759, 1760, 1761, 1763, 1764, 1765, 1766, 1767, 1769, 1770, 1771, 1772, 1773, 1775, 1776, 1777, 1778, 1781, 1783, 1784, 1787, 1789, 1792, 1793, 1794, 1796, 1799, 1800, 1801, 1802, 1804, 1805, 1806, 1809, 1810, 1811, 1814, 1815, 1816, 1818, 1819, 1820, 1821, 1822, 1824, 1825, 1826, 1827, 1828, 1831, 1833, 1834, 1835, 1837, 1838, 1839, 1840, 1841, 1843, 1844, 1845, 1846, 1849, 1851, 1852, 1855, 1857, 1860, 1861, 1862, 1864, 1867, 1868, 1869, 1870, 1872, 1873, 1874, 1877, 1878, 1879, 1882, 1883, 1884, 1886, 1887, 1888, 1889, 1890, 1892, 1893, 1894, 1895, 1896, 1899, 1901, 1902, 1903, 1905, 1906, 1907, 1908, 1909, 1911, 1912, 1913, 1914, 1917, 1919, 1920, 1923, 1925, 1928, 1929, 1930, 1932, 1935, 1936, 1937, 1938, 1940, 1941, 1942, 1945, 1946, 1947, 1950, 1951, 1952, 1954, 1955, 1956, 1957, 1958, 1960, 1961, 1962, 1963, 1964, 1966, 1967, 1968, 1969, 1970, 1973, 1975, 1976, 1977, 1979, 1980, 1981, 1982, 1983, 1985, 1986, 1987, 1988, 1989, 1991, 1992, 1993, 1994, 1997, 1999, 2000, 2003, 2005, 2008, 2009, 2010, 2012, 2015, 2016, 2017, 2018, 2020, 2021, 2022, 2025, 2026, 2027, 2030, 2031, 2032, 2034, 2035, 2036, 2037, 2038, 2040, 2041, 2042, 2043, 2044, 2046, 2047, 2048, 2049, 2050, 2052, 2053, 2054, 2055, 2056, 2059, 2061, 2062, 2063, 2065, 2066, 2067, 2068, 2069, 2071, 2072, 2073, 2074, 2075, 2077, 2078, 2079, 2080, 2081, 2083, 2084, 2085, 2086, 2089, 2091, 2092, 2095, 2097, 2100, 2101, 2102, 2104, 2107, 2108, 2109, 2110, 2112, 2113, 2114, 2117, 2118, 2119, 2122, 2123, 2124, 2126, 2127, 2128, 2129, 2130, 2133, 2135, 2136, 2137, 2139, 2140, 2141, 2142, 2145, 2147, 2148, 2151, 2153, 2156, 2157, 2158, 2160, 2163, 2164, 2165, 2166, 2168, 2169, 2170, 2173, 2174, 2175, 2178, 2179, 2180, 2182, 2183, 2184, 2185, 2186, 2189, 2191, 2192, 2193, 2195, 2196, 2197, 2198, 2201, 2203, 2204, 2207, 2209, 2212, 2213, 2214, 2216, 2219, 2220, 2221, 2222, 2224, 2225, 2226, 2229, 2230, 2231, 2234, 2235, 2236, 2238, 2239, 2240, 2241, 2242, 2244, 2245, 2246, 2247, 2248, 2250, 2251, 2252, 2253, 2254, 2257, 2259, 2260, 2261, 2263, 2264, 2265, 2266, 2267, 2269, 2270, 2271, 2272, 2273, 2275, 2276, 2277, 2278, 2281, 2283, 2284, 2287, 2289, 2292, 2293, 2294, 2296, 2299, 2300, 2301, 2302, 2304, 2305, 2306, 2309, 2310, 2311, 2314, 2315, 2316, 2318, 2319, 2320, 2321, 2322, 2324, 2325, 2326, 2327, 2328, 2331, 2333, 2334, 2335, 2337, 2338, 2339, 2340, 2341, 2343, 2344, 2345, 2346, 2349, 2351, 2352, 2355, 2357, 2360, 2361, 2362, 2364, 2367, 2368, 2369, 2370, 2372, 2373, 2374, 2377, 2378, 2379, 2382, 2383, 2384, 2386, 2387, 2388, 2389, 2390, 2392, 2393, 2394, 2395, 2396, 2399, 2401, 2402, 2403, 2405, 2406, 2407, 2408, 2409, 2411, 2412, 2413, 2414, 2417, 2419, 2420, 2423, 2425, 2428, 2429, 2430, 2432, 2435, 2436, 2437, 2438, 2440, 2441, 2442, 2445, 2446, 2447, 2450, 2451, 2452, 2454, 2455, 2456, 2457, 2458, 2461, 2463, 2464, 2465, 2467, 2468, 2469, 2470, 2473, 2475, 2476, 2479, 2481, 2484, 2485, 2486, 2488, 2491, 2492, 2493, 2494, 2496, 2497, 2498, 2501, 2502, 2503, 2506, 2507, 2508, 2510, 2511, 2512, 2513, 2514, 2517, 2519, 2520, 2521, 2523, 2524, 2525, 2526, 2529, 2531, 2532, 2535, 2537, 2540, 2541, 2542, 2544, 2547, 2548, 2549, 2550, 2552, 2553, 2554, 2557, 2558, 2559, 2562, 2563, 2564, 2566, 2567, 2568, 2569, 2570, 2573, 2575, 2576, 2577, 2579, 2580, 2581, 2582, 2585, 2587, 2588, 2591, 2593, 2596, 2597, 2598, 2600, 2603, 2604, 2605, 2606, 2608, 2609, 2610, 2613, 2614, 2615, 2618, 2619, 2622, 2623, 2626, 2629, 2630, 2631, 2632, 2633, 2635, 2636, 2637, 2638, 2639, 2642, 2644, 2645, 2646, 2648, 2649, 2650, 2651, 2654, 2656, 2657, 2660, 2662, 2665, 2666, 2667, 2669, 2672, 2673, 2674, 2675, 2677, 2678, 2679, 2682, 2683, 2684, 2687, 2688, 2689, 2691, 2692, 2693, 2694, 2695, 2697, 2698, 2699, 2700, 2703, 2704, 2707, 2708, 2709, 2712, 2714, 2715, 2716, 2718, 2719, 2720, 2721, 2722, 2724, 2725, 2726, 2727, 2730, 2731, 2734, 2735, 2738, 2740, 2741, 2744, 2746, 2749, 2750, 2751, 2753, 2756, 2757, 2758, 2759, 2761, 2764, 2765, 2768, 2769, 2770, 2773, 2774, 2775, 2778, 2781, 2784, 2785]
set_option maxRecDepth 20000 in
def bz_pcs : List (List Nat) := [pc_0, pc_1, pc_2, pc_3, pc_4, pc_5, pc_6, pc_7, pc_8, pc_9, pc_10, pc_11, pc_12, pc_13, pc_14, pc_15, pc_16, pc_17, pc_18, pc_19, pc_20, pc_21, pc_22, pc_23, pc_24, pc_25, pc_26, pc_27, pc_28, pc_29, pc_30, pc_31, pc_32, pc_33, pc_34, pc_35, pc_36, pc_37, pc_38, pc_39, pc_40, pc_41, pc_42, pc_43, pc_44, pc_45, pc_46, pc_47, pc_48, pc_49, pc_50, pc_51, pc_52, pc_53, pc_54, pc_55, pc_56, pc_57, pc_58, pc_59, pc_60, pc_61, pc_62, pc_63, pc_64, pc_65, pc_66, pc_67, pc_68, pc_69, pc_70, pc_71, pc_72, pc_73, pc_74, pc_75, pc_76, pc_77, pc_78, pc_79, pc_80, pc_81, pc_82, pc_83, pc_84, pc_85, pc_86, pc_87, pc_88, pc_89, pc_90, pc_91, pc_92, pc_93, pc_94, pc_95, pc_96, pc_97, pc_98, pc_99, pc_100, pc_101, pc_102, pc_103, pc_104, pc_105, pc_106, pc_107, pc_108, pc_109, pc_110, pc_111, pc_112, pc_113, pc_114, pc_115, pc_116, pc_117, pc_118, pc_119, pc_120, pc_121, pc_122, pc_123, pc_124, pc_125, pc_126, pc_127, pc_128, pc_129, pc_130, pc_131, pc_132, pc_133, pc_134, pc_135, pc_136, pc_137, pc_138, pc_139, pc_140, pc_141, pc_142, pc_143, pc_144, pc_145, pc_146, pc_147, pc_148, pc_149, pc_150, pc_151, pc_152, pc_153, pc_154, pc_155, pc_156, pc_157, pc_158, pc_159, pc_160, pc_161, pc_162, pc_163, pc_164, pc_165, pc_166, pc_167, pc_168, pc_169, pc_170, pc_171, pc_172, pc_173, pc_174, pc_175, pc_176, pc_177, pc_178, pc_179, pc_180, pc_181, pc_182, pc_183, pc_184, pc_185, pc_186, pc_187, pc_188, pc_189, pc_190, pc_191, pc_192, pc_193, pc_194, pc_195, pc_196, pc_197, pc_198, pc_199, pc_200, pc_201, pc_202, pc_203, pc_204, pc_205, pc_206, pc_207, pc_208, pc_209, pc_210, pc_211, pc_212, pc_213, pc_214, pc_215, pc_216, pc_217, pc_218, pc_219, pc_220, pc_221, pc_222, pc_223, pc_224, pc_225, pc_226, pc_227, pc_228, pc_229, pc_230, pc_231, pc_232, pc_233, pc_234, pc_235, pc_236, pc_237, pc_238, pc_239, pc_240, pc_241, pc_242, pc_243, pc_244, pc_245, pc_246, pc_247, pc_248, pc_249, pc_250, pc_251, pc_252, pc_253, pc_254, pc_255, pc_256, pc_257, pc_258, pc_259, pc_260, pc_261, pc_262, pc_263, pc_264, pc_265, pc_266, pc_267, pc_268, pc_269, pc_270, pc_271, pc_272, pc_273, pc_274, pc_275, pc_276, pc_277, pc_278, pc_279, pc_280, pc_281, pc_282, pc_283, pc_284, pc_285, pc_286, pc_287, pc_288, pc_289, pc_290, pc_291, pc_292, pc_293, pc_294, pc_295]
/-! a field by its link: own class, entry, the class named there, tag * 100 + slot (50: the abstract class) -/
set_option maxRecDepth 20000 in
def bz_flk : List (Nat × Nat × String × Nat) := [(1, 9, "BarcodeEngine$Row", 500), (0, 164, "BarcodeEngine$Row", 500), (4, 45, "BarcodeEngine$Row", 500), (2, 62, "BarcodeEngine$Row", 500), (1, 15, "BarcodeEngine$Row", 501), (0, 111, "BarcodeEngine$Row", 501), (3, 83, "BarcodeEngine$Row", 501), (4, 52, "BarcodeEngine$Row", 502), (5, 36, "BarcodeEngine$Row", 502), (1, 28, "BarcodeEngine$Row", 502), (3, 9, "BarcodeEngine$Symbology", 5000), (2, 42, "BarcodeEngine$Ean8", 5000), (3, 15, "BarcodeEngine$Symbology", 5001), (2, 52, "BarcodeEngine$Ean8", 5001), (3, 18, "BarcodeEngine$Symbology", 5002), (2, 49, "BarcodeEngine$Ean8", 5002), (3, 21, "BarcodeEngine$Symbology", 5003), (6, 9, "BarcodeEngine$Tally", 800), (6, 15, "BarcodeEngine$Tally", 801), (6, 18, "BarcodeEngine$Tally", 802), (0, 281, "BarcodeEngine$Tally", 802), (6, 21, "BarcodeEngine$Tally", 803), (0, 290, "BarcodeEngine$Tally", 803), (6, 28, "BarcodeEngine$Tally", 804), (0, 278, "BarcodeEngine$Tally", 804), (6, 51, "BarcodeEngine$Tally", 805), (0, 371, "BarcodeEngine$Tally", 805), (7, 9, "BarcodeEngine$Sequence", 700), (2, 21, "BarcodeEngine$Sequence", 700), (4, 21, "BarcodeEngine$Sequence", 700), (5, 15, "BarcodeEngine$Sequence", 700), (6, 80, "BarcodeEngine$Sequence", 700), (3, 29, "BarcodeEngine$Sequence", 700), (0, 216, "BarcodeEngine$Sequence", 700), (7, 15, "BarcodeEngine$Sequence", 701), (6, 83, "BarcodeEngine$Sequence", 701), (0, 219, "BarcodeEngine$Sequence", 701), (7, 18, "BarcodeEngine$Sequence", 702), (9, 22, "BarcodeEngine$Sequence", 702), (2, 15, "BarcodeEngine$Sequence", 702), (4, 15, "BarcodeEngine$Sequence", 702), (6, 61, "BarcodeEngine$Sequence", 702), (5, 9, "BarcodeEngine$Sequence", 702), (3, 24, "BarcodeEngine$Sequence", 702), (0, 209, "BarcodeEngine$Sequence", 702), (9, 10, "BarcodeEngine$Reading", 400), (6, 55, "BarcodeEngine$Reading", 400), (3, 100, "BarcodeEngine$Reading", 400), (0, 204, "BarcodeEngine$Reading", 400), (9, 16, "BarcodeEngine$Reading", 401), (6, 74, "BarcodeEngine$Reading", 401), (2, 88, "BarcodeEngine$Reading", 401), (3, 53, "BarcodeEngine$Reading", 401), (0, 226, "BarcodeEngine$Reading", 401), (9, 19, "BarcodeEngine$Reading", 402), (6, 77, "BarcodeEngine$Reading", 402), (2, 94, "BarcodeEngine$Reading", 402), (3, 59, "BarcodeEngine$Reading", 402), (0, 229, "BarcodeEngine$Reading", 402), (3, 66, "BarcodeEngine$Reading", 403), (0, 368, "BarcodeEngine$Reading", 403), (9, 26, "BarcodeEngine$Reading", 404), (3, 93, "BarcodeEngine$Reading", 404), (0, 222, "BarcodeEngine$Reading", 404), (9, 30, "BarcodeEngine$Reading", 405), (3, 107, "BarcodeEngine$Reading", 405), (0, 250, "BarcodeEngine$Reading", 405), (9, 33, "BarcodeEngine$Reading", 406), (3, 110, "BarcodeEngine$Reading", 406), (0, 253, "BarcodeEngine$Reading", 406), (8, 10, "BarcodeEngine$Scan", 600), (0, 121, "BarcodeEngine$Scan", 600), (8, 19, "BarcodeEngine$Scan", 601), (6, 37, "BarcodeEngine$Scan", 601), (2, 82, "BarcodeEngine$Scan", 601), (3, 47, "BarcodeEngine$Scan", 601), (0, 364, "BarcodeEngine$Scan", 601), (0, 9, "BarcodeEngine", 900), (0, 69, "BarcodeEngine", 901), (0, 16, "BarcodeEngine", 902), (0, 22, "BarcodeEngine", 903), (0, 118, "BarcodeEngine", 904), (0, 37, "BarcodeEngine", 905), (0, 44, "BarcodeEngine", 906), (0, 48, "BarcodeEngine", 907), (0, 52, "BarcodeEngine", 908), (0, 55, "BarcodeEngine", 909), (0, 58, "BarcodeEngine", 910), (0, 64, "BarcodeEngine", 911), (15, 7, "BarcodeEngineModel", 1000), (15, 13, "BarcodeEngineModel", 1001), (15, 16, "BarcodeEngineModel", 1002), (15, 19, "BarcodeEngineModel", 1003), (15, 22, "BarcodeEngineModel", 1004), (15, 26, "BarcodeEngineModel", 1005), (15, 29, "BarcodeEngineModel", 1006), (15, 32, "BarcodeEngineModel", 1007), (15, 157, "BarcodeEngineModel", 1008), (15, 170, "BarcodeEngineModel", 1009), (15, 75, "BarcodeEngineModel", 1010), (15, 71, "BarcodeEngineModel", 1011), (15, 35, "BarcodeEngineModel", 1012), (15, 38, "BarcodeEngineModel", 1013), (15, 114, "BarcodeEngineModel", 1014), (15, 41, "BarcodeEngineModel", 1015), (15, 183, "BarcodeEngineModel", 1016), (15, 44, "BarcodeEngineModel", 1017), (15, 47, "BarcodeEngineModel", 1018), (15, 193, "BarcodeEngineModel", 1019), (15, 212, "BarcodeEngineModel", 1020), (15, 215, "BarcodeEngineModel", 1021), (15, 50, "BarcodeEngineModel", 1022), (15, 53, "BarcodeEngineModel", 1023), (15, 56, "BarcodeEngineModel", 1024), (15, 59, "BarcodeEngineModel", 1025), (15, 62, "BarcodeEngineModel", 1026), (15, 305, "BarcodeEngineModel", 1027), (15, 309, "BarcodeEngineModel", 1028), (15, 312, "BarcodeEngineModel", 1029), (15, 315, "BarcodeEngineModel", 1030), (15, 65, "BarcodeEngineModel", 1031), (15, 68, "BarcodeEngineModel", 1032), (12, 15, "java/lang/String", 2801), (12, 9, "java/lang/String", 2800)]
/-- the kinds of a class's fields: 0 int or boolean, 1 long, 2 reference -/
def bz_fks : List (List Nat) := [[], [0, 0, 0, 0], [0, 0, 0, 0], [0, 0, 0, 0], [2, 2, 2, 0, 0, 0, 0], [2, 0, 0], [2, 2], [2, 2, 0], [2, 2, 2, 2, 0, 0], [2, 0, 2, 2, 0, 2, 2, 2, 2, 2, 2, 2], [2, 2, 2, 2, 2, 2, 2, 2, 0, 0, 0, 0, 2, 2, 0, 2, 0, 2, 2, 0, 0, 0, 2, 2, 2, 2, 2, 1, 1, 1, 1, 2, 2]]
set_option maxRecDepth 20000 in
def bz_lgss : List (List Nat) := [[], [], [], [], [], [], [], [], [], [], [], [], [], [], [], [], [], [], [], [], [], [], [], [], [], [], [], [], [], [], [], [], [], [], [], [], [], [], [], [], [], [], [], [], [], [], [], [], [], [], [], [], [], [], [], [], [], [], [], [], [], [], [], [], [], [], [], [], [], [], [], [], [], [], [], [], [], [], [], [], [], [], [], [], [], [], [], [], [], [], [], [], [], [], [], [], [], [], [], [], [], [], [], [], [], [], [], [], [], [], [], [], [], [], [], [], [], [], [], [], [], [], [], [], [], [], [], [], [], [], [], [], [], [], [], [], [], [], [], [], [], [], [], [], [], [], [], [], [], [], [], [4, 6], [], [4], [], [4, 6, 9, 11, 13], [0, 2, 4], [], [], [], [], [], [], [], [], [], [], [], [], [], [], [], [], [], [], [], [], [], [], [], [], [], [], [], [], [], [], [], [], [0, 2, 4], [], [], [], [], [], [], [], [], [], [], [], [], [], [], [], [], [], [], [], [], [], [], [], [], [], [], [], [], [], [], [], [], [], [], [], [], [], [], [], [], [], [], [], [], [], [], [], [], [], [], [], [], [], [], [], [], [], [], [], [], [], [], [], [], [], [], [], [], [], [], [3, 5, 7], [], [], [], [], [], [], [], [], [], [], [], [], [], [], [], [], [], [], [], [], [], [], [], [], [], [], [], [], [], [], [], [], [], [], []]
def bz_ow (k : Nat) : String := bz_own.getD (bz_ocs.getD k 0) ""
def bz_y (k : Nat) : MethodName := bz_ys.getD k ⟨"", "", ""⟩
def bz_b (k : Nat) : ByteArray := bz_bs.getD k ⟨#[]⟩
def bz_ml (k : Nat) : Nat := bz_mls.getD k 0
def bz_rt (k : Nat) : Option FieldType := bz_rts.getD k none
def bz_hh0 (k : Nat) : List (Nat × Nat × Nat × Nat) := bz_hhs.getD k []
def bz_fr (k : Nat) : Nat := bz_frs.getD k 0
def bz_lo0 (k : Nat) : Nat := bz_los.getD k 0
def bz_pc (k i : Nat) : Nat := (bz_pcs.getD k []).getD i 0
def bz_lgs (k : Nat) : List Nat := bz_lgss.getD k []
def bz_W : List Cond := bz_T.filter goodWord
/-- a method's own word -/
def bz_hw (k : Nat) : Cond := match bz_hh0 k with
  | [] => .code (bz_y k) (bz_b k) (bz_ml k) (bz_rt k)
  | h :: hs => .codeWith (bz_y k) (bz_b k) (bz_ml k) (bz_rt k) (h :: hs)
/-- words at rising places: how many are passed over ahead of each -/
def bz_pick (gs : List Nat) (l : List Cond) : List Cond := match gs with
  | [] => []
  | g :: gs => match l.drop g with
    | [] => []
    | x :: xs => x :: bz_pick gs xs
theorem bz_pick_in {gs : List Nat} : ∀ {l : List Cond}, ∀ w ∈ bz_pick gs l, w ∈ l := by
  induction gs with
  | nil => intro l w h; cases h
  | cons g gs ih =>
    intro l w h
    unfold bz_pick at h
    split at h
    · cases h
    · rename_i x xs hd
      have hx : ∀ y ∈ x :: xs, y ∈ l := fun y hy => List.mem_of_mem_drop (by rw [hd]; exact hy)
      rcases List.mem_cons.mp h with h | h
      · exact hx w (by rw [h]; exact List.mem_cons_self)
      · exact hx w (List.mem_cons_of_mem _ (ih w h))
theorem bz_inT {α : Type} {xs : List α} {f : α → Cond} {gs : List Nat} (h : xs.map f = bz_pick gs bz_T) : ∀ x ∈ xs, f x ∈ bz_T := fun x hx => bz_pick_in (f x) (by rw [← h]; exact List.mem_map.mpr ⟨x, hx, rfl⟩)
def bz_KN : Nat := 295
set_option maxRecDepth 200000 in
theorem bz_hw_map : (List.range bz_KN).map bz_hw = bz_pick [120, 7, 27, 2, 24, 10, 11, 28, 30, 8, 95, 3, 3, 2, 75, 3, 3, 5, 5, 3, 2, 3, 3, 8, 3, 3, 2, 2, 2, 3, 3, 1, 5, 3, 5, 3, 9, 3, 4, 3, 3, 3, 3, 3, 3, 3, 2, 6, 1, 6, 1, 4, 5, 2, 2, 3, 3, 3, 3, 3, 3, 3, 6, 2, 3, 3, 4, 19, 2, 5, 3, 20, 2, 4, 3, 3, 5, 3, 2, 2, 4, 54, 5, 2, 4, 6, 3, 2, 2, 5, 3, 4, 5, 3, 2, 3, 5, 2, 3, 4, 2, 3, 2, 2, 2, 9, 3, 3, 4, 3, 3, 4, 2, 3, 3, 3, 3, 2, 3, 3, 3, 3, 4, 2, 3, 3, 3, 4, 4, 3, 3, 3, 2, 3, 3, 2, 3, 3, 2, 3, 2, 3, 2, 3, 2, 3, 2, 3, 2, 3, 4, 4, 3, 19, 3, 3, 2, 2, 3, 3, 3, 2, 3, 4, 3, 2, 3, 3, 3, 2, 3, 2, 2, 3, 2, 3, 3, 2, 3, 4, 3, 3, 3, 3, 4, 104, 3, 3, 2, 3, 3, 6, 5, 4, 4, 5, 3, 3, 3, 3, 2, 3, 4, 3, 2, 4, 3, 3, 3, 3, 3, 3, 3, 3, 3, 3, 5, 3, 3, 3, 3, 3, 3, 3, 2, 3, 3, 3, 3, 3, 3, 3, 3, 2, 2, 2, 3, 3, 2, 3, 3, 3, 3, 3, 3, 3, 3, 3, 3, 3, 3, 3, 3, 3, 3, 3, 3, 3, 3, 3, 3, 3, 3, 3, 3, 3, 3, 3, 3, 3, 3, 3, 3, 3, 3, 3, 3, 3, 3, 3, 3, 3, 4, 3, 3, 3, 3, 3, 3, 3, 3, 3, 3, 3, 3] bz_T := rfl
theorem bz_hw_in {k : Nat} (hk : k < bz_KN) : bz_hw k ∈ bz_T := bz_inT bz_hw_map k (List.mem_range.mpr hk)
/-- a field's name and descriptor by its number -/
def bz_fnd (p : Nat) : String × String × String × Bool := if p / 100 = 50 then TX1 (p % 100) else if p / 100 = 28 then (if p % 100 = 0 then ("java/lang/String", "value", "[B", true) else ("java/lang/String", "coder", "B", true)) else match vwCl[p / 100 - 1]? with
  | some q => q.2.1 (p % 100)
  | none => ("", "", "", false)
def bz_flw (e : Nat × Nat × String × Nat) : Cond := .fieldLink (bz_own.getD e.1 "") e.2.1 e.2.2.1 (bz_fnd e.2.2.2).2.1 (bz_fnd e.2.2.2).2.2.1
set_option maxRecDepth 200000 in
theorem bz_fl_map : bz_flk.map bz_flw = bz_pick [130, 0, 0, 0, 0, 0, 0, 0, 0, 0, 21, 0, 1, 0, 1, 0, 1, 38, 0, 0, 0, 0, 0, 0, 0, 0, 0, 19, 0, 0, 0, 0, 0, 0, 0, 0, 0, 0, 0, 0, 0, 0, 0, 0, 0, 24, 0, 0, 0, 0, 0, 0, 0, 0, 0, 0, 0, 0, 0, 0, 0, 0, 0, 0, 0, 0, 0, 0, 0, 0, 15, 0, 0, 0, 0, 0, 0, 5, 0, 0, 0, 0, 0, 0, 0, 0, 0, 0, 0, 919, 0, 0, 0, 0, 0, 0, 0, 0, 0, 0, 0, 0, 0, 0, 0, 0, 0, 0, 0, 0, 0, 0, 0, 0, 0, 0, 0, 0, 0, 0, 0, 0, 538, 0] bz_T := rfl
def bz_xs : List MethodName := [⟨"BarcodeEngine$Symbology", "beginsAt", "(LBarcodeEngine$Row;I)Z"⟩, ⟨"BarcodeEngine$Symbology", "addUnit", "(LBarcodeEngine$Row;ILBarcodeEngine$Sequence;)Z"⟩, ⟨"BarcodeEngine$Symbology", "endsAt", "(LBarcodeEngine$Row;I)Z"⟩, ⟨"BarcodeEngine$Symbology", "hasLength", "(I)Z"⟩, ⟨"BarcodeEngine$Symbology", "draw", "(LBarcodeEngine$Sequence;LBarcodeEngine$Row;)V"⟩]
def bz_x (x : Nat) : MethodName := if x < 1000 then bz_y x else bz_xs.getD (x - 1000) ⟨"", "", ""⟩
def bz_cn1 (t : Nat) : String := if t = 28 then "java/lang/String" else match vwCl[t - 1]? with
  | some q => q.1
  | none => ""
set_option maxRecDepth 20000 in
def bz_lk : List (Nat × Nat × Nat) := [(11, 135, 0), (0, 30, 2), (2, 3, 3), (0, 33, 4), (4, 3, 3), (0, 36, 5), (5, 3, 3), (11, 163, 10), (11, 258, 11), (0, 274, 12), (0, 84, 13), (0, 372, 14), (3, 70, 15), (3, 73, 16), (3, 96, 1000), (5, 28, 18), (5, 32, 19), (2, 34, 21), (2, 38, 19), (4, 34, 21), (4, 38, 19), (3, 103, 31), (2, 45, 24), (2, 59, 25), (2, 65, 26), (2, 69, 27), (2, 75, 28), (2, 79, 29), (2, 55, 30), (3, 113, 33), (5, 39, 29), (3, 117, 1001), (4, 48, 18), (4, 55, 29), (3, 121, 1002), (4, 42, 25), (3, 77, 38), (3, 86, 39), (3, 90, 40), (3, 124, 41), (3, 127, 42), (0, 376, 43), (6, 24, 44), (6, 66, 45), (7, 26, 46), (6, 32, 48), (3, 62, 50), (3, 33, 46), (3, 39, 51), (3, 43, 1003), (6, 43, 55), (6, 70, 56), (6, 47, 57), (6, 86, 58), (0, 297, 59), (0, 304, 60), (0, 309, 61), (7, 22, 29), (0, 354, 63), (0, 315, 64), (6, 90, 46), (11, 139, 65), (11, 7, 66), (0, 80, 67), (11, 148, 68), (11, 15, 69), (0, 87, 70), (0, 95, 71), (0, 284, 72), (0, 339, 73), (12, 633, 74), (12, 492, 75), (12, 505, 76), (12, 335, 77), (12, 637, 78), (13, 88, 79), (13, 92, 28), (13, 38, 46), (13, 95, 80), (0, 348, 29), (0, 98, 1003), (0, 102, 81), (0, 350, 83), (0, 108, 84), (0, 114, 1004), (5, 19, 86), (2, 9, 88), (2, 28, 86), (4, 9, 86), (4, 25, 90), (0, 124, 86), (0, 127, 91), (0, 359, 28), (0, 131, 92), (0, 181, 93), (11, 151, 94), (11, 22, 95), (0, 135, 97), (0, 139, 98), (0, 145, 99), (0, 149, 100), (0, 344, 101), (12, 495, 102), (13, 9, 103), (12, 1059, 104), (11, 155, 105), (11, 26, 106), (0, 152, 107), (0, 158, 108), (11, 159, 109), (11, 30, 110), (0, 169, 111), (11, 167, 112), (11, 34, 113), (0, 173, 114), (11, 171, 115), (11, 38, 116), (0, 176, 117), (11, 174, 118), (11, 41, 119), (11, 178, 120), (11, 45, 121), (0, 187, 122), (11, 181, 123), (11, 48, 124), (0, 190, 38), (11, 185, 125), (11, 52, 126), (0, 195, 127), (1, 19, 46), (1, 25, 28), (11, 188, 128), (11, 55, 129), (11, 192, 130), (11, 59, 131), (11, 195, 132), (11, 62, 133), (0, 200, 134), (11, 198, 135), (11, 65, 136), (0, 212, 137), (11, 202, 138), (11, 69, 139), (11, 205, 140), (11, 72, 141), (11, 208, 142), (11, 75, 143), (11, 212, 144), (11, 79, 145), (11, 215, 146), (11, 83, 147), (11, 218, 148), (11, 86, 149), (0, 232, 46), (0, 238, 51), (11, 221, 150), (11, 89, 151), (0, 242, 152), (0, 246, 153), (11, 224, 154), (11, 94, 155), (0, 258, 156), (11, 227, 157), (11, 97, 158), (0, 262, 50), (11, 230, 159), (11, 100, 160), (11, 234, 161), (11, 104, 162), (0, 266, 45), (11, 237, 163), (11, 107, 164), (11, 240, 165), (11, 110, 166), (0, 287, 58), (11, 243, 167), (11, 113, 168), (11, 246, 169), (11, 116, 170), (0, 293, 171), (11, 249, 172), (11, 119, 173), (11, 252, 174), (11, 122, 175), (0, 301, 176), (11, 255, 177), (11, 125, 178), (11, 262, 179), (11, 128, 180), (0, 318, 181), (11, 265, 182), (11, 131, 183), (11, 138, 184), (11, 145, 185), (11, 144, 186), (11, 150, 187), (15, 150, 188), (15, 80, 189), (15, 153, 190), (15, 143, 191), (15, 147, 192), (15, 100, 193), (15, 104, 194), (15, 86, 101), (15, 160, 195), (15, 128, 196), (15, 121, 197), (15, 117, 198), (15, 131, 199), (15, 124, 200), (15, 134, 201), (11, 154, 202), (11, 158, 203), (15, 167, 204), (11, 162, 205), (11, 166, 206), (11, 170, 207), (15, 173, 208), (11, 173, 209), (15, 176, 210), (11, 177, 211), (11, 180, 212), (11, 184, 213), (15, 179, 214), (11, 187, 215), (11, 191, 216), (11, 194, 217), (11, 197, 218), (15, 289, 219), (15, 286, 220), (15, 280, 221), (15, 268, 222), (15, 253, 223), (15, 228, 224), (15, 196, 225), (15, 225, 226), (15, 218, 227), (15, 231, 228), (15, 190, 229), (15, 256, 230), (15, 240, 231), (15, 237, 232), (15, 199, 233), (15, 202, 234), (15, 206, 235), (15, 209, 236), (15, 243, 237), (15, 234, 238), (15, 259, 239), (15, 246, 240), (15, 222, 241), (15, 262, 242), (15, 249, 243), (15, 271, 244), (15, 283, 245), (15, 274, 246), (15, 277, 247), (15, 265, 248), (15, 292, 249), (11, 201, 250), (11, 204, 251), (15, 295, 252), (15, 298, 253), (11, 207, 254), (15, 302, 255), (11, 211, 256), (11, 214, 257), (11, 223, 258), (15, 318, 259), (11, 226, 260), (11, 217, 261), (15, 321, 262), (11, 220, 263), (15, 324, 264), (15, 327, 265), (11, 229, 266), (15, 333, 267), (15, 330, 268), (11, 233, 269), (11, 236, 270), (15, 336, 271), (11, 239, 272), (15, 349, 273), (15, 339, 274), (15, 343, 275), (15, 346, 276), (11, 242, 277), (15, 362, 278), (15, 359, 279), (15, 352, 280), (15, 356, 281), (11, 245, 282), (15, 367, 283), (11, 248, 284), (11, 251, 285), (15, 376, 286), (15, 370, 287), (15, 373, 288), (11, 254, 289), (11, 257, 290), (11, 261, 291), (15, 379, 292), (11, 264, 293), (11, 268, 294)]
def bz_lkw (e : Nat × Nat × Nat) : Cond := .methodLink (bz_own.getD e.1 "") e.2.1 (bz_x e.2.2)
set_option maxRecDepth 200000 in
theorem bz_lk_map : bz_lk.map bz_lkw = bz_pick [118, 35, 2, 24, 2, 7, 2, 172, 3, 3, 3, 71, 6, 3, 3, 7, 3, 6, 3, 3, 0, 0, 6, 3, 3, 2, 2, 2, 3, 5, 5, 3, 11, 0, 0, 9, 0, 3, 3, 3, 3, 3, 3, 3, 3, 2, 8, 8, 0, 3, 11, 3, 3, 3, 3, 3, 3, 3, 0, 8, 3, 0, 3, 19, 3, 4, 3, 20, 3, 3, 3, 3, 5, 3, 3, 2, 2, 0, 0, 51, 0, 0, 3, 9, 4, 5, 6, 2, 5, 0, 2, 0, 4, 0, 3, 3, 2, 3, 8, 4, 3, 2, 3, 2, 2, 9, 2, 3, 4, 4, 2, 4, 3, 2, 3, 4, 2, 3, 3, 2, 4, 2, 4, 3, 2, 3, 0, 2, 4, 3, 0, 0, 2, 4, 2, 3, 2, 3, 3, 2, 3, 3, 2, 3, 2, 3, 2, 3, 2, 3, 2, 3, 2, 3, 0, 0, 3, 3, 19, 4, 2, 3, 2, 2, 3, 0, 2, 3, 2, 3, 1, 2, 3, 2, 3, 0, 2, 3, 2, 3, 2, 2, 3, 2, 3, 3, 2, 5, 2, 3, 4, 2, 5, 103, 3, 3, 3, 3, 2, 7, 4, 5, 4, 3, 0, 3, 3, 3, 3, 3, 2, 4, 3, 3, 3, 3, 3, 3, 3, 3, 3, 3, 3, 3, 3, 5, 3, 3, 3, 3, 3, 3, 3, 3, 2, 3, 3, 3, 3, 3, 3, 3, 3, 2, 2, 2, 3, 3, 2, 3, 3, 3, 3, 3, 3, 3, 3, 3, 3, 3, 3, 3, 3, 3, 3, 3, 3, 3, 3, 3, 3, 3, 3, 3, 3, 3, 3, 3, 3, 3, 3, 3, 3, 3, 3, 3, 3, 3, 3, 3, 3, 4, 3, 3, 3, 3, 3, 3, 3, 3, 3, 3, 3, 3] bz_T := rfl
theorem bz_lk_in : ∀ e ∈ bz_lk, bz_lkw e ∈ bz_W := fun e he => List.mem_filter.mpr ⟨bz_inT bz_lk_map e he, rfl⟩
set_option maxRecDepth 20000 in
def bz_lkn : List (Nat × Nat × Nat) := [(0, 15, 1), (0, 43, 6), (0, 63, 7), (0, 68, 8), (8, 9, 1), (8, 18, 9), (9, 9, 7)]
def bz_lknw (e : Nat × Nat × Nat) : Cond := .methodLinkNest (bz_own.getD e.1 "") e.2.1 (bz_x e.2.2) "BarcodeEngine"
set_option maxRecDepth 200000 in
theorem bz_lkn_map : bz_lkn.map bz_lknw = bz_pick [126, 78, 28, 30, 4, 3, 4] bz_T := rfl
theorem bz_lkn_in : ∀ e ∈ bz_lkn, bz_lknw e ∈ bz_T := bz_inT bz_lkn_map
set_option maxRecDepth 20000 in
def bz_sel : List (Nat × Nat × Nat) := [(1, 16, 16), (2, 16, 16), (3, 16, 16), (1, 40, 40), (2, 40, 40), (3, 40, 40), (1, 41, 41), (2, 41, 41), (3, 41, 41), (1, 42, 42), (2, 42, 42), (3, 42, 42), (9, 12, 12), (8, 44, 44), (8, 55, 55), (8, 56, 56), (8, 57, 57), (9, 59, 59), (9, 67, 67), (9, 70, 70), (9, 71, 71), (9, 81, 81), (9, 84, 84), (9, 91, 91), (9, 92, 92), (9, 93, 93), (9, 99, 99), (9, 114, 114), (9, 134, 134), (9, 152, 152), (10, 190, 190), (10, 192, 192), (10, 195, 195), (10, 196, 196), (10, 197, 197), (10, 198, 198), (10, 199, 199), (10, 201, 201), (10, 208, 208), (10, 210, 210), (10, 214, 214), (10, 219, 219), (10, 220, 220), (10, 221, 221), (10, 222, 222), (10, 223, 223), (10, 225, 225), (10, 226, 226), (10, 227, 227), (10, 228, 228), (10, 229, 229), (10, 230, 230), (10, 231, 231), (10, 232, 232), (10, 236, 236), (10, 237, 237), (10, 239, 239), (10, 240, 240), (10, 241, 241), (10, 242, 242), (10, 243, 243), (10, 244, 244), (10, 245, 245), (10, 246, 246), (10, 247, 247), (10, 248, 248), (10, 249, 249), (10, 252, 252), (10, 253, 253), (10, 255, 255), (10, 259, 259), (10, 262, 262), (10, 264, 264), (10, 265, 265), (10, 267, 267), (10, 268, 268), (10, 271, 271), (10, 273, 273), (10, 274, 274), (10, 275, 275), (10, 276, 276), (10, 278, 278), (10, 279, 279), (10, 280, 280), (10, 281, 281), (10, 283, 283), (10, 286, 286), (10, 287, 287), (10, 288, 288), (10, 292, 292), (9, 10, 10), (9, 11, 11), (1, 14, 14), (2, 14, 14), (3, 14, 14), (4, 15, 15), (1, 1000, 17), (5, 18, 18), (5, 19, 19), (2, 1000, 20), (5, 21, 21), (3, 1000, 22), (1, 31, 31), (2, 31, 23), (2, 24, 24), (5, 25, 25), (7, 29, 29), (2, 30, 30), (3, 31, 31), (1, 33, 32), (2, 33, 33), (3, 33, 33), (1, 1001, 34), (2, 1001, 24), (3, 1001, 35), (1, 1002, 36), (2, 1002, 30), (3, 1002, 37), (5, 38, 38), (4, 39, 39), (8, 43, 43), (7, 45, 45), (1, 48, 48), (2, 48, 47), (3, 48, 48), (1, 50, 50), (2, 50, 49), (3, 50, 50), (7, 51, 51), (1, 1003, 52), (2, 1003, 53), (3, 1003, 54), (8, 58, 58), (8, 60, 60), (7, 61, 61), (1, 63, 62), (2, 63, 63), (3, 63, 63), (8, 64, 64), (9, 66, 66), (9, 69, 69), (28, 73, 73), (28, 74, 74), (28, 75, 75), (28, 76, 76), (28, 77, 77), (1, 83, 82), (2, 83, 83), (3, 83, 83), (1, 1004, 85), (5, 86, 86), (2, 1004, 87), (3, 1004, 89), (9, 95, 95), (1, 97, 96), (2, 97, 97), (3, 97, 97), (7, 98, 98), (28, 101, 101), (9, 106, 106), (5, 107, 107), (5, 108, 108), (9, 110, 110), (5, 111, 111), (9, 113, 113), (9, 116, 116), (9, 119, 119), (9, 121, 121), (5, 122, 122), (9, 124, 124), (9, 126, 126), (5, 127, 127), (9, 129, 129), (9, 131, 131), (9, 133, 133), (9, 136, 136), (4, 137, 137), (9, 139, 139), (9, 141, 141), (9, 143, 143), (9, 145, 145), (9, 147, 147), (9, 149, 149), (9, 151, 151), (5, 153, 153), (9, 155, 155), (9, 158, 158), (9, 160, 160), (9, 162, 162), (9, 164, 164), (9, 166, 166), (9, 168, 168), (9, 170, 170), (9, 173, 173), (9, 175, 175), (8, 176, 176), (9, 178, 178), (9, 180, 180), (8, 181, 181), (9, 183, 183), (10, 185, 185), (10, 186, 186), (10, 187, 187), (10, 202, 202), (10, 203, 203), (10, 205, 205), (10, 206, 206), (10, 207, 207), (10, 209, 209), (10, 211, 211), (10, 212, 212), (10, 213, 213), (10, 215, 215), (10, 216, 216), (10, 217, 217), (10, 218, 218), (10, 250, 250), (10, 251, 251), (10, 254, 254), (10, 256, 256), (10, 257, 257), (10, 258, 258), (10, 260, 260), (10, 261, 261), (10, 263, 263), (10, 266, 266), (10, 269, 269), (10, 270, 270), (10, 272, 272), (10, 277, 277), (10, 282, 282), (10, 284, 284), (10, 285, 285), (10, 289, 289), (10, 290, 290), (10, 291, 291), (10, 293, 293), (10, 294, 294)]
def bz_selw (e : Nat × Nat × Nat) : Cond := .selects (bz_cn1 e.1) (bz_x e.2.1) (bz_y e.2.2)
set_option maxRecDepth 200000 in
theorem bz_sel_map : bz_sel.map bz_selw = bz_pick [0, 0, 0, 0, 0, 0, 0, 0, 0, 0, 0, 0, 0, 1, 0, 0, 0, 0, 0, 0, 0, 0, 0, 0, 0, 0, 0, 0, 0, 0, 0, 0, 0, 0, 0, 0, 0, 0, 0, 0, 0, 0, 0, 0, 0, 0, 0, 0, 0, 0, 0, 0, 0, 0, 0, 0, 0, 0, 0, 0, 0, 0, 0, 0, 0, 0, 0, 0, 0, 0, 0, 0, 0, 0, 0, 0, 0, 0, 0, 0, 0, 0, 0, 0, 0, 0, 0, 0, 0, 0, 280, 3, 80, 0, 0, 3, 8, 6, 3, 1, 4, 2, 7, 0, 4, 3, 12, 3, 1, 4, 3, 0, 4, 2, 0, 9, 2, 0, 5, 3, 15, 7, 7, 0, 2, 4, 0, 2, 4, 4, 2, 2, 16, 7, 3, 5, 2, 0, 3, 8, 28, 32, 3, 3, 5, 3, 70, 2, 0, 10, 4, 1, 8, 26, 4, 2, 0, 3, 11, 22, 3, 4, 7, 4, 6, 11, 10, 7, 4, 6, 7, 4, 8, 7, 6, 10, 3, 6, 6, 6, 6, 6, 6, 9, 23, 7, 9, 7, 6, 8, 6, 7, 6, 9, 6, 3, 6, 8, 3, 7, 109, 3, 3, 67, 3, 7, 3, 3, 7, 7, 3, 3, 7, 5, 3, 3, 122, 3, 11, 7, 3, 3, 7, 3, 7, 11, 11, 3, 7, 19, 20, 7, 3, 15, 3, 3, 7, 3] bz_T := rfl
theorem bz_sel_in : ∀ e ∈ bz_sel, bz_selw e ∈ bz_W := fun e he => List.mem_filter.mpr ⟨bz_inT bz_sel_map e he, rfl⟩
set_option maxRecDepth 20000 in
def bz_same : List (Nat) := [14, 1000, 31, 33, 1001, 1002, 48, 50, 1003, 63, 83, 1004, 97, 16, 40, 41, 42]
def bz_samew (e : Nat) : Cond := .sameMethod (bz_x e).cls (bz_x e).cls (bz_x e).name (bz_x e).desc
set_option maxRecDepth 200000 in
theorem bz_same_map : bz_same.map bz_samew = bz_pick [455, 14, 28, 33, 9, 13, 45, 8, 13, 40, 167, 14, 47, 912, 0, 0, 0] bz_T := rfl
theorem bz_same_in : ∀ e ∈ bz_same, bz_samew e ∈ bz_W := fun e he => List.mem_filter.mpr ⟨bz_inT bz_same_map e he, rfl⟩
set_option maxRecDepth 20000 in
def bz_decl : List (Nat) := [1000, 1001, 1002, 1003, 1004]
def bz_declw (e : Nat) : Cond := .declares (bz_x e)
set_option maxRecDepth 200000 in
theorem bz_decl_map : bz_decl.map bz_declw = bz_pick [469, 72, 13, 68, 223] bz_T := rfl
theorem bz_decl_in : ∀ e ∈ bz_decl, bz_declw e ∈ bz_T := bz_inT bz_decl_map
set_option maxRecDepth 20000 in
def bz_stat : List (Nat) := [13, 26, 27, 28, 46, 65, 68, 72, 78, 79, 80, 88, 90, 94, 100, 102, 103, 104, 105, 109, 112, 115, 117, 118, 120, 123, 125, 128, 130, 132, 135, 138, 140, 142, 144, 146, 148, 150, 154, 156, 157, 159, 161, 163, 165, 167, 169, 171, 172, 174, 177, 179, 182, 188, 189, 191, 193, 194, 200, 204, 224, 233, 234, 235, 238]
def bz_statw (e : Nat) : Cond := .static (bz_y e)
set_option maxRecDepth 200000 in
theorem bz_stat_map : bz_stat.map bz_statw = bz_pick [382, 130, 2, 2, 79, 80, 27, 33, 25, 2, 4, 85, 9, 17, 24, 6, 2, 2, 9, 16, 11, 11, 6, 3, 7, 11, 7, 13, 7, 6, 10, 10, 6, 6, 6, 6, 6, 8, 32, 6, 2, 7, 6, 8, 6, 7, 6, 6, 2, 6, 10, 8, 11, 124, 3, 10, 10, 4, 24, 15, 81, 34, 2, 2, 10] bz_T := rfl
theorem bz_stat_in : ∀ e ∈ bz_stat, bz_statw e ∈ bz_W := fun e he => List.mem_filter.mpr ⟨bz_inT bz_stat_map e he, rfl⟩
set_option maxRecDepth 20000 in
def bz_inst : List (Nat) := [0, 1, 2, 3, 4, 5, 6, 7, 8, 9, 10, 11, 12, 14, 15, 16, 17, 18, 19, 20, 21, 22, 31, 23, 24, 25, 29, 30, 33, 32, 34, 35, 36, 37, 38, 39, 40, 41, 42, 43, 44, 45, 48, 47, 50, 49, 51, 52, 53, 54, 55, 56, 57, 58, 59, 60, 61, 63, 62, 64, 66, 67, 69, 70, 71, 73, 74, 75, 76, 77, 81, 83, 82, 84, 85, 86, 87, 89, 91, 92, 93, 95, 97, 96, 98, 99, 101, 106, 107, 108, 110, 111, 113, 114, 116, 119, 121, 122, 124, 126, 127, 129, 131, 133, 134, 136, 137, 139, 141, 143, 145, 147, 149, 151, 152, 153, 155, 158, 160, 162, 164, 166, 168, 170, 173, 175, 176, 178, 180, 181, 183, 184, 185, 186, 187, 190, 192, 195, 196, 197, 198, 199, 201, 202, 203, 205, 206, 207, 208, 209, 210, 211, 212, 213, 214, 215, 216, 217, 218, 219, 220, 221, 222, 223, 225, 226, 227, 228, 229, 230, 231, 232, 236, 237, 239, 240, 241, 242, 243, 244, 245, 246, 247, 248, 249, 250, 251, 252, 253, 254, 255, 256, 257, 258, 259, 260, 261, 262, 263, 264, 265, 266, 267, 268, 269, 270, 271, 272, 273, 274, 275, 276, 277, 278, 279, 280, 281, 282, 283, 284, 285, 286, 287, 288, 289, 290, 291, 292, 293, 294]
def bz_instw (e : Nat) : Cond := .instanceMethod (bz_y e)
set_option maxRecDepth 200000 in
theorem bz_inst_map : bz_inst.map bz_instw = bz_pick [119, 7, 27, 2, 24, 10, 11, 28, 30, 8, 94, 3, 4, 74, 6, 4, 5, 4, 3, 3, 2, 4, 4, 3, 2, 3, 12, 3, 5, 2, 9, 3, 9, 3, 3, 3, 4, 3, 3, 2, 4, 2, 6, 3, 4, 3, 5, 6, 2, 2, 3, 3, 3, 2, 4, 2, 3, 4, 2, 5, 8, 20, 7, 4, 20, 6, 3, 3, 5, 3, 66, 2, 2, 7, 6, 2, 3, 8, 8, 5, 3, 5, 3, 2, 5, 5, 5, 22, 3, 4, 7, 4, 6, 4, 6, 10, 7, 4, 6, 7, 4, 8, 7, 6, 4, 5, 3, 6, 6, 6, 6, 6, 6, 9, 4, 18, 7, 9, 7, 6, 8, 6, 7, 6, 9, 6, 3, 6, 8, 3, 7, 5, 103, 3, 3, 11, 12, 15, 3, 3, 3, 3, 6, 3, 3, 7, 3, 3, 4, 2, 4, 2, 3, 3, 4, 2, 5, 3, 3, 4, 3, 3, 3, 3, 6, 3, 3, 3, 3, 3, 3, 3, 12, 3, 6, 3, 3, 3, 3, 3, 3, 3, 3, 3, 3, 2, 3, 4, 3, 2, 4, 2, 3, 3, 4, 2, 3, 4, 2, 4, 3, 2, 4, 3, 2, 3, 4, 2, 4, 3, 3, 3, 2, 4, 3, 3, 3, 3, 4, 2, 3, 4, 3, 3, 2, 3, 3, 4, 2, 3] bz_T := rfl
theorem bz_inst_in : ∀ e ∈ bz_inst, bz_instw e ∈ bz_W := fun e he => List.mem_filter.mpr ⟨bz_inT bz_inst_map e he, rfl⟩
set_option maxRecDepth 20000 in
def bz_ini : List (String) := ["BarcodeEngineLaw", "BarcodeEngine", "BarcodeEngine$Row", "BarcodeEngine$Symbology", "BarcodeEngine$Ean8", "BarcodeEngine$Interleaved", "BarcodeEngine$Codabar", "BarcodeEngine$Tally", "BarcodeEngine$Sequence", "BarcodeEngine$Scan", "BarcodeEngine$Reading", "BarcodeEngineModel", "java/lang/IllegalStateException", "java/lang/IndexOutOfBoundsException", "java/lang/IllegalArgumentException", "java/lang/String", "java/lang/StringLatin1", "java/lang/Math", "jdk/internal/util/Preconditions", "java/util/NoSuchElementException"]
def bz_iniw (e : String) : Cond := .initialized e
set_option maxRecDepth 200000 in
theorem bz_ini_map : bz_ini.map bz_iniw = bz_pick [91, 0, 0, 0, 0, 0, 0, 0, 0, 0, 0, 0, 3, 0, 0, 0, 0, 0, 1, 1] bz_T := rfl
theorem bz_ini_in : ∀ e ∈ bz_ini, bz_iniw e ∈ bz_W := fun e he => List.mem_filter.mpr ⟨bz_inT bz_ini_map e he, rfl⟩
set_option maxRecDepth 20000 in
def bz_cl0 : List (Nat × Nat × String) := [(11, 8, "BarcodeEngine"), (0, 13, "BarcodeEngine$Row"), (0, 20, "BarcodeEngine$Scan"), (0, 26, "BarcodeEngine$Symbology"), (0, 28, "BarcodeEngine$Ean8"), (0, 31, "BarcodeEngine$Interleaved"), (0, 34, "BarcodeEngine$Codabar"), (0, 41, "BarcodeEngine$Tally"), (0, 61, "BarcodeEngine$Sequence"), (8, 7, "BarcodeEngine$Row"), (8, 16, "BarcodeEngine$Reading"), (9, 7, "BarcodeEngine$Sequence"), (0, 324, "java/lang/IndexOutOfBoundsException"), (11, 13, "java/lang/IllegalStateException"), (0, 73, "java/lang/IllegalStateException"), (11, 18, "java/lang/IndexOutOfBoundsException"), (11, 20, "java/lang/IllegalArgumentException"), (0, 90, "java/lang/IllegalArgumentException"), (11, 92, "java/util/NoSuchElementException"), (0, 269, "java/util/NoSuchElementException"), (11, 136, "BarcodeEngineModel")]
def bz_cl0w (e : Nat × Nat × String) : Cond := .classLink (bz_own.getD e.1 "") e.2.1 e.2.2
set_option maxRecDepth 200000 in
theorem bz_cl0_map : bz_cl0.map bz_cl0w = bz_pick [116, 7, 23, 1, 1, 27, 10, 10, 29, 36, 1, 6, 105, 297, 4, 22, 0, 8, 394, 8, 132] bz_T := rfl
theorem bz_cl0_in : ∀ e ∈ bz_cl0, bz_cl0w e ∈ bz_W := fun e he => List.mem_filter.mpr ⟨bz_inT bz_cl0_map e he, rfl⟩
def bz_ns0 (c : Nat) : Nat := [0, 4, 4, 4, 7, 3, 2, 3, 6, 12, 33].getD c 0
set_option maxRecDepth 20000 in
def bz_ia : List (Nat) := [9, 5, 2, 3, 1, 8, 7, 6, 4, 10]
def bz_iaw (e : Nat) : Cond := .instantiable (bz_cn1 e) (bz_ns0 e)
set_option maxRecDepth 200000 in
theorem bz_ia_map : bz_ia.map bz_iaw = bz_pick [117, 7, 27, 27, 10, 11, 28, 30, 8, 984] bz_T := rfl
theorem bz_ia_in : ∀ e ∈ bz_ia, bz_iaw e ∈ bz_W := fun e he => List.mem_filter.mpr ⟨bz_inT bz_ia_map e he, rfl⟩
set_option maxRecDepth 20000 in
def bz_ao : List (String) := ["BarcodeEngine$Scan", "BarcodeEngine$Symbology", "BarcodeEngine$Tally", "BarcodeEngine$Reading"]
def bz_aow (e : String) : Cond := .arrayOver (.object e)
set_option maxRecDepth 200000 in
theorem bz_ao_map : bz_ao.map bz_aow = bz_pick [149, 1, 51, 68] bz_T := rfl
theorem bz_ao_in : ∀ e ∈ bz_ao, bz_aow e ∈ bz_T := bz_inT bz_ao_map
set_option maxRecDepth 20000 in
def bz_acl : List (FieldType) := [.int, .boolean, .byte, .long]
def bz_aclw (e : FieldType) : Cond := .arrayClass e
set_option maxRecDepth 200000 in
theorem bz_acl_map : bz_acl.map bz_aclw = bz_pick [147, 115, 188, 1356] bz_T := rfl
theorem bz_acl_in : ∀ e ∈ bz_acl, bz_aclw e ∈ bz_W := fun e he => List.mem_filter.mpr ⟨bz_inT bz_acl_map e he, rfl⟩
set_option maxRecDepth 20000 in
def bz_cas : List (String × String) := [("java/lang/IndexOutOfBoundsException", "java/lang/IndexOutOfBoundsException"), ("java/lang/IllegalStateException", "java/lang/IllegalStateException"), ("java/lang/IllegalArgumentException", "java/lang/IllegalArgumentException"), ("java/util/NoSuchElementException", "java/util/NoSuchElementException"), ("BarcodeEngine$Ean8", "BarcodeEngine$Symbology"), ("BarcodeEngine$Interleaved", "BarcodeEngine$Symbology"), ("BarcodeEngine$Codabar", "BarcodeEngine$Symbology")]
def bz_casw (e : String × String) : Cond := .castable e.1 e.2
set_option maxRecDepth 200000 in
theorem bz_cas_map : bz_cas.map bz_casw = bz_pick [386, 302, 32, 403, 704, 0, 0] bz_T := rfl
theorem bz_cas_in : ∀ e ∈ bz_cas, bz_casw e ∈ bz_T := bz_inT bz_cas_map
set_option maxRecDepth 20000 in
def bz_ki : List (Nat × Nat × Int32) := [(0, 358, 1103515245), (15, 164, 1103515245)]
def bz_kiw (e : Nat × Nat × Int32) : Cond := .constant (bz_own.getD e.1 "") e.2.1 e.2.2
set_option maxRecDepth 200000 in
theorem bz_ki_map : bz_ki.map bz_kiw = bz_pick [879, 558] bz_T := rfl
theorem bz_ki_in : ∀ e ∈ bz_ki, bz_kiw e ∈ bz_W := fun e he => List.mem_filter.mpr ⟨bz_inT bz_ki_map e he, rfl⟩
set_option maxRecDepth 20000 in
def bz_kl : List (Nat × Nat × Int64) := [(0, 256, 100), (15, 78, 2), (15, 137, 4), (15, 139, 40), (15, 141, (-3)), (15, 110, 3), (15, 108, 14), (15, 112, 16), (15, 96, 48), (15, 98, 57), (15, 92, 65), (15, 94, 68), (15, 165, 10000), (15, 186, (-100)), (15, 188, 100), (15, 365, 127)]
def bz_klw (e : Nat × Nat × Int64) : Cond := .constantLong (bz_own.getD e.1 "") e.2.1 e.2.2
set_option maxRecDepth 200000 in
theorem bz_kl_map : bz_kl.map bz_klw = bz_pick [1144, 233, 7, 0, 0, 0, 3, 0, 4, 0, 3, 0, 44, 44, 0, 259] bz_T := rfl
theorem bz_kl_in : ∀ e ∈ bz_kl, bz_klw e ∈ bz_W := fun e he => List.mem_filter.mpr ⟨bz_inT bz_kl_map e he, rfl⟩
set_option maxRecDepth 20000 in
def bz_sf : List (String) := ["startStep", "stopStep", "unitStep"]
def bz_sfw (e : String) : Cond := .sameField "BarcodeEngine$Ean8" "BarcodeEngine$Symbology" e "I"
set_option maxRecDepth 200000 in
theorem bz_sf_map : bz_sf.map bz_sfw = bz_pick [163, 2, 2] bz_T := rfl
theorem bz_sf_in : ∀ e ∈ bz_sf, bz_sfw e ∈ bz_W := fun e he => List.mem_filter.mpr ⟨bz_inT bz_sf_map e he, rfl⟩
set_option maxRecDepth 20000 in
def bz_lay : List (Nat × Nat) := [(5, 0), (5, 1), (5, 2), (2, 0), (2, 1), (2, 2), (2, 3), (3, 0), (3, 1), (3, 2), (3, 3), (1, 0), (1, 1), (1, 2), (1, 3), (8, 0), (8, 1), (8, 2), (8, 3), (8, 4), (8, 5), (7, 0), (7, 1), (7, 2), (4, 0), (4, 1), (4, 2), (4, 3), (4, 4), (4, 5), (4, 6), (6, 0), (6, 1), (9, 0), (9, 1), (9, 2), (9, 3), (9, 4), (9, 5), (9, 6), (9, 7), (9, 8), (9, 9), (9, 10), (9, 11), (10, 0), (10, 1), (10, 2), (10, 3), (10, 4), (10, 5), (10, 6), (10, 7), (10, 8), (10, 9), (10, 10), (10, 11), (10, 12), (10, 13), (10, 14), (10, 15), (10, 16), (10, 17), (10, 18), (10, 19), (10, 20), (10, 21), (10, 22), (10, 23), (10, 24), (10, 25), (10, 26), (10, 27), (10, 28), (10, 29), (10, 30), (10, 31), (10, 32)]
def bz_layw (e : Nat × Nat) : Cond := match vwCl[e.1 - 1]? with
  | some q => u_lay q.1 q.2.1 e.2
  | none => .arrayClass .int
set_option maxRecDepth 200000 in
theorem bz_lay_map : bz_lay.map bz_layw = bz_pick [140, 1, 1, 26, 1, 1, 1, 8, 0, 0, 0, 7, 0, 0, 0, 18, 1, 1, 1, 1, 1, 26, 1, 1, 44, 1, 1, 1, 1, 1, 1, 9, 1, 14, 1, 1, 1, 1, 1, 1, 1, 1, 1, 1, 1, 929, 1, 1, 1, 1, 1, 1, 1, 1, 1, 1, 1, 1, 1, 1, 1, 1, 1, 1, 1, 1, 1, 1, 1, 1, 1, 1, 1, 1, 1, 1, 1, 1] bz_T := rfl
theorem bz_lay_in : ∀ e ∈ bz_lay, bz_layw e ∈ bz_T := bz_inT bz_lay_map
theorem bz_sg_5_25 : Cond.fieldLinkNest "BarcodeEngine$Codabar" 25 "BarcodeEngine" "CODABAR_PATTERNS" "[I" "BarcodeEngine" ∈ bz_T := List.mem_of_getElem? (i := 474) (by decide +kernel)
theorem bz_sg_4_31 : Cond.fieldLinkNest "BarcodeEngine$Interleaved" 31 "BarcodeEngine" "INTERLEAVED_PATTERNS" "[I" "BarcodeEngine" ∈ bz_T := List.mem_of_getElem? (i := 551) (by decide +kernel)
theorem bz_sg_12_38 : Cond.fieldLink "java/lang/String" 38 "java/lang/String" "COMPACT_STRINGS" "Z" ∈ bz_W := List.mem_filter.mpr ⟨List.mem_of_getElem? (i := 757) (by decide +kernel), rfl⟩
theorem bz_sg_12_1053 : Cond.fieldLink "java/lang/String" 1053 "jdk/internal/util/Preconditions" "SIOOBE_FORMATTER" "Ljava/util/function/BiFunction;" ∈ bz_W := List.mem_filter.mpr ⟨List.mem_of_getElem? (i := 796) (by decide +kernel), rfl⟩
theorem bz_sg_2_25 : Cond.fieldLinkNest "BarcodeEngine$Ean8" 25 "BarcodeEngine" "EAN_WIDTHS" "[I" "BarcodeEngine" ∈ bz_T := List.mem_of_getElem? (i := 865) (by decide +kernel)
theorem bz_fl_in : ∀ e ∈ bz_flk, bz_flw e ∈ bz_W := fun e he => List.mem_filter.mpr ⟨bz_inT bz_fl_map e he, rfl⟩
def bz_KM : Nat := 296
set_option maxRecDepth 200000 in
theorem bz_own_map : (List.range bz_KM).map (fun k => (bz_y k).cls) = (List.range bz_KM).map bz_ow := rfl
set_option maxRecDepth 20000 in
def bz_pns : List Nat := [0, 0, 0, 4, 0, 0, 0, 0, 0, 0, 0, 0, 1, 1, 3, 0, 2, 2, 4, 3, 2, 2, 2, 3, 3, 2, 3, 1, 2, 2, 2, 3, 3, 3, 3, 3, 2, 2, 1, 1, 2, 3, 3, 4, 3, 0, 2, 3, 3, 2, 2, 2, 1, 1, 1, 1, 2, 1, 2, 2, 0, 2, 1, 1, 0, 7, 5, 1, 7, 5, 1, 1, 1, 1, 2, 0, 0, 0, 4, 1, 4, 1, 3, 3, 0, 2, 1, 2, 2, 2, 1, 4, 1, 1, 4, 2, 1, 1, 2, 2, 1, 1, 2, 2, 3, 8, 6, 2, 0, 2, 0, 1, 3, 1, 1, 4, 2, 2, 5, 3, 5, 3, 2, 2, 1, 4, 2, 1, 3, 2, 3, 1, 4, 2, 2, 5, 3, 1, 5, 3, 5, 3, 6, 4, 4, 2, 5, 3, 5, 3, 4, 2, 2, 3, 4, 2, 2, 5, 3, 6, 4, 3, 1, 3, 1, 5, 3, 4, 2, 4, 2, 3, 3, 1, 3, 1, 0, 3, 1, 3, 1, 1, 4, 2, 0, 0, 5, 5, 1, 3, 4, 2, 2, 1, 1, 2, 0, 1, 1, 1, 2, 1, 2, 6, 2, 0, 0, 1, 1, 2, 2, 3, 3, 1, 2, 2, 2, 1, 2, 2, 2, 2, 2, 2, 1, 2, 1, 3, 2, 2, 1, 1, 1, 2, 3, 2, 2, 2, 1, 1, 1, 1, 1, 2, 2, 2, 2, 2, 2, 2, 3, 3, 4, 3, 3, 3, 4, 2, 2, 2, 2, 3, 1, 3, 2, 3, 3, 3, 3, 4, 1, 1, 1, 1, 0, 1, 1, 3, 2, 1, 3, 1, 2, 1, 2, 1, 1, 2, 4, 1, 1, 0, 1, 1, 2, 1]
def bz_pn (k : Nat) : Nat := bz_pns.getD k 0
set_option maxRecDepth 200000 in
theorem bz_pn_ok : (List.range bz_KM).all (fun k => decide ((parseMethodDescriptor (bz_y k).desc).map (fun d => d.parameters.length) = some (bz_pn k))) = true := by decide +kernel
theorem bz_at_77 : ∀ w ∈ (vx_atS "BarcodeEngine" 77 "java/lang/IllegalStateException" ["java/lang/RuntimeException", "java/lang/Exception"]).filter goodWord, w ∈ bz_T := fun w h => List.mem_append_right _ ((by decide +kernel : ∀ w ∈ (vx_atS "BarcodeEngine" 77 "java/lang/IllegalStateException" ["java/lang/RuntimeException", "java/lang/Exception"]).filter goodWord, w ∈ lw_tbl) w h)
theorem bz_at_94 : ∀ w ∈ (vx_atS "BarcodeEngine" 94 "java/lang/IllegalArgumentException" ["java/lang/RuntimeException", "java/lang/Exception"]).filter goodWord, w ∈ bz_T := fun w h => List.mem_append_right _ ((by decide +kernel : ∀ w ∈ (vx_atS "BarcodeEngine" 94 "java/lang/IllegalArgumentException" ["java/lang/RuntimeException", "java/lang/Exception"]).filter goodWord, w ∈ lw_tbl) w h)
theorem bz_at_328 : ∀ w ∈ (vx_atS "BarcodeEngine" 328 "java/lang/IndexOutOfBoundsException" ["java/lang/RuntimeException", "java/lang/Exception"]).filter goodWord, w ∈ bz_T := fun w h => List.mem_append_right _ ((by decide +kernel : ∀ w ∈ (vx_atS "BarcodeEngine" 328 "java/lang/IndexOutOfBoundsException" ["java/lang/RuntimeException", "java/lang/Exception"]).filter goodWord, w ∈ lw_tbl) w h)
end
section
/-! THE SMALL MACHINE: values (int, long, reference), memory (tags and lengths; references; ints; longs; cells and slots made), blocks walked by List.rec -/
abbrev bz_V : Type := Int ⊕ (Int ⊕ Nat)
abbrev zI (x : Int) : bz_V := Sum.inl x
abbrev zL (x : Int) : bz_V := Sum.inr (Sum.inl x)
abbrev zR (a : Nat) : bz_V := Sum.inr (Sum.inr a)
abbrev bz_M : Type := List (Nat × Nat) × (Nat → Int → Nat) × (Nat → Int → Int) × (Nat → Int → Int) × Nat × Nat
abbrev bz_R : Type := (bz_V ⊕ Nat) × bz_M
abbrev bz_K : Type := List (Option bz_V) → List bz_V → bz_M → Option bz_R
abbrev bz_X0 : Type := Nat → Nat → List (Option bz_V) → List bz_V → bz_M → Option bz_R
/-- the wrap-arounds -/
def wr (x : Int) : Int := (x + 2147483648) % 4294967296 - 2147483648
def wl (x : Int) : Int := (x + 9223372036854775808) % 18446744073709551616 - 9223372036854775808
def gT (μ : bz_M) (a : Nat) : Nat := (μ.1.getD a (0, 0)).1
def gN (μ : bz_M) (a : Nat) : Int := ((μ.1.getD a (0, 0)).2 : Nat)
def gP (μ : bz_M) (a : Nat) (i : Int) : Nat := μ.2.1 a i
def gM (μ : bz_M) (a : Nat) (i : Int) : Int := μ.2.2.1 a i
def gG (μ : bz_M) (a : Nat) (i : Int) : Int := μ.2.2.2.1 a i
def sP (μ : bz_M) (a : Nat) (i : Int) (v : Nat) : bz_M := (μ.1, (fun b j => if b = a ∧ j = i then v else μ.2.1 b j), μ.2.2)
def sM (μ : bz_M) (a : Nat) (i : Int) (v : Int) : bz_M := (μ.1, μ.2.1, (fun b j => if b = a ∧ j = i then v else μ.2.2.1 b j), μ.2.2.2)
def sG (μ : bz_M) (a : Nat) (i : Int) (v : Int) : bz_M := (μ.1, μ.2.1, μ.2.2.1, (fun b j => if b = a ∧ j = i then v else μ.2.2.2.1 b j), μ.2.2.2.2)
/-- a new cell behind the last one -/
def sA (μ : bz_M) (t n : Nat) : bz_M := (μ.1 ++ [(t, if 20 ≤ t then n else 0)], μ.2.1, μ.2.2.1, μ.2.2.2.1, μ.2.2.2.2.1 + 1, μ.2.2.2.2.2 + n)
/-- an exception made -/
def sX (μ : bz_M) : bz_M := (μ.1, μ.2.1, μ.2.2.1, μ.2.2.2.1, μ.2.2.2.2.1 + 1, μ.2.2.2.2.2 + 6)
/-- no exception has been made yet: the cells are those of the list -/
abbrev bz_cl (μ : bz_M) : Prop := μ.2.2.2.2.1 + 16 = μ.1.length
def bz_and (x y : Int) : Int := (Int32.ofInt x &&& Int32.ofInt y).toInt
def bz_or (x y : Int) : Int := (Int32.ofInt x ||| Int32.ofInt y).toInt
def bz_shl (x y : Int) : Int := (Int32.ofInt x <<< (Int32.ofInt y &&& 31)).toInt
def bz_shr (x y : Int) : Int := (Int32.ofInt x >>> (Int32.ofInt y &&& 31)).toInt
def bz_ushr (x y : Int) : Int := (((Int32.ofInt x).toUInt32 >>> ((Int32.ofInt y).toUInt32 &&& Int32.toUInt32 31)).toInt32).toInt
def bz_lxor (x y : Int) : Int := (Int64.ofInt x ^^^ Int64.ofInt y).toInt
def bz_i2c (x : Int) : Int := x % 65536
def bz_i2b (x : Int) : Int := (x + 128) % 256 - 128
def bz_cmp (x y : Int) : Int := if x < y then -1 else if x = y then 0 else 1
/-- the number of slots of a class's objects -/
def bz_ns (c : Nat) : Nat := [0, 4, 4, 4, 7, 3, 2, 3, 6, 12, 33].getD c 0
/-- reads and writes -/
def bz_fI (μ : bz_M) (a c : Nat) (j : Int) (k : Int → Option bz_R) : Option bz_R := if gT μ a = c then k (gM μ a j) else none
def bz_fL (μ : bz_M) (a c : Nat) (j : Int) (k : Int → Option bz_R) : Option bz_R := if gT μ a = c then k (gG μ a j) else none
def bz_fR (μ : bz_M) (a c : Nat) (j : Int) (k : Nat → Option bz_R) : Option bz_R := if gT μ a = c ∧ gP μ a j ≠ 0 then k (gP μ a j) else none
def bz_fS (μ : bz_M) (a : Nat) (j : Int) (k : Int → Option bz_R) : Option bz_R := if gT μ a = 1 ∨ gT μ a = 2 ∨ gT μ a = 3 then k (gM μ a j) else none
def bz_pI (μ : bz_M) (a c : Nat) (j : Int) (v : Int) (k : bz_M → Option bz_R) : Option bz_R := if gT μ a = c then k (sM μ a j v) else none
def bz_pB (μ : bz_M) (a c : Nat) (j : Int) (v : Int) (k : bz_M → Option bz_R) : Option bz_R := if gT μ a = c ∧ (v = 0 ∨ v = 1) then k (sM μ a j v) else none
def bz_pL (μ : bz_M) (a c : Nat) (j : Int) (v : Int) (k : bz_M → Option bz_R) : Option bz_R := if gT μ a = c then k (sG μ a j v) else none
def bz_pR (μ : bz_M) (a c : Nat) (j : Int) (v : Nat) (k : bz_M → Option bz_R) : Option bz_R := if gT μ a = c ∧ 16 ≤ v then k (sP μ a j v) else none
def bz_pS (μ : bz_M) (a : Nat) (j : Int) (v : Int) (k : bz_M → Option bz_R) : Option bz_R := if gT μ a = 1 ∨ gT μ a = 2 ∨ gT μ a = 3 then k (sM μ a j v) else none
def bz_rI (μ : bz_M) (a : Nat) (i : Int) (k : Int → Option bz_R) : Option bz_R := if (gT μ a = 20 ∨ gT μ a = 21) ∧ 0 ≤ i ∧ i < gN μ a then k (gM μ a i) else none
def bz_rB (μ : bz_M) (a : Nat) (i : Int) (k : Int → Option bz_R) : Option bz_R := if (gT μ a = 22 ∨ gT μ a = 29) ∧ 0 ≤ i ∧ i < gN μ a then k (gM μ a i) else none
def bz_rL (μ : bz_M) (a : Nat) (i : Int) (k : Int → Option bz_R) : Option bz_R := if gT μ a = 23 ∧ 0 ≤ i ∧ i < gN μ a then k (gG μ a i) else none
def bz_rR (μ : bz_M) (a : Nat) (i : Int) (k : Nat → Option bz_R) : Option bz_R := if (24 ≤ gT μ a ∧ gT μ a ≤ 27) ∧ (0 ≤ i ∧ i < gN μ a) ∧ gP μ a i ≠ 0 then k (gP μ a i) else none
def bz_wI (μ : bz_M) (a : Nat) (i v : Int) (k : bz_M → Option bz_R) : Option bz_R := if gT μ a = 20 ∧ 0 ≤ i ∧ i < gN μ a then k (sM μ a i v) else none
def bz_wB (μ : bz_M) (a : Nat) (i v : Int) (k : bz_M → Option bz_R) : Option bz_R := if gT μ a = 22 ∧ (0 ≤ i ∧ i < gN μ a) ∧ (v = 0 ∨ v = 1) then k (sM μ a i v) else none
def bz_wL (μ : bz_M) (a : Nat) (i v : Int) (k : bz_M → Option bz_R) : Option bz_R := if gT μ a = 23 ∧ 0 ≤ i ∧ i < gN μ a then k (sG μ a i v) else none
def bz_wR (μ : bz_M) (a : Nat) (i : Int) (v : Nat) (k : bz_M → Option bz_R) : Option bz_R := if ((gT μ a = 24 ∧ gT μ v = 6) ∨ (gT μ a = 25 ∧ gT μ v = 4) ∨ (gT μ a = 26 ∧ (gT μ v = 1 ∨ gT μ v = 2 ∨ gT μ v = 3)) ∨ (gT μ a = 27 ∧ gT μ v = 8)) ∧ 0 ≤ i ∧ i < gN μ a then k (sP μ a i v) else none
def bz_al (μ : bz_M) (a : Nat) (k : Int → Option bz_R) : Option bz_R := if 20 ≤ gT μ a ∧ gT μ a ≠ 28 then k (gN μ a) else none
def bz_nw (μ : bz_M) (c : Nat) (k : Nat → bz_M → Option bz_R) : Option bz_R := if bz_cl μ then k μ.1.length (sA μ c (bz_ns c)) else none
def bz_na (μ : bz_M) (t : Nat) (n : Int) (k : Nat → bz_M → Option bz_R) : Option bz_R := if bz_cl μ ∧ 0 ≤ n ∧ n ≤ 10000 then k μ.1.length (sA μ t n.toNat) else none
/-- Object's constructor: of an object of the system -/
def bz_oi (μ : bz_M) (a : Nat) (k : Nat → Option bz_R) : Option bz_R := if 1 ≤ gT μ a ∧ gT μ a ≤ 10 then k a else none
def bz_dv (x y : Int) (k : Int → Option bz_R) : Option bz_R := if y = 0 then none else k (wr (x.tdiv y))
def bz_rm (x y : Int) (k : Int → Option bz_R) : Option bz_R := if y = 0 then none else k (x.tmod y)
def bz_ld (x y : Int) (k : Int → Option bz_R) : Option bz_R := if y = 0 then none else k (wl (x.tdiv y))
/-- a boolean's, a char's end -/
def bz_zB (x : Int) (μ : bz_M) : Option bz_R := if x = 0 ∨ x = 1 then some (.inl (zI x), μ) else none
def bz_zC (x : Int) (μ : bz_M) : Option bz_R := if 0 ≤ x ∧ x < 128 then some (.inl (zI x), μ) else none
/-- a call's answer, by its kind -/
def bz_ci (r : Option bz_R) (k : Int → bz_M → Option bz_R) : Option bz_R := match r with
  | some (.inl (.inl x), μ) => k x μ
  | some (.inr c, μ) => some (.inr c, μ)
  | _ => none
def bz_cj (r : Option bz_R) (k : Int → bz_M → Option bz_R) : Option bz_R := match r with
  | some (.inl (.inr (.inl x)), μ) => k x μ
  | some (.inr c, μ) => some (.inr c, μ)
  | _ => none
def bz_cr (r : Option bz_R) (k : Nat → bz_M → Option bz_R) : Option bz_R := match r with
  | some (.inl (.inr (.inr x)), μ) => k x μ
  | some (.inr c, μ) => some (.inr c, μ)
  | _ => none
def bz_cv (r : Option bz_R) (k : bz_M → Option bz_R) : Option bz_R := match r with
  | some (.inl _, μ) => k μ
  | some (.inr c, μ) => some (.inr c, μ)
  | _ => none
/-- a call that must not throw -/
def bz_cn (r : Option bz_R) (k : Int → bz_M → Option bz_R) : Option bz_R := match r with
  | some (.inl (.inl x), μ) => k x μ
  | _ => none
def bz_cu (r : Option bz_R) (k : bz_M → Option bz_R) : Option bz_R := match r with
  | some (.inl _, μ) => k μ
  | _ => none
/-- a call whose exceptions are caught -/
def bz_hi (r : Option bz_R) (k : Int → bz_M → Option bz_R) (h : Nat → bz_M → Option bz_R) : Option bz_R := match r with
  | some (.inl (.inl x), μ) => k x μ
  | some (.inr c, μ) => h c μ
  | _ => none
def bz_hv (r : Option bz_R) (k : bz_M → Option bz_R) (h : Nat → bz_M → Option bz_R) : Option bz_R := match r with
  | some (.inl _, μ) => k μ
  | some (.inr c, μ) => h c μ
  | _ => none
def bz_tg (ts : List (Nat × Nat)) (t : Nat) (f : Nat → Option bz_R) : Option bz_R := match ts with
  | [] => none
  | q :: ts => if t = q.1 then f q.2 else bz_tg ts t f
def bz_hh (hs : List (Nat × Nat)) (c : Nat) (f : Nat → Option bz_R) (g : Option bz_R) : Option bz_R := match hs with
  | [] => g
  | q :: hs => if c = q.1 then f q.2 else bz_hh hs c f g
/-- locals out of arguments -/
def bz_fl (vs : List bz_V) : List (Option bz_V) := match vs with
  | [] => []
  | .inl x :: vs => some (.inl x) :: bz_fl vs
  | .inr (.inl x) :: vs => some (.inr (.inl x)) :: none :: bz_fl vs
  | .inr (.inr x) :: vs => some (.inr (.inr x)) :: bz_fl vs
def bz_lo (ml : Nat) (vs : List bz_V) : List (Option bz_V) := bz_fl vs ++ List.replicate (ml - (bz_fl vs).length) none
def bz_cat (v : bz_V) : Nat := match v with
  | .inl _ => 1
  | .inr (.inl _) => 2
  | .inr (.inr _) => 1
def bz_sum (vs : List bz_V) : Nat := match vs with
  | [] => 0
  | v :: vs => bz_cat v + bz_sum vs
/-- what is kept of the locals at a cut: the live ones -/
def bz_mk (m : Nat) (L : List (Option bz_V)) : List (Option bz_V) := match L with
  | [] => []
  | x :: L => cond (Nat.beq (m % 2) 1) x none :: bz_mk (m / 2) L
/-- a jump: forward over d instructions; or a cut: to place t, with the mask m, as t * 2 ^ 24 + m -/
def bz_j (rec : bz_X0) (k : Nat) (ks : Nat → bz_K) (o : Int) : bz_K := match o with
  | .ofNat d => ks d
  | .negSucc t => fun L st μ => rec k (t / 16777216) (bz_mk (t % 16777216) L) st μ
def bz_if (c : ClassFile.Cond) (x y : Int) (a b : Option bz_R) : Option bz_R := match c with
  | .eq => if x = y then a else b
  | .ne => if x = y then b else a
  | .lt => if x < y then a else b
  | .ge => if x < y then b else a
  | .gt => if y < x then a else b
  | .le => if y < x then b else a
def bz_lkp (ps : List (Int × Int)) (x : Int) (f : Int → Option bz_R) (d : Int) : Option bz_R := match ps with
  | [] => f d
  | q :: ps => if x = q.1 then f q.2 else bz_lkp ps x f d
/-- a call table's row: the kinds of the values that it takes (0 int, 1 long, 2 reference), the kind of its answer, the targets by the receiver's tag (one with tag 0: no receiver is looked at), the handlers -/
abbrev bz_C : Type := List Nat × Nat × List (Nat × Nat) × List (Nat × Nat)
/-- the arguments are of these kinds -/
def bz_kk (vs : List bz_V) (ks : List Nat) : Bool := match vs, ks with
  | [], [] => true
  | .inl _ :: vs, k :: ks => Nat.beq k 0 && bz_kk vs ks
  | .inr (.inl _) :: vs, k :: ks => Nat.beq k 1 && bz_kk vs ks
  | .inr (.inr _) :: vs, k :: ks => Nat.beq k 2 && bz_kk vs ks
  | _, _ => false
/-- the callee's end, by the targets -/
def bz_tr (mls : List Nat) (rec : bz_X0) (ts : List (Nat × Nat)) (As : List bz_V) (μ : bz_M) : Option bz_R := match ts with
  | [(0, k)] => rec k 0 (bz_lo (mls.getD k 0) As) [] μ
  | _ => match As with
    | .inr (.inr a) :: _ => bz_tg ts (gT μ a) (fun k => rec k 0 (bz_lo (mls.getD k 0) As) [] μ)
    | _ => none
/-- what follows a call -/
def bz_rn (rv : Nat) (r : Option bz_R) (ks : Nat → bz_K) (L : List (Option bz_V)) (rest : List bz_V) : Option bz_R := match rv with
  | 0 => bz_cv r (fun μ => ks 0 L rest μ)
  | 1 => bz_ci r (fun x μ => ks 0 L (zI x :: rest) μ)
  | 2 => bz_cj r (fun x μ => ks 0 L (zL x :: rest) μ)
  | 3 => bz_cr r (fun x μ => ks 0 L (zR x :: rest) μ)
  | 4 => bz_cn r (fun x μ => ks 0 L (zI x :: rest) μ)
  | 5 => bz_cu r (fun μ => ks 0 L rest μ)
  | _ => none
def bz_rh (rv : Nat) (hs : List (Nat × Nat)) (r : Option bz_R) (ks : Nat → bz_K) (L : List (Option bz_V)) (rest : List bz_V) : Option bz_R := match rv with
  | 0 => bz_hv r (fun μ => ks 0 L rest μ) (fun c μ => bz_hh hs c (fun d => ks d L [zR 15] μ) none)
  | 1 => bz_hi r (fun x μ => ks 0 L (zI x :: rest) μ) (fun c μ => bz_hh hs c (fun d => ks d L [zR 15] μ) none)
  | _ => none
def bz_call (ct : List bz_C) (mls : List Nat) (rec : bz_X0) (q : Nat) (h : Bool) (ks : Nat → bz_K) : bz_K := fun L st μ =>
  match ct[q]? with
  | none => none
  | some (kd, rv, ts, hs) => cond (bz_kk (st.take kd.length).reverse kd && Nat.ble (bz_sum (st.drop kd.length)) 8)
      (cond h (bz_rh rv hs (bz_tr mls rec ts (st.take kd.length).reverse μ) ks L (st.drop kd.length)) (bz_rn rv (bz_tr mls rec ts (st.take kd.length).reverse μ) ks L (st.drop kd.length))) none
def bz_step (ct : List bz_C) (mls : List Nat) (rec : bz_X0) (k : Nat) (ins : Instr) (ks : Nat → bz_K) : bz_K := fun L st μ => match ins with
  | .iconst v => ks 0 L (zI v :: st) μ
  | .bipush v => ks 0 L (zL v :: st) μ
  | .ldc a => ks 0 L (zR a :: st) μ
  | .iload i => match L[i]? with
    | some (some (.inl x)) => ks 0 L (zI x :: st) μ
    | _ => none
  | .lload i => match L[i]? with
    | some (some (.inr (.inl x))) => ks 0 L (zL x :: st) μ
    | _ => none
  | .aload i => match L[i]? with
    | some (some (.inr (.inr a))) => ks 0 L (zR a :: st) μ
    | _ => none
  | .istore i => match st with
    | .inl x :: st => cond (Nat.ble i 999) (ks 0 (L.set i (some (zI x))) st μ) none
    | .inr (.inr a) :: st => cond (Nat.ble 1000 i) (ks 0 (L.set (i - 1000) (some (zR a))) st μ) none
    | _ => none
  | .lstore i => match st with
    | .inr (.inl x) :: st => ks 0 ((L.set i (some (zL x))).set (i + 1) none) st μ
    | _ => none
  | .iinc i c => match L[i]? with
    | some (some (.inl x)) => ks 0 (L.set i (some (zI (wr (x + c))))) st μ
    | _ => none
  | .iadd => match st with
    | .inl y :: .inl x :: st => ks 0 L (zI (wr (x + y)) :: st) μ
    | _ => none
  | .isub => match st with
    | .inl y :: .inl x :: st => ks 0 L (zI (wr (x - y)) :: st) μ
    | _ => none
  | .imul => match st with
    | .inl y :: .inl x :: st => ks 0 L (zI (wr (x * y)) :: st) μ
    | _ => none
  | .idiv => match st with
    | .inl y :: .inl x :: st => bz_dv x y (fun v => ks 0 L (zI v :: st) μ)
    | _ => none
  | .irem => match st with
    | .inl y :: .inl x :: st => bz_rm x y (fun v => ks 0 L (zI v :: st) μ)
    | _ => none
  | .ineg => match st with
    | .inl x :: st => ks 0 L (zI (wr (-x)) :: st) μ
    | _ => none
  | .iand => match st with
    | .inl y :: .inl x :: st => ks 0 L (zI (bz_and x y) :: st) μ
    | _ => none
  | .ior => match st with
    | .inl y :: .inl x :: st => ks 0 L (zI (bz_or x y) :: st) μ
    | _ => none
  | .ishl => match st with
    | .inl y :: .inl x :: st => ks 0 L (zI (bz_shl x y) :: st) μ
    | _ => none
  | .ishr => match st with
    | .inl y :: .inl x :: st => ks 0 L (zI (bz_shr x y) :: st) μ
    | _ => none
  | .iushr => match st with
    | .inl y :: .inl x :: st => ks 0 L (zI (bz_ushr x y) :: st) μ
    | _ => none
  | .ladd => match st with
    | .inr (.inl y) :: .inr (.inl x) :: st => ks 0 L (zL (wl (x + y)) :: st) μ
    | _ => none
  | .lsub => match st with
    | .inr (.inl y) :: .inr (.inl x) :: st => ks 0 L (zL (wl (x - y)) :: st) μ
    | _ => none
  | .lmul => match st with
    | .inr (.inl y) :: .inr (.inl x) :: st => ks 0 L (zL (wl (x * y)) :: st) μ
    | _ => none
  | .ldiv => match st with
    | .inr (.inl y) :: .inr (.inl x) :: st => bz_ld x y (fun v => ks 0 L (zL v :: st) μ)
    | _ => none
  | .lxor => match st with
    | .inr (.inl y) :: .inr (.inl x) :: st => ks 0 L (zL (bz_lxor x y) :: st) μ
    | _ => none
  | .lcmp => match st with
    | .inr (.inl y) :: .inr (.inl x) :: st => ks 0 L (zI (bz_cmp x y) :: st) μ
    | _ => none
  | .i2l => match st with
    | .inl x :: st => ks 0 L (zL x :: st) μ
    | _ => none
  | .l2i => match st with
    | .inr (.inl x) :: st => ks 0 L (zI (wr x) :: st) μ
    | _ => none
  | .i2c => match st with
    | .inl x :: st => ks 0 L (zI (bz_i2c x) :: st) μ
    | _ => none
  | .i2b => match st with
    | .inl x :: st => ks 0 L (zI (bz_i2b x) :: st) μ
    | _ => none
  | .dup => match st with
    | .inl x :: st => ks 0 L (zI x :: zI x :: st) μ
    | .inr (.inr a) :: st => ks 0 L (zR a :: zR a :: st) μ
    | _ => none
  | .pop => match st with
    | .inl _ :: st => ks 0 L st μ
    | .inr (.inr _) :: st => ks 0 L st μ
    | _ => none
  | .dup2 => match st with
    | .inl y :: .inr (.inr x) :: st => ks 0 L (zI y :: zR x :: zI y :: zR x :: st) μ
    | _ => none
  | .goto o => bz_j rec k ks o L st μ
  | .ifCond c o => match st with
    | .inl x :: st => bz_if c x 0 (bz_j rec k ks o L st μ) (ks 0 L st μ)
    | _ => none
  | .if_icmp c o => match st with
    | .inl y :: .inl x :: st => bz_if c x y (bz_j rec k ks o L st μ) (ks 0 L st μ)
    | _ => none
  | .getfield p => match st with
    | .inr (.inr a) :: st => bz_fI μ a (p / 100) ((p % 100 : Nat) : Int) (fun v => ks 0 L (zI v :: st) μ)
    | _ => none
  | .fload p => match st with
    | .inr (.inr a) :: st => bz_fL μ a (p / 100) ((p % 100 : Nat) : Int) (fun v => ks 0 L (zL v :: st) μ)
    | _ => none
  | .getstatic p => match st with
    | .inr (.inr a) :: st => bz_fR μ a (p / 100) ((p % 100 : Nat) : Int) (fun v => ks 0 L (zR v :: st) μ)
    | _ => none
  | .dload p => match st with
    | .inr (.inr a) :: st => bz_fS μ a (p : Int) (fun v => ks 0 L (zI v :: st) μ)
    | _ => none
  | .putfield p => match st with
    | .inl x :: .inr (.inr a) :: st => bz_pI μ a (p / 100) ((p % 100 : Nat) : Int) x (fun μ => ks 0 L st μ)
    | _ => none
  | .dstore p => match st with
    | .inl x :: .inr (.inr a) :: st => bz_pB μ a (p / 100) ((p % 100 : Nat) : Int) x (fun μ => ks 0 L st μ)
    | _ => none
  | .fstore p => match st with
    | .inr (.inl x) :: .inr (.inr a) :: st => bz_pL μ a (p / 100) ((p % 100 : Nat) : Int) x (fun μ => ks 0 L st μ)
    | _ => none
  | .astore p => match st with
    | .inr (.inr b) :: .inr (.inr a) :: st => bz_pR μ a (p / 100) ((p % 100 : Nat) : Int) b (fun μ => ks 0 L st μ)
    | _ => none
  | .putstatic p => match st with
    | .inl x :: .inr (.inr a) :: st => bz_pS μ a (p : Int) x (fun μ => ks 0 L st μ)
    | _ => none
  | .iaload => match st with
    | .inl i :: .inr (.inr a) :: st => bz_rI μ a i (fun v => ks 0 L (zI v :: st) μ)
    | _ => none
  | .baload => match st with
    | .inl i :: .inr (.inr a) :: st => bz_rB μ a i (fun v => ks 0 L (zI v :: st) μ)
    | _ => none
  | .laload => match st with
    | .inl i :: .inr (.inr a) :: st => bz_rL μ a i (fun v => ks 0 L (zL v :: st) μ)
    | _ => none
  | .aaload => match st with
    | .inl i :: .inr (.inr a) :: st => bz_rR μ a i (fun v => ks 0 L (zR v :: st) μ)
    | _ => none
  | .iastore => match st with
    | .inl x :: .inl i :: .inr (.inr a) :: st => bz_wI μ a i x (fun μ => ks 0 L st μ)
    | _ => none
  | .bastore => match st with
    | .inl x :: .inl i :: .inr (.inr a) :: st => bz_wB μ a i x (fun μ => ks 0 L st μ)
    | _ => none
  | .lastore => match st with
    | .inr (.inl x) :: .inl i :: .inr (.inr a) :: st => bz_wL μ a i x (fun μ => ks 0 L st μ)
    | _ => none
  | .aastore => match st with
    | .inr (.inr b) :: .inl i :: .inr (.inr a) :: st => bz_wR μ a i b (fun μ => ks 0 L st μ)
    | _ => none
  | .arraylength => match st with
    | .inr (.inr a) :: st => bz_al μ a (fun v => ks 0 L (zI v :: st) μ)
    | _ => none
  | .new c => bz_nw μ c (fun a μ => ks 0 L (zR a :: st) μ)
  | .anewarray t => match st with
    | .inl n :: st => bz_na μ t n (fun a μ => ks 0 L (zR a :: st) μ)
    | _ => none
  | .invokespecial _ => match st with
    | .inr (.inr a) :: st => cond (Nat.ble (bz_sum st) 8) (bz_oi μ a (fun _ => ks 0 L st μ)) none
    | _ => none
  | .invokevirtual q => bz_call ct mls rec q false ks L st μ
  | .checkcast q => bz_call ct mls rec q true ks L st μ
  | .ldc_w c => cond (Nat.ble (bz_sum st) 8) (some (.inr c, sX μ)) none
  | .ireturn => match st with
    | [.inl x] => some (.inl (zI x), μ)
    | _ => none
  | .dreturn => match st with
    | [.inl x] => bz_zB x μ
    | _ => none
  | .freturn => match st with
    | [.inl x] => bz_zC x μ
    | _ => none
  | .lreturn => match st with
    | [.inr (.inl x)] => some (.inl (zL x), μ)
    | _ => none
  | .areturn => match st with
    | [.inr (.inr a)] => some (.inl (zR a), μ)
    | _ => none
  | .return_ => match st with
    | [] => some (.inl (zI 0), μ)
    | _ => none
  | .tableswitch d lo hi os => match st with
    | .inl x :: st => if x < lo ∨ hi < x then bz_j rec k ks d L st μ else match os.toList[(x - lo).toNat]? with
      | some o => bz_j rec k ks o L st μ
      | none => none
    | _ => none
  | .lookupswitch d ps => match st with
    | .inl x :: st => bz_lkp ps.toList x (fun o => bz_j rec k ks o L st μ) d
    | _ => none
  | _ => none
/-- a block walked: the continuation at the d-th instruction of cs -/
noncomputable def bz_go (ct : List bz_C) (mls : List Nat) (rec : bz_X0) (k : Nat) (cs : List Instr) : Nat → bz_K :=
  List.rec (motive := fun _ => Nat → bz_K) (fun _ _ _ _ => none) (fun ins _ ih d => Nat.rec (motive := fun _ => bz_K) (bz_step ct mls rec k ins ih) (fun d' _ => ih d') d) cs
/-- the machine: n calls and back jumps deep -/
noncomputable def bz_Z (cds : List (List Instr)) (ct : List bz_C) (mls : List Nat) (n : Nat) : bz_X0 :=
  Nat.rec (motive := fun _ => bz_X0) (fun _ _ _ _ _ => none) (fun _ ih k i => bz_go ct mls ih k (cds.getD k []) i) n
abbrev rI (x : Int) (μ : bz_M) : Option bz_R := some (.inl (zI x), μ)
abbrev rL (x : Int) (μ : bz_M) : Option bz_R := some (.inl (zL x), μ)
abbrev rR (x : Nat) (μ : bz_M) : Option bz_R := some (.inl (zR x), μ)
abbrev rX (c : Nat) (μ : bz_M) : Option bz_R := some (.inr c, μ)
end
section
/-! THE CODE OF THE SMALL MACHINE: by program (wip/whole/tools) out of the Statement: a method a row -/
def ac_0 : List Instr := [.aload 0, .invokespecial 0, .aload 0, .iconst 60, .anewarray 20, .astore 900, .aload 0, .new 5, .dup, .invokevirtual 0, .astore 902, .aload 0, .iconst 24, .anewarray 24, .astore 903, .aload 0, .iconst 3, .anewarray 26, .dup, .iconst 0, .new 2, .dup, .invokevirtual 1, .aastore, .dup, .iconst 1, .new 3, .dup, .invokevirtual 2, .aastore, .dup, .iconst 2, .new 1, .dup, .invokevirtual 3, .aastore, .astore 905, .aload 0, .iconst 3, .anewarray 27, .dup, .iconst 0, .new 8, .dup, .invokevirtual 4, .aastore, .dup, .iconst 1, .new 8, .dup, .invokevirtual 4, .aastore, .dup, .iconst 2, .new 8, .dup, .invokevirtual 4, .aastore, .astore 906, .aload 0, .iconst 3, .anewarray 22, .dup, .iconst 0, .iconst 1, .bastore, .dup, .iconst 1, .iconst 0, .bastore, .dup, .iconst 2, .iconst 0, .bastore, .astore 907, .aload 0, .new 5, .dup, .invokevirtual 0, .astore 908, .aload 0, .new 5, .dup, .invokevirtual 0, .astore 909, .aload 0, .new 5, .dup, .invokevirtual 0, .astore 910, .aload 0, .new 7, .dup, .invokevirtual 5, .astore 911, .iconst 0, .istore 1, .goto (-1644167172), .iload 1, .iconst 24, .if_icmp .ge 9, .aload 0, .getstatic 903, .iload 1, .new 6, .dup, .invokevirtual 6, .aastore, .iinc 1 1, .goto (-1644167172), .return_]
def ac_1 : List Instr := [.aload 0, .invokespecial 0, .aload 0, .iconst 129, .anewarray 20, .astore 500, .return_]
def ac_2 : List Instr := [.aload 0, .iconst 3, .iconst 2, .iconst 4, .iconst 4, .invokevirtual 7, .return_]
def ac_3 : List Instr := [.aload 0, .invokespecial 0, .aload 0, .iload 1, .putstatic 0, .aload 0, .iload 2, .putstatic 1, .aload 0, .iload 3, .putstatic 2, .aload 0, .iload 4, .putstatic 3, .return_]
def ac_4 : List Instr := [.aload 0, .iconst 4, .iconst 2, .iconst 10, .iconst 7, .invokevirtual 7, .return_]
def ac_5 : List Instr := [.aload 0, .iconst 8, .iconst 6, .iconst 8, .iconst 14, .invokevirtual 7, .return_]
def ac_6 : List Instr := [.aload 0, .invokespecial 0, .aload 0, .iconst 320, .anewarray 20, .astore 800, .aload 0, .iconst 17, .anewarray 20, .astore 801, .aload 0, .iconst 16, .anewarray 20, .astore 802, .aload 0, .iconst 16, .anewarray 20, .astore 803, .return_]
def ac_7 : List Instr := [.aload 0, .invokespecial 0, .aload 0, .iconst 16, .anewarray 20, .astore 700, .aload 0, .iconst 16, .anewarray 20, .astore 701, .return_]
def ac_8 : List Instr := [.aload 0, .invokespecial 0, .aload 0, .new 5, .dup, .invokevirtual 0, .astore 600, .aload 0, .iconst 3, .anewarray 25, .dup, .iconst 0, .new 4, .dup, .invokevirtual 8, .aastore, .dup, .iconst 1, .new 4, .dup, .invokevirtual 8, .aastore, .dup, .iconst 2, .new 4, .dup, .invokevirtual 8, .aastore, .astore 601, .return_]
def ac_9 : List Instr := [.aload 0, .invokespecial 0, .aload 0, .new 7, .dup, .invokevirtual 5, .astore 400, .aload 0, .new 7, .dup, .invokevirtual 5, .astore 401, .aload 0, .new 7, .dup, .invokevirtual 5, .astore 402, .return_]
def ac_10 : List Instr := [.aload 0, .getfield 904, .ireturn]
def ac_11 : List Instr := [.iconst (-1), .istore 1, .iconst (-1), .istore 2, .iconst 0, .istore 3, .goto (-117440528), .iload 3, .iconst 3, .if_icmp .ge 20, .aload 0, .iload 3, .invokevirtual 9, .istore 1004, .aload 0, .aload 4, .iload 3, .invokevirtual 10, .ifCond .ne 9, .aload 4, .invokevirtual 11, .iload 2, .if_icmp .le 5, .iload 3, .istore 1, .aload 4, .invokevirtual 11, .istore 2, .iinc 3 1, .goto (-117440528), .iload 1, .ireturn]
def ac_12 : List Instr := [.iload 1, .invokevirtual 12, .aload 0, .getstatic 906, .iload 1, .aaload, .istore 1002, .aload 2, .getfield 805, .ifCond .eq 2, .aload 2, .areturn, .aload 0, .getstatic 905, .iload 1, .aaload, .istore 1003, .iconst 0, .istore 4, .goto (-335544352), .iload 4, .aload 0, .getfield 904, .if_icmp .ge 18, .aload 3, .aload 0, .getstatic 903, .iload 4, .aaload, .getstatic 600, .aload 0, .getstatic 909, .aload 0, .getstatic 903, .iload 4, .aaload, .getstatic 601, .iload 1, .aaload, .invokevirtual 13, .iinc 4 1, .goto (-335544352), .aload 2, .aload 3, .iload 1, .aload 0, .getstatic 903, .aload 0, .getfield 904, .invokevirtual 14, .aload 2, .areturn]
def ac_13 : List Instr := [.iload 0, .ifCond .lt 3, .iload 0, .iconst 3, .if_icmp .lt 5, .ldc_w 2, .dup, .nop, .nop, .nop, .return_]
def ac_14 : List Instr := [.aload 3, .getfield 403, .ifCond .eq 1, .return_, .aload 3, .iconst 1, .dstore 403, .aload 3, .invokevirtual 15, .aload 0, .aload 1, .aload 3, .invokevirtual 16, .ifCond .eq 1, .return_, .aload 2, .aload 1, .invokevirtual 17, .aload 0, .aload 2, .aload 3, .invokevirtual 16, .ifCond .eq 5, .aload 3, .aload 1, .getfield 501, .invokevirtual 18, .goto 11, .aload 0, .aload 1, .aload 3, .invokevirtual 19, .ifCond .ne 6, .aload 3, .aload 0, .aload 2, .aload 3, .invokevirtual 19, .dstore 404, .return_]
def ac_15 : List Instr := [.aload 0, .getstatic 400, .iconst 0, .putfield 702, .aload 0, .getstatic 401, .iconst 0, .putfield 702, .aload 0, .getstatic 402, .iconst 0, .putfield 702, .aload 0, .iconst 0, .dstore 404, .aload 0, .iconst 0, .putfield 405, .aload 0, .iconst 0, .putfield 406, .return_]
def ac_16 : List Instr := [.iconst 1, .istore 3, .goto (-50331664), .iload 3, .aload 1, .getfield 501, .if_icmp .ge 27, .aload 0, .aload 1, .iload 3, .invokevirtual 20, .ifCond .eq 7, .aload 0, .aload 1, .iload 3, .aload 2, .getstatic 400, .invokevirtual 21, .goto 1, .iconst (-1), .istore 4, .iload 4, .iconst (-1), .if_icmp .eq 8, .aload 2, .iload 3, .putfield 405, .aload 2, .iload 4, .putfield 406, .iconst 1, .dreturn, .iinc 3 2, .goto (-50331664), .aload 2, .getstatic 400, .iconst 0, .putfield 702, .iconst 0, .dreturn]
def ac_17 : List Instr := [.aload 1, .iload 2, .iconst 1, .iconst 7, .ldc 4, .invokevirtual 22, .iconst 16, .if_icmp .lt 10, .aload 1, .iload 2, .iconst 1, .isub, .iload 2, .iconst 7, .invokevirtual 23, .ifCond .eq 2, .iconst 1, .goto 1, .iconst 0, .dreturn]
def ac_18 : List Instr := [.iload 1, .iload 2, .iload 3, .iconst 1, .isub, .imul, .iadd, .istore 5, .iload 1, .ifCond .lt 7, .iload 5, .iload 1, .if_icmp .lt 4, .iload 5, .aload 0, .getfield 501, .if_icmp .lt 2, .iconst (-1), .ireturn, .aload 0, .getstatic 500, .iload 1, .iaload, .istore 6, .iload 6, .istore 7, .iload 1, .istore 8, .goto (-486539768), .iload 8, .iload 5, .if_icmp .gt 31, .aload 0, .getstatic 500, .iload 8, .iaload, .iload 6, .if_icmp .ge 5, .aload 0, .getstatic 500, .iload 8, .iaload, .goto 1, .iload 6, .istore 6, .aload 0, .getstatic 500, .iload 8, .iaload, .iload 7, .if_icmp .le 5, .aload 0, .getstatic 500, .iload 8, .iaload, .goto 1, .iload 7, .istore 7, .iload 8, .iload 2, .iadd, .istore 8, .goto (-486539768), .iconst 2, .iload 7, .imul, .iconst 3, .iload 6, .imul, .if_icmp .ge 2, .iconst (-1), .ireturn, .iconst 0, .istore 8, .iload 7, .istore 9, .iload 6, .istore 10, .iload 1, .istore 11, .goto (-1358958582), .iload 11, .iload 5, .if_icmp .gt 42, .aload 0, .getstatic 500, .iload 11, .iaload, .istore 12, .iconst 2, .iload 12, .imul, .iload 6, .iload 7, .iadd, .if_icmp .le 14, .iconst 2, .iload 8, .imul, .iconst 1, .iadd, .istore 8, .iload 12, .iload 9, .if_icmp .ge 2, .iload 12, .goto 1, .iload 9, .istore 9, .goto 11, .iconst 2, .iload 8, .imul, .istore 8, .iload 12, .iload 10, .if_icmp .le 2, .iload 12, .goto 1, .iload 10, .istore 10, .iload 11, .iload 2, .iadd, .istore 11, .goto (-1358958582), .iload 9, .iconst 1, .if_icmp .ge 2, .iconst 0, .goto 7, .iconst 150, .iload 9, .iload 10, .isub, .imul, .iload 9, .idiv, .istore 11, .aload 0, .iload 11, .iconst 100, .if_icmp .le 2, .iconst 100, .goto 1, .iload 11, .putfield 502, .iconst 0, .istore 12, .goto (-2516586769), .iload 12, .aload 4, .arraylength, .if_icmp .ge 9, .aload 4, .iload 12, .iaload, .iload 8, .if_icmp .ne 2, .iload 12, .ireturn, .iinc 12 1, .goto (-2516586769), .iconst (-1), .ireturn]
def ac_19 : List Instr := [.iload 1, .ifCond .lt 15, .iload 1, .aload 0, .getfield 501, .if_icmp .ge 11, .iload 2, .ifCond .lt 9, .iload 3, .iconst 1, .if_icmp .lt 6, .iload 2, .iload 3, .iadd, .aload 0, .getfield 501, .if_icmp .le 2, .iconst 0, .dreturn, .aload 0, .getstatic 500, .iload 2, .iaload, .istore 4, .iload 2, .istore 5, .goto (-452984896), .iload 5, .iload 2, .iload 3, .iadd, .if_icmp .ge 15, .aload 0, .getstatic 500, .iload 5, .iaload, .iload 4, .if_icmp .ge 5, .aload 0, .getstatic 500, .iload 5, .iaload, .goto 1, .iload 4, .istore 4, .iinc 5 1, .goto (-452984896), .aload 0, .getstatic 500, .iload 1, .iaload, .iconst 5, .iload 4, .imul, .if_icmp .lt 2, .iconst 1, .goto 1, .iconst 0, .dreturn]
def ac_20 : List Instr := [.aload 1, .iload 2, .iconst 3, .invokevirtual 24, .ifCond .eq 10, .aload 1, .iload 2, .iconst 1, .isub, .iload 2, .iconst 3, .invokevirtual 23, .ifCond .eq 2, .iconst 1, .goto 1, .iconst 0, .dreturn]
def ac_21 : List Instr := [.iload 1, .ifCond .lt 9, .iload 2, .iconst 1, .if_icmp .lt 6, .iload 1, .iload 2, .iadd, .aload 0, .getfield 501, .if_icmp .le 2, .iconst 0, .dreturn, .aload 0, .getstatic 500, .iload 1, .iaload, .istore 3, .iload 3, .istore 4, .iload 1, .istore 5, .goto (-385876032), .iload 5, .iload 1, .iload 2, .iadd, .if_icmp .ge 28, .aload 0, .getstatic 500, .iload 5, .iaload, .iload 3, .if_icmp .ge 5, .aload 0, .getstatic 500, .iload 5, .iaload, .goto 1, .iload 3, .istore 3, .aload 0, .getstatic 500, .iload 5, .iaload, .iload 4, .if_icmp .le 5, .aload 0, .getstatic 500, .iload 5, .iaload, .goto 1, .iload 4, .istore 4, .iinc 5 1, .goto (-385876032), .iload 4, .iconst 2, .iload 3, .imul, .if_icmp .gt 2, .iconst 1, .goto 1, .iconst 0, .dreturn]
def ac_22 : List Instr := [.aload 1, .iload 2, .iconst 4, .invokevirtual 24, .ifCond .eq 10, .aload 1, .iload 2, .iconst 1, .isub, .iload 2, .iconst 4, .invokevirtual 23, .ifCond .eq 2, .iconst 1, .goto 1, .iconst 0, .dreturn]
def ac_23 : List Instr := [.aload 3, .iconst 0, .putfield 702, .iload 2, .aload 0, .dload 0, .iadd, .istore 4, .iconst 0, .istore 5, .goto (-184549436), .iload 5, .iconst 8, .if_icmp .ge 26, .iload 5, .iconst 4, .if_icmp .ne 8, .aload 1, .iload 4, .iconst 5, .invokevirtual 24, .ifCond .ne 2, .iconst (-1), .ireturn, .iinc 4 5, .aload 0, .aload 1, .iload 4, .aload 3, .invokevirtual 25, .ifCond .ne 2, .iconst (-1), .ireturn, .iload 4, .aload 0, .dload 2, .iadd, .istore 4, .iinc 5 1, .goto (-184549436), .aload 0, .aload 1, .iload 4, .aload 0, .dload 1, .iadd, .invokevirtual 26, .ifCond .eq 5, .iload 4, .aload 0, .dload 1, .iadd, .goto 1, .iconst (-1), .ireturn]
def ac_24 : List Instr := [.aload 1, .iload 2, .iconst 4, .invokevirtual 27, .ifCond .ne 2, .iconst 0, .dreturn, .aload 1, .getstatic 500, .iload 2, .iaload, .aload 1, .getstatic 500, .iload 2, .iconst 1, .iadd, .iaload, .iadd, .istore 4, .aload 1, .getstatic 500, .iload 2, .iconst 1, .iadd, .iaload, .aload 1, .getstatic 500, .iload 2, .iconst 2, .iadd, .iaload, .iadd, .istore 5, .iload 4, .aload 1, .getstatic 500, .iload 2, .iconst 2, .iadd, .iaload, .iadd, .aload 1, .getstatic 500, .iload 2, .iconst 3, .iadd, .iaload, .iadd, .istore 6, .iload 6, .iconst 1, .if_icmp .ge 2, .iconst 0, .dreturn, .iconst 14, .iload 4, .imul, .iload 6, .iadd, .iconst 2, .iload 6, .imul, .idiv, .istore 7, .iconst 14, .iload 5, .imul, .iload 6, .iadd, .iconst 2, .iload 6, .imul, .idiv, .istore 8, .iconst 7, .aload 1, .getstatic 500, .iload 2, .iaload, .aload 1, .getstatic 500, .iload 2, .iconst 2, .iadd, .iaload, .iadd, .imul, .iconst 3, .iload 6, .imul, .if_icmp .lt 2, .iconst 1, .goto 1, .iconst 0, .istore 9, .iload 7, .iload 8, .iload 9, .invokevirtual 28, .istore 10, .iload 10, .iconst (-1), .if_icmp .ne 2, .iconst 0, .dreturn, .iconst 7, .iload 4, .imul, .iload 7, .iload 6, .imul, .isub, .invokevirtual 29, .iconst 7, .iload 5, .imul, .iload 8, .iload 6, .imul, .isub, .invokevirtual 29, .invokevirtual 30, .istore 11, .aload 3, .iload 10, .iconst 100, .iconst 200, .iload 11, .imul, .iload 6, .idiv, .isub, .invokevirtual 31, .iconst 1, .dreturn]
def ac_25 : List Instr := [.iload 1, .ifCond .lt 8, .iload 1, .iload 2, .iadd, .aload 0, .getfield 501, .if_icmp .gt 2, .iconst 1, .goto 1, .iconst 0, .dreturn]
def ac_26 : List Instr := [.iconst 10, .iload 0, .imul, .iload 1, .iadd, .lookupswitch 24 #[(22, 20), (24, 16), (33, 8), (35, 18), (42, 22), (44, 2), (53, 0), (55, 14)], .iconst 0, .ireturn, .iload 2, .ifCond .eq 2, .iconst 1, .goto 1, .iconst 7, .ireturn, .iload 2, .ifCond .eq 2, .iconst 2, .goto 1, .iconst 8, .ireturn, .iconst 3, .ireturn, .iconst 4, .ireturn, .iconst 5, .ireturn, .iconst 6, .ireturn, .iconst 9, .ireturn, .iconst (-1), .ireturn]
def ac_27 : List Instr := [.iload 0, .ifCond .ge 3, .iload 0, .ineg, .goto 1, .iload 0, .ireturn]
def ac_28 : List Instr := [.iload 0, .iload 1, .if_icmp .lt 2, .iload 0, .goto 1, .iload 1, .ireturn]
def ac_29 : List Instr := [.aload 0, .getfield 702, .aload 0, .getstatic 700, .arraylength, .if_icmp .ge 18, .aload 0, .getstatic 700, .aload 0, .getfield 702, .iload 1, .iastore, .aload 0, .getstatic 701, .aload 0, .getfield 702, .iload 2, .iastore, .aload 0, .dup, .getfield 702, .iconst 1, .iadd, .putfield 702, .return_]
def ac_30 : List Instr := [.aload 1, .iload 2, .iconst 2, .isub, .iconst 3, .invokevirtual 24, .ifCond .eq 12, .aload 1, .iload 2, .iconst 1, .iadd, .iload 2, .iconst 2, .isub, .iconst 3, .invokevirtual 23, .ifCond .eq 2, .iconst 1, .goto 1, .iconst 0, .dreturn]
def ac_31 : List Instr := [.aload 3, .iconst 0, .putfield 702, .aload 0, .aload 1, .iload 2, .aload 3, .invokevirtual 32, .iload 2, .aload 0, .dload 0, .iadd, .istore 4, .iconst 0, .istore 5, .goto (-268435516), .iload 5, .aload 0, .dload 3, .if_icmp .ge 31, .aload 0, .aload 1, .iload 4, .aload 3, .invokevirtual 33, .ifCond .eq 25, .iload 4, .aload 0, .dload 2, .iadd, .istore 4, .aload 0, .aload 1, .iload 4, .aload 0, .dload 1, .iadd, .invokevirtual 34, .ifCond .eq 10, .aload 0, .aload 1, .iload 4, .aload 3, .invokevirtual 32, .iload 4, .aload 0, .dload 1, .iadd, .ireturn, .iinc 5 1, .goto (-268435516), .iconst (-1), .ireturn]
def ac_32 : List Instr := [.aload 1, .iload 2, .iconst 1, .iconst 7, .ldc 4, .invokevirtual 22, .istore 4, .iload 4, .iconst 16, .if_icmp .lt 5, .aload 3, .iload 4, .aload 1, .getfield 502, .invokevirtual 31, .return_]
def ac_33 : List Instr := [.return_]
def ac_34 : List Instr := [.aload 1, .iload 2, .iconst 1, .iconst 7, .ldc 4, .invokevirtual 22, .istore 4, .iload 4, .ifCond .lt 3, .iload 4, .iconst 16, .if_icmp .lt 2, .iconst 0, .dreturn, .aload 3, .iload 4, .aload 1, .getfield 502, .invokevirtual 31, .iconst 1, .dreturn]
def ac_35 : List Instr := [.aload 1, .iload 2, .iconst 2, .iconst 5, .ldc 3, .invokevirtual 22, .istore 4, .aload 1, .getfield 502, .istore 5, .aload 1, .iload 2, .iconst 1, .iadd, .iconst 2, .iconst 5, .ldc 3, .invokevirtual 22, .istore 6, .iload 4, .iconst (-1), .if_icmp .eq 3, .iload 6, .iconst (-1), .if_icmp .ne 2, .iconst 0, .dreturn, .aload 3, .iload 4, .iload 5, .invokevirtual 31, .aload 3, .iload 6, .aload 1, .getfield 502, .invokevirtual 31, .iconst 1, .dreturn]
def ac_36 : List Instr := [.aload 1, .iload 2, .iconst 6, .isub, .iconst 1, .iconst 7, .ldc 4, .invokevirtual 22, .iconst 16, .if_icmp .lt 12, .aload 1, .iload 2, .iconst 1, .iadd, .iload 2, .iconst 6, .isub, .iconst 7, .invokevirtual 23, .ifCond .eq 2, .iconst 1, .goto 1, .iconst 0, .dreturn]
def ac_37 : List Instr := [.aload 1, .iload 2, .iconst 2, .isub, .iconst 3, .invokevirtual 27, .ifCond .ne 2, .iconst 0, .dreturn, .iconst 2, .aload 1, .getstatic 500, .iload 2, .iconst 2, .isub, .iaload, .imul, .istore 3, .iload 3, .iconst 3, .aload 1, .getstatic 500, .iload 2, .iconst 1, .isub, .iaload, .imul, .if_icmp .lt 20, .iload 3, .iconst 3, .aload 1, .getstatic 500, .iload 2, .iaload, .imul, .if_icmp .lt 12, .aload 1, .iload 2, .iconst 1, .iadd, .iload 2, .iconst 2, .isub, .iconst 3, .invokevirtual 23, .ifCond .eq 2, .iconst 1, .goto 1, .iconst 0, .dreturn]
def ac_38 : List Instr := [.aload 0, .aload 1, .getfield 501, .putfield 501, .iconst 0, .istore 2, .goto (-117440520), .iload 2, .aload 0, .getfield 501, .if_icmp .ge 15, .aload 0, .getstatic 500, .iload 2, .aload 1, .getstatic 500, .aload 0, .getfield 501, .iconst 1, .isub, .iload 2, .isub, .iaload, .iastore, .iinc 2 1, .goto (-117440520), .return_]
def ac_39 : List Instr := [.aload 0, .getfield 405, .istore 2, .aload 0, .iload 1, .iconst 1, .isub, .aload 0, .getfield 406, .isub, .putfield 405, .aload 0, .iload 1, .iconst 1, .isub, .iload 2, .isub, .putfield 406, .aload 0, .iconst 1, .dstore 404, .return_]
def ac_40 : List Instr := [.aload 2, .getstatic 401, .istore 1003, .aload 3, .iconst 0, .putfield 702, .iconst 1, .istore 4, .goto (-150994976), .iload 4, .aload 1, .getfield 501, .if_icmp .ge 19, .aload 3, .getfield 702, .iconst 2, .if_icmp .ge 15, .aload 3, .iconst 0, .putfield 702, .aload 0, .aload 1, .iload 4, .invokevirtual 20, .ifCond .eq 5, .aload 0, .aload 1, .iload 4, .aload 3, .invokevirtual 35, .iinc 4 2, .goto (-150994976), .aload 2, .getstatic 402, .istore 1004, .aload 4, .iconst 0, .putfield 702, .aload 1, .getfield 501, .iconst 2, .isub, .istore 5, .goto (-738197564), .iload 5, .ifCond .le 19, .aload 4, .getfield 702, .iconst 2, .if_icmp .ge 15, .aload 4, .iconst 0, .putfield 702, .aload 0, .aload 1, .iload 5, .invokevirtual 34, .ifCond .eq 5, .aload 0, .aload 1, .iload 5, .aload 4, .invokevirtual 36, .iinc 5 (-2), .goto (-738197564), .aload 3, .aload 3, .getfield 702, .iconst 2, .if_icmp .ge 2, .iconst 0, .goto 2, .aload 3, .getfield 702, .putfield 702, .aload 4, .aload 4, .getfield 702, .iconst 2, .if_icmp .ge 2, .iconst 0, .goto 2, .aload 4, .getfield 702, .putfield 702, .aload 3, .getfield 702, .ifCond .gt 3, .aload 4, .getfield 702, .ifCond .le 2, .iconst 1, .goto 1, .iconst 0, .dreturn]
def ac_41 : List Instr := [.aload 0, .aload 1, .iload 2, .aload 3, .invokevirtual 32, .iload 2, .aload 0, .dload 0, .iadd, .istore 4, .iconst 0, .istore 5, .goto (-218103868), .iload 5, .aload 0, .dload 3, .if_icmp .ge 13, .aload 0, .aload 1, .iload 4, .aload 3, .invokevirtual 33, .ifCond .eq 7, .iload 4, .aload 0, .dload 2, .iadd, .istore 4, .iinc 5 1, .goto (-218103868), .return_]
def ac_42 : List Instr := [.iload 2, .aload 0, .dload 1, .isub, .istore 4, .iconst 0, .istore 5, .goto (-134217788), .iload 5, .aload 0, .dload 3, .if_icmp .ge 16, .aload 0, .aload 1, .iload 4, .aload 0, .dload 2, .isub, .aload 3, .invokevirtual 33, .ifCond .eq 7, .iload 4, .aload 0, .dload 2, .isub, .istore 4, .iinc 5 1, .goto (-134217788), .aload 3, .iconst 0, .putfield 702, .iconst 0, .istore 6, .goto (-570425468), .iload 6, .iload 5, .if_icmp .ge 13, .aload 0, .aload 1, .iload 4, .aload 3, .invokevirtual 33, .pop, .iload 4, .aload 0, .dload 2, .iadd, .istore 4, .iinc 6 1, .goto (-570425468), .aload 0, .aload 1, .iload 4, .aload 3, .invokevirtual 32, .return_]
def ac_43 : List Instr := [.aload 0, .aload 0, .iload 2, .aload 3, .iload 4, .invokevirtual 37, .putfield 804, .aload 0, .getfield 804, .ifCond .ne 7, .aload 0, .aload 1, .iload 2, .aload 3, .iload 4, .invokevirtual 38, .putfield 804, .iconst 0, .istore 5, .goto (-335544382), .iload 5, .aload 0, .getstatic 800, .arraylength, .if_icmp .ge 7, .aload 0, .getstatic 800, .iload 5, .iconst 0, .iastore, .iinc 5 1, .goto (-335544382), .iconst 0, .istore 5, .goto (-587202622), .iload 5, .aload 0, .getstatic 802, .arraylength, .if_icmp .ge 7, .aload 0, .getstatic 802, .iload 5, .iconst 0, .iastore, .iinc 5 1, .goto (-587202622), .iconst 0, .istore 5, .goto (-838860862), .iload 5, .iload 4, .if_icmp .ge 10, .aload 0, .aload 3, .iload 5, .aaload, .getstatic 601, .iload 2, .aaload, .invokevirtual 39, .iinc 5 1, .goto (-838860862), .iconst 0, .istore 5, .goto (-1107296290), .iload 5, .iconst 16, .if_icmp .ge 9, .aload 0, .getstatic 803, .iload 5, .aload 0, .iload 5, .invokevirtual 40, .iastore, .iinc 5 1, .goto (-1107296290), .aload 0, .iconst 1, .dstore 805, .return_]
def ac_44 : List Instr := [.iconst 0, .istore 4, .goto (-50331680), .iload 4, .aload 0, .getstatic 801, .arraylength, .if_icmp .ge 7, .aload 0, .getstatic 801, .iload 4, .iconst 0, .iastore, .iinc 4 1, .goto (-50331680), .iconst 0, .istore 4, .goto (-301989920), .iload 4, .iload 3, .if_icmp .ge 31, .aload 2, .iload 4, .aaload, .getstatic 601, .iload 1, .aaload, .getstatic 400, .istore 1005, .aload 5, .getfield 702, .ifCond .le 18, .aload 5, .getfield 702, .aload 0, .getstatic 801, .arraylength, .if_icmp .ge 12, .aload 0, .getstatic 801, .aload 5, .getfield 702, .dup2, .iaload, .iconst 1, .aload 5, .invokevirtual 41, .iadd, .iadd, .iastore, .iinc 4 1, .goto (-301989920), .iconst 0, .istore 4, .iconst 1, .istore 5, .goto (-956301362), .iload 5, .aload 0, .getstatic 801, .arraylength, .if_icmp .ge 13, .aload 0, .getstatic 801, .iload 5, .iaload, .aload 0, .getstatic 801, .iload 4, .iaload, .if_icmp .le 2, .iload 5, .istore 4, .iinc 5 1, .goto (-956301362), .iload 4, .ireturn]
def ac_45 : List Instr := [.iconst 100, .istore 1, .iconst 0, .istore 2, .goto (-83886088), .iload 2, .aload 0, .getfield 702, .if_icmp .ge 9, .iload 1, .aload 0, .getstatic 701, .iload 2, .iaload, .invokevirtual 42, .istore 1, .iinc 2 1, .goto (-83886088), .iload 1, .ireturn]
def ac_46 : List Instr := [.iload 0, .iload 1, .if_icmp .gt 2, .iload 0, .goto 1, .iload 1, .ireturn]
def ac_47 : List Instr := [.iconst 0, .istore 4, .iconst 0, .istore 5, .iconst 0, .istore 6, .goto (-117440639), .iload 6, .iload 3, .if_icmp .ge 32, .iload 4, .ifCond .ne 9, .aload 2, .iload 6, .aaload, .getstatic 601, .iload 1, .aaload, .getstatic 401, .getfield 702, .ifCond .le 2, .iconst 1, .goto 1, .iconst 0, .istore 4, .iload 5, .ifCond .ne 9, .aload 2, .iload 6, .aaload, .getstatic 601, .iload 1, .aaload, .getstatic 402, .getfield 702, .ifCond .le 2, .iconst 1, .goto 1, .iconst 0, .istore 5, .iinc 6 1, .goto (-117440639), .iload 4, .ifCond .eq 4, .iload 5, .ifCond .eq 2, .iconst 8, .goto 1, .iconst 0, .ireturn]
def ac_48 : List Instr := [.iconst (-1), .istore 4, .iconst 0, .istore 5, .iconst 0, .istore 6, .goto (-117440640), .iload 6, .iload 3, .if_icmp .ge 49, .aload 2, .iload 6, .aaload, .getstatic 601, .iload 1, .aaload, .getstatic 401, .istore 1007, .iconst 0, .istore 8, .goto (-352322048), .iload 8, .iload 3, .if_icmp .ge 33, .aload 2, .iload 8, .aaload, .getstatic 601, .iload 1, .aaload, .getstatic 402, .istore 1009, .iload 6, .iload 8, .if_icmp .ne 2, .iconst (-1), .goto 4, .aload 0, .aload 7, .aload 9, .invokevirtual 43, .istore 10, .iload 10, .iload 4, .if_icmp .le 10, .iload 10, .istore 4, .aload 7, .getfield 702, .aload 9, .getfield 702, .iadd, .iload 10, .isub, .istore 5, .iinc 8 1, .goto (-352322048), .iinc 6 1, .goto (-117440640), .iload 5, .ireturn]
def ac_49 : List Instr := [.aload 1, .getfield 702, .iconst 4, .if_icmp .ne 6, .aload 2, .getfield 702, .iconst 4, .if_icmp .ne 2, .iconst 0, .goto 1, .iconst (-1), .ireturn]
def ac_50 : List Instr := [.aload 1, .getfield 702, .aload 2, .getfield 702, .invokevirtual 42, .istore 3, .goto (-117440528), .iload 3, .iconst 2, .if_icmp .lt 19, .aload 1, .aload 2, .iload 3, .invokevirtual 44, .ifCond .eq 12, .aload 0, .aload 1, .getfield 702, .aload 2, .getfield 702, .iadd, .iload 3, .isub, .invokevirtual 45, .ifCond .eq 2, .iload 3, .ireturn, .iinc 3 (-1), .goto (-117440528), .iconst (-1), .ireturn]
def ac_51 : List Instr := [.iload 2, .ifCond .lt 8, .iload 2, .aload 0, .getfield 702, .if_icmp .gt 4, .iload 2, .aload 1, .getfield 702, .if_icmp .le 2, .iconst 0, .dreturn, .iconst 0, .istore 3, .goto (-251658256), .iload 3, .iload 2, .if_icmp .ge 18, .aload 0, .getstatic 700, .aload 0, .getfield 702, .iload 2, .isub, .iload 3, .iadd, .iaload, .aload 1, .getstatic 700, .iload 3, .iaload, .if_icmp .eq 2, .iconst 0, .dreturn, .iinc 3 1, .goto (-251658256), .iconst 1, .dreturn]
def ac_52 : List Instr := [.iload 1, .iconst 3, .if_icmp .lt 5, .iload 1, .iconst 16, .if_icmp .gt 2, .iconst 1, .goto 1, .iconst 0, .dreturn]
def ac_53 : List Instr := [.iload 1, .iconst 8, .if_icmp .ne 2, .iconst 1, .goto 1, .iconst 0, .dreturn]
def ac_54 : List Instr := [.iload 1, .iconst 2, .if_icmp .lt 9, .iload 1, .iconst 14, .if_icmp .gt 6, .iload 1, .iconst 2, .irem, .ifCond .ne 2, .iconst 1, .goto 1, .iconst 0, .dreturn]
def ac_55 : List Instr := [.aload 1, .getstatic 400, .getfield 702, .aload 0, .getfield 804, .if_icmp .ne 5, .aload 0, .aload 1, .getstatic 400, .iconst 0, .invokevirtual 46, .aload 1, .getstatic 401, .getfield 702, .aload 0, .getfield 804, .if_icmp .gt 5, .aload 0, .aload 1, .getstatic 401, .iconst 0, .invokevirtual 46, .aload 1, .getstatic 402, .getfield 702, .aload 0, .getfield 804, .if_icmp .gt 10, .aload 0, .aload 1, .getstatic 402, .aload 0, .getfield 804, .aload 1, .getstatic 402, .getfield 702, .isub, .invokevirtual 46, .return_]
def ac_56 : List Instr := [.iconst 0, .istore 3, .goto (-50331664), .iload 3, .aload 1, .getfield 702, .if_icmp .ge 53, .iload 2, .iload 3, .iadd, .istore 4, .iload 4, .iconst 20, .imul, .aload 1, .getstatic 700, .iload 3, .iaload, .iadd, .istore 5, .iload 4, .ifCond .lt 36, .iload 4, .iconst 16, .if_icmp .ge 33, .iload 5, .ifCond .lt 31, .iload 5, .aload 0, .getstatic 800, .arraylength, .if_icmp .ge 26, .aload 0, .getstatic 800, .iload 5, .dup2, .iaload, .iconst 1, .aload 1, .getstatic 701, .iload 3, .iaload, .iadd, .iadd, .iastore, .aload 0, .getstatic 802, .iload 4, .dup2, .iaload, .iconst 1, .aload 1, .getstatic 701, .iload 3, .iaload, .iadd, .iadd, .iastore, .iinc 3 1, .goto (-50331664), .return_]
def ac_57 : List Instr := [.iconst 0, .istore 2, .goto (-50331656), .iload 2, .iconst 20, .if_icmp .ge 15, .iconst 2, .aload 0, .iload 1, .iload 2, .invokevirtual 47, .imul, .aload 0, .getstatic 802, .iload 1, .iaload, .if_icmp .le 2, .iload 2, .ireturn, .iinc 2 1, .goto (-50331656), .iconst (-1), .ireturn]
def ac_58 : List Instr := [.iload 1, .iconst 20, .imul, .iload 2, .iadd, .istore 3, .iload 1, .ifCond .lt 10, .iload 1, .iconst 16, .if_icmp .ge 7, .iload 2, .ifCond .lt 5, .iload 2, .iconst 20, .if_icmp .ge 2, .iconst 1, .goto 1, .iconst 0, .istore 4, .iload 4, .ifCond .eq 5, .aload 0, .getstatic 800, .iload 3, .iaload, .goto 1, .iconst 0, .ireturn]
def ac_59 : List Instr := [.aload 1, .getfield 804, .ifCond .ne 2, .iconst 1, .ireturn, .aload 1, .invokevirtual 48, .ifCond .le 2, .iconst 2, .ireturn, .aload 0, .getstatic 911, .aload 1, .getstatic 803, .aload 1, .getfield 804, .invokevirtual 49, .aload 0, .getstatic 907, .iload 2, .baload, .ifCond .eq 10, .aload 0, .getstatic 905, .iload 2, .aaload, .aload 0, .getstatic 911, .invokevirtual 50, .ifCond .ne 2, .iconst 3, .goto 1, .iconst 0, .ireturn]
def ac_60 : List Instr := [.iconst 0, .istore 1, .iconst 0, .istore 2, .goto (-83886088), .iload 2, .aload 0, .getfield 804, .if_icmp .ge 9, .aload 0, .getstatic 803, .iload 2, .iaload, .iconst (-1), .if_icmp .ne 1, .iinc 1 1, .iinc 2 1, .goto (-83886088), .iload 1, .ireturn]
def ac_61 : List Instr := [.aload 0, .iconst 0, .putfield 702, .iconst 0, .istore 3, .goto (-100663312), .iload 3, .iload 2, .if_icmp .ge 12, .iload 3, .aload 1, .arraylength, .if_icmp .ge 8, .aload 0, .aload 1, .iload 3, .iaload, .iconst 0, .invokevirtual 31, .iinc 3 1, .goto (-100663312), .return_]
def ac_62 : List Instr := [.iconst 0, .istore 2, .iconst 0, .istore 3, .goto (-83886095), .iload 3, .aload 1, .getfield 702, .if_icmp .ge 9, .iload 2, .aload 1, .getstatic 700, .iload 3, .iaload, .iadd, .istore 2, .iinc 3 1, .goto (-83886095), .iload 2, .iconst 16, .irem, .ifCond .ne 2, .iconst 1, .goto 1, .iconst 0, .dreturn]
def ac_63 : List Instr := [.iconst 0, .istore 2, .iconst 0, .istore 3, .goto (-83886095), .iload 3, .aload 1, .getfield 702, .if_icmp .ge 20, .iload 2, .iload 3, .iconst 2, .irem, .ifCond .ne 7, .iconst 3, .aload 1, .getstatic 700, .iload 3, .iaload, .imul, .goto 4, .aload 1, .getstatic 700, .iload 3, .iaload, .iadd, .istore 2, .iinc 3 1, .goto (-83886095), .iload 2, .iconst 10, .irem, .ifCond .ne 2, .iconst 1, .goto 1, .iconst 0, .dreturn]
def ac_64 : List Instr := [.iconst 100, .istore 1, .iconst 0, .istore 2, .goto (-83886088), .iload 2, .aload 0, .getfield 804, .if_icmp .ge 26, .aload 0, .getstatic 802, .iload 2, .iaload, .ifCond .le 19, .iconst 100, .aload 0, .iload 2, .aload 0, .getstatic 803, .iload 2, .iaload, .invokevirtual 47, .imul, .aload 0, .getstatic 802, .iload 2, .iaload, .idiv, .istore 3, .iload 1, .iload 3, .invokevirtual 42, .istore 1, .iinc 2 1, .goto (-83886088), .iload 1, .ireturn]
def ac_65 : List Instr := [.aload 6, .iconst 0, .aload 0, .iload 1, .iload 2, .iload 3, .iload 4, .iload 5, .checkcast 51, .i2l, .lastore, .goto 3, .istore 1007, .iconst 1, .ireturn, .iconst 0, .ireturn]
def ac_66 : List Instr := [.aload 0, .getfield 901, .iconst 20, .iadd, .iconst 60, .if_icmp .le 5, .ldc_w 1, .dup, .nop, .nop, .nop, .aload 0, .iload 1, .invokevirtual 52, .aload 0, .iload 2, .invokevirtual 52, .aload 0, .iload 3, .invokevirtual 52, .aload 0, .iload 4, .invokevirtual 52, .aload 0, .iload 5, .invokevirtual 52, .aload 0, .getfield 901, .ireturn]
def ac_67 : List Instr := [.iconst 24, .istore 2, .goto (-50331656), .iload 2, .ifCond .lt 22, .aload 0, .getfield 901, .iconst 60, .if_icmp .ge 18, .aload 0, .getstatic 900, .aload 0, .getfield 901, .iload 1, .iload 2, .iushr, .iconst 255, .iand, .iastore, .aload 0, .dup, .getfield 901, .iconst 1, .iadd, .putfield 901, .iinc 2 (-8), .goto (-50331656), .return_]
def ac_68 : List Instr := [.aload 6, .iconst 0, .aload 0, .iload 1, .iload 2, .iload 3, .iload 4, .iload 5, .checkcast 53, .i2l, .lastore, .goto 9, .istore 1007, .iconst 1, .ireturn, .istore 1007, .iconst 2, .ireturn, .istore 1007, .iconst 3, .ireturn, .iconst 0, .ireturn]
def ac_69 : List Instr := [.iload 1, .invokevirtual 12, .aload 0, .iload 2, .invokevirtual 54, .iload 3, .iconst 4, .if_icmp .lt 9, .iload 3, .iconst 40, .if_icmp .gt 6, .iload 4, .iconst (-3), .if_icmp .lt 3, .iload 4, .iconst 3, .if_icmp .le 5, .ldc_w 3, .dup, .nop, .nop, .nop, .aload 0, .getstatic 905, .iload 1, .aaload, .istore 1006, .aload 0, .iload 2, .invokevirtual 55, .aload 6, .iload 2, .invokevirtual 45, .ifCond .eq 4, .aload 0, .aload 6, .invokevirtual 56, .ifCond .ne 5, .ldc_w 3, .dup, .nop, .nop, .nop, .aload 0, .invokevirtual 57, .aload 0, .getstatic 910, .iconst 0, .putfield 501, .aload 6, .aload 0, .getstatic 911, .aload 0, .getstatic 910, .invokevirtual 58, .aload 0, .getstatic 903, .aload 0, .getfield 904, .aaload, .istore 1007, .aload 7, .getstatic 600, .iconst 0, .putfield 501, .aload 7, .getstatic 600, .iconst 10, .iload 3, .imul, .invokevirtual 59, .aload 0, .aload 7, .getstatic 600, .iload 3, .iload 4, .iload 5, .invokevirtual 60, .aload 7, .getstatic 600, .iconst 10, .iload 3, .imul, .invokevirtual 59, .aload 0, .iconst 0, .putfield 901, .aload 0, .aload 7, .invokevirtual 61, .ireturn]
def ac_70 : List Instr := [.iload 1, .ifCond .lt 4, .iload 1, .aload 0, .getfield 901, .if_icmp .le 5, .ldc_w 3, .dup, .nop, .nop, .nop, .return_]
def ac_71 : List Instr := [.aload 0, .getstatic 911, .iconst 0, .putfield 702, .iconst 0, .istore 2, .goto (-117440520), .iload 2, .iload 1, .if_icmp .ge 14, .iload 2, .iconst 60, .if_icmp .ge 11, .aload 0, .getstatic 911, .aload 0, .getstatic 900, .iload 2, .iaload, .invokevirtual 62, .iconst 0, .invokevirtual 31, .iinc 2 1, .goto (-117440520), .return_]
def ac_72 : List Instr := [.iload 0, .ifCond .lt 3, .iload 0, .iconst 127, .if_icmp .le 2, .iconst (-1), .goto 4, .ldc 5, .iload 0, .i2c, .invokevirtual 63, .ireturn]
def ac_73 : List Instr := [.aload 0, .iload 1, .iconst 0, .invokevirtual 64, .ireturn]
def ac_74 : List Instr := [.aload 0, .invokevirtual 65, .ifCond .eq 8, .aload 0, .getstatic 2800, .iload 1, .iload 2, .aload 0, .invokevirtual 66, .invokevirtual 67, .goto 7, .aload 0, .getstatic 2800, .iload 1, .iload 2, .aload 0, .invokevirtual 66, .nop, .ireturn]
def ac_75 : List Instr := [.iconst 1, .ifCond .eq 5, .aload 0, .getfield 2801, .ifCond .ne 2, .iconst 1, .goto 1, .iconst 0, .dreturn]
def ac_76 : List Instr := [.aload 0, .getstatic 2800, .arraylength, .aload 0, .invokevirtual 68, .ishr, .ireturn]
def ac_77 : List Instr := [.iconst 1, .ifCond .eq 3, .aload 0, .getfield 2801, .goto 1, .iconst 1, .freturn]
def ac_78 : List Instr := [.iload 1, .invokevirtual 69, .ifCond .ne 2, .iconst (-1), .ireturn, .iload 2, .iconst 0, .invokevirtual 30, .istore 2, .iload 3, .aload 0, .arraylength, .invokevirtual 42, .istore 3, .iload 2, .iload 3, .if_icmp .lt 2, .iconst (-1), .ireturn, .aload 0, .iload 1, .iload 2, .iload 3, .invokevirtual 70, .ireturn]
def ac_79 : List Instr := [.iload 0, .ifCond .lt 5, .iload 0, .iconst 255, .if_icmp .gt 2, .iconst 1, .goto 1, .iconst 0, .dreturn]
def ac_80 : List Instr := [.iload 1, .i2b, .istore 4, .iload 2, .istore 5, .goto (-100663354), .iload 5, .iload 3, .if_icmp .ge 9, .aload 0, .iload 5, .baload, .iload 4, .if_icmp .ne 2, .iload 5, .ireturn, .iinc 5 1, .goto (-100663354), .iconst (-1), .ireturn]
def ac_81 : List Instr := [.iconst 0, .istore 2, .goto (-50331656), .iload 2, .aload 0, .getstatic 911, .getfield 702, .if_icmp .ge 16, .aload 1, .aload 0, .getstatic 911, .getstatic 700, .iload 2, .iaload, .iload 2, .aload 0, .getstatic 911, .getfield 702, .invokevirtual 71, .ifCond .ne 2, .iconst 0, .dreturn, .iinc 2 1, .goto (-50331656), .iconst 1, .dreturn]
def ac_82 : List Instr := [.iload 1, .iconst 16, .if_icmp .lt 5, .iload 1, .iconst 20, .if_icmp .ge 2, .iconst 1, .goto 1, .iconst 0, .istore 4, .iload 1, .ifCond .lt 5, .iload 1, .iconst 16, .if_icmp .ge 2, .iconst 1, .goto 1, .iconst 0, .istore 5, .iload 2, .ifCond .eq 5, .iload 2, .iload 3, .iconst 1, .isub, .if_icmp .ne 2, .iload 4, .goto 1, .iload 5, .dreturn]
def ac_83 : List Instr := [.iload 1, .ifCond .lt 5, .iload 1, .iconst 10, .if_icmp .ge 2, .iconst 1, .goto 1, .iconst 0, .dreturn]
def ac_84 : List Instr := [.aload 0, .getfield 904, .iconst 24, .if_icmp .lt 5, .ldc_w 1, .dup, .nop, .nop, .nop, .return_]
def ac_85 : List Instr := [.iconst 0, .istore 3, .goto (-50331663), .iload 3, .aload 1, .getfield 702, .if_icmp .ge 42, .iload 3, .ifCond .le 3, .aload 2, .iconst 1, .invokevirtual 59, .aload 1, .getstatic 700, .iload 3, .iaload, .istore 4, .iload 4, .ifCond .lt 3, .iload 4, .iconst 20, .if_icmp .lt 2, .iconst 0, .goto 3, .ldc 4, .iload 4, .iaload, .istore 5, .iconst 6, .istore 6, .goto (-520093807), .iload 6, .ifCond .lt 14, .aload 2, .iload 5, .iload 6, .ishr, .iconst 1, .iand, .iconst 1, .if_icmp .ne 2, .iconst 3, .goto 1, .iconst 1, .invokevirtual 59, .iinc 6 (-1), .goto (-520093807), .iinc 3 1, .goto (-50331663), .return_]
def ac_86 : List Instr := [.aload 0, .getfield 501, .aload 0, .getstatic 500, .arraylength, .if_icmp .ge 12, .aload 0, .getstatic 500, .aload 0, .getfield 501, .iload 1, .iastore, .aload 0, .dup, .getfield 501, .iconst 1, .iadd, .putfield 501, .return_]
def ac_87 : List Instr := [.aload 2, .iconst 3, .invokevirtual 72, .iconst 0, .istore 3, .goto (-100663311), .iload 3, .aload 1, .getfield 702, .if_icmp .ge 36, .iload 3, .iconst 4, .if_icmp .ne 3, .aload 2, .iconst 5, .invokevirtual 72, .iconst 4, .aload 1, .getstatic 700, .iload 3, .iaload, .imul, .istore 4, .iload 4, .istore 5, .goto (-436207679), .iload 5, .iload 4, .iconst 4, .iadd, .if_icmp .ge 13, .iload 5, .ifCond .lt 11, .iload 5, .ldc 2, .arraylength, .if_icmp .ge 7, .aload 2, .ldc 2, .iload 5, .iaload, .invokevirtual 59, .iinc 5 1, .goto (-436207679), .iinc 3 1, .goto (-100663311), .aload 2, .iconst 3, .invokevirtual 72, .return_]
def ac_88 : List Instr := [.iconst 0, .istore 2, .goto (-50331656), .iload 2, .iload 1, .if_icmp .ge 5, .aload 0, .iconst 1, .invokevirtual 59, .iinc 2 1, .goto (-50331656), .return_]
def ac_89 : List Instr := [.iconst 0, .istore 3, .goto (-50331663), .iload 3, .iconst 4, .if_icmp .ge 5, .aload 2, .iconst 1, .invokevirtual 59, .iinc 3 1, .goto (-50331663), .iconst 0, .istore 3, .goto (-234881039), .iload 3, .iconst 1, .iadd, .aload 1, .getfield 702, .if_icmp .ge 47, .aload 1, .getstatic 700, .iload 3, .iaload, .invokevirtual 73, .istore 4, .aload 1, .getstatic 700, .iload 3, .iconst 1, .iadd, .iaload, .invokevirtual 73, .istore 5, .iconst 4, .istore 6, .goto (-620757119), .iload 6, .ifCond .lt 26, .aload 2, .iload 4, .iload 6, .ishr, .iconst 1, .iand, .iconst 1, .if_icmp .ne 2, .iconst 3, .goto 1, .iconst 1, .invokevirtual 59, .aload 2, .iload 5, .iload 6, .ishr, .iconst 1, .iand, .iconst 1, .if_icmp .ne 2, .iconst 3, .goto 1, .iconst 1, .invokevirtual 59, .iinc 6 (-1), .goto (-620757119), .iinc 3 2, .goto (-234881039), .aload 2, .iconst 3, .invokevirtual 59, .aload 2, .iconst 1, .invokevirtual 59, .aload 2, .iconst 1, .invokevirtual 59, .return_]
def ac_90 : List Instr := [.iload 0, .ifCond .lt 4, .iload 0, .ldc 3, .arraylength, .if_icmp .lt 2, .iconst 0, .goto 3, .ldc 3, .iload 0, .iaload, .ireturn]
def ac_91 : List Instr := [.iload 4, .istore 5, .iconst 0, .istore 6, .goto (-83886208), .iload 6, .aload 0, .getstatic 910, .getfield 501, .if_icmp .ge 42, .aload 0, .getstatic 910, .getstatic 500, .iload 6, .iaload, .iload 2, .imul, .iload 6, .iconst 2, .irem, .ifCond .ne 2, .iload 3, .goto 2, .iload 3, .ineg, .iadd, .istore 7, .iload 4, .ifCond .eq 16, .iconst 1103515245, .iload 5, .imul, .iconst 12345, .iadd, .istore 5, .iload 7, .iload 5, .iconst 16, .iushr, .iconst 3, .irem, .iconst 1, .isub, .iadd, .istore 7, .aload 1, .iload 7, .iconst 1, .invokevirtual 30, .invokevirtual 59, .iinc 6 1, .goto (-83886208), .return_]
def ac_92 : List Instr := [.aload 0, .dup, .getfield 904, .iconst 1, .iadd, .putfield 904, .aload 0, .aload 1, .invokevirtual 74, .aload 0, .getfield 904, .iconst 1, .isub, .ireturn]
def ac_93 : List Instr := [.iconst 0, .istore 2, .goto (-50331656), .iload 2, .iconst 3, .if_icmp .ge 14, .aload 1, .getstatic 601, .iload 2, .aaload, .iconst 0, .dstore 403, .aload 0, .getstatic 906, .iload 2, .aaload, .iconst 0, .dstore 805, .iinc 2 1, .goto (-50331656), .return_]
def ac_94 : List Instr := [.aload 3, .iconst 0, .aload 0, .iload 1, .iload 2, .checkcast 75, .i2l, .lastore, .goto 6, .istore 1004, .iconst 1, .ireturn, .istore 1004, .iconst 2, .ireturn, .iconst 0, .ireturn]
def ac_95 : List Instr := [.iload 1, .invokevirtual 12, .aload 0, .iload 2, .invokevirtual 54, .aload 0, .getstatic 905, .iload 1, .aaload, .istore 1003, .aload 3, .iload 2, .iconst 1, .iadd, .invokevirtual 76, .istore 4, .aload 0, .iload 2, .invokevirtual 55, .aload 0, .getstatic 911, .iload 4, .iconst 0, .invokevirtual 77, .aload 3, .iload 2, .iconst 1, .iadd, .invokevirtual 45, .ifCond .eq 4, .aload 0, .aload 3, .invokevirtual 56, .ifCond .ne 5, .ldc_w 3, .dup, .nop, .nop, .nop, .aload 0, .aload 3, .iload 4, .invokevirtual 78, .invokevirtual 79, .ireturn]
def ac_96 : List Instr := [.iload 1, .iconst 2, .isub, .ireturn]
def ac_97 : List Instr := [.iload 1, .iconst 1, .isub, .ireturn]
def ac_98 : List Instr := [.iload 1, .ifCond .lt 10, .iload 1, .aload 0, .getfield 702, .if_icmp .gt 6, .aload 0, .getfield 702, .aload 0, .getstatic 700, .arraylength, .if_icmp .lt 1, .return_, .aload 0, .getfield 702, .istore 3, .goto (-285212688), .iload 3, .iload 1, .if_icmp .le 12, .aload 0, .getstatic 700, .iload 3, .aload 0, .getstatic 700, .iload 3, .iconst 1, .isub, .iaload, .iastore, .iinc 3 (-1), .goto (-285212688), .aload 0, .getstatic 700, .iload 1, .iload 2, .iastore, .aload 0, .dup, .getfield 702, .iconst 1, .iadd, .putfield 702, .return_]
def ac_99 : List Instr := [.iload 2, .ifCond .lt 5, .iload 2, .aload 0, .getstatic 911, .getfield 702, .if_icmp .lt 2, .iconst (-1), .ireturn, .iconst (-1), .istore 3, .iconst 0, .istore 4, .iconst 0, .istore 5, .goto (-268435520), .iload 5, .iconst 20, .if_icmp .ge 24, .aload 0, .getstatic 911, .getstatic 700, .iload 2, .iload 5, .iastore, .aload 1, .iload 5, .iload 2, .aload 0, .getstatic 911, .getfield 702, .invokevirtual 71, .ifCond .eq 8, .aload 1, .aload 0, .getstatic 911, .invokevirtual 50, .ifCond .eq 3, .iload 5, .istore 3, .iinc 4 1, .iinc 5 1, .goto (-268435520), .iload 4, .iconst 1, .if_icmp .ne 2, .iload 3, .goto 1, .iconst (-1), .ireturn]
def ac_100 : List Instr := [.iload 0, .ifCond .lt 3, .iload 0, .iconst 20, .if_icmp .lt 2, .iconst (-1), .goto 3, .ldc 5, .iload 0, .invokevirtual 80, .ireturn]
def ac_101 : List Instr := [.aload 0, .invokevirtual 65, .ifCond .eq 5, .aload 0, .getstatic 2800, .iload 1, .invokevirtual 81, .freturn, .aload 0, .getstatic 2800, .iload 1, .nop, .freturn]
def ac_102 : List Instr := [.iload 1, .aload 0, .arraylength, .invokevirtual 82, .aload 0, .iload 1, .baload, .iconst 255, .iand, .i2c, .freturn]
def ac_103 : List Instr := [.iload 0, .iload 1, .ldc 15, .invokevirtual 83, .pop, .return_]
def ac_104 : List Instr := [.iload 0, .ifCond .lt 3, .iload 0, .iload 1, .if_icmp .lt 5, .aload 2, .iload 0, .iload 1, .nop, .nop, .iload 0, .ireturn]
def ac_105 : List Instr := [.aload 7, .iconst 0, .aload 0, .iload 1, .iload 2, .iload 3, .iload 4, .iload 5, .iload 6, .checkcast 84, .i2l, .lastore, .goto 6, .istore 1008, .iconst 1, .ireturn, .istore 1008, .iconst 2, .ireturn, .iconst 0, .ireturn]
def ac_106 : List Instr := [.aload 0, .getstatic 908, .iconst 0, .putfield 501, .aload 0, .getstatic 908, .iload 1, .invokevirtual 59, .aload 0, .getstatic 908, .iload 2, .invokevirtual 59, .aload 0, .getstatic 908, .iload 3, .invokevirtual 59, .aload 0, .getstatic 908, .iload 4, .invokevirtual 59, .aload 0, .getstatic 908, .iload 5, .invokevirtual 59, .aload 0, .getstatic 908, .iload 6, .invokevirtual 59, .aload 0, .getstatic 908, .iconst 0, .iconst 10000, .invokevirtual 85, .ifCond .ne 5, .ldc_w 3, .dup, .nop, .nop, .nop, .aload 0, .getstatic 908, .invokevirtual 86, .istore 7, .aload 0, .getstatic 902, .getfield 501, .iload 7, .iadd, .iconst 129, .if_icmp .le 5, .ldc_w 1, .dup, .nop, .nop, .nop, .iconst 0, .istore 8, .goto (-973078914), .iload 8, .iload 7, .if_icmp .ge 10, .aload 0, .getstatic 902, .aload 0, .getstatic 908, .getstatic 500, .iload 8, .iaload, .invokevirtual 59, .iinc 8 1, .goto (-973078914), .aload 0, .getstatic 902, .getfield 501, .ireturn]
def ac_107 : List Instr := [.iconst 0, .istore 3, .goto (-50331664), .iload 3, .aload 0, .getfield 501, .if_icmp .ge 16, .aload 0, .getstatic 500, .iload 3, .iaload, .iload 1, .if_icmp .lt 6, .aload 0, .getstatic 500, .iload 3, .iaload, .iload 2, .if_icmp .le 2, .iconst 0, .dreturn, .iinc 3 1, .goto (-50331664), .iconst 1, .dreturn]
def ac_108 : List Instr := [.iconst 0, .istore 1, .goto (-50331652), .iload 1, .aload 0, .getfield 501, .if_icmp .ge 7, .aload 0, .getstatic 500, .iload 1, .iaload, .ifCond .eq 2, .iinc 1 1, .goto (-50331652), .iload 1, .ireturn]
def ac_109 : List Instr := [.aload 1, .iconst 0, .aload 0, .checkcast 87, .i2l, .lastore, .goto 3, .istore 1002, .iconst 1, .ireturn, .iconst 0, .ireturn]
def ac_110 : List Instr := [.aload 0, .getstatic 902, .getfield 501, .iconst 3, .if_icmp .lt 6, .aload 0, .getstatic 902, .getfield 501, .iconst 2, .irem, .ifCond .ne 5, .ldc_w 1, .dup, .nop, .nop, .nop, .aload 0, .invokevirtual 57, .aload 0, .getstatic 903, .aload 0, .getfield 904, .aaload, .istore 1001, .aload 1, .getstatic 600, .aload 0, .getstatic 902, .invokevirtual 88, .aload 0, .getstatic 902, .iconst 0, .putfield 501, .aload 0, .aload 1, .invokevirtual 61, .ireturn]
def ac_111 : List Instr := [.aload 0, .aload 1, .getfield 501, .putfield 501, .iconst 0, .istore 2, .goto (-117440520), .iload 2, .aload 0, .getfield 501, .if_icmp .ge 10, .aload 0, .getstatic 500, .iload 2, .aload 1, .getstatic 500, .iload 2, .iaload, .iastore, .iinc 2 1, .goto (-117440520), .return_]
def ac_112 : List Instr := [.aload 2, .iconst 0, .aload 0, .iload 1, .checkcast 89, .i2l, .lastore, .goto 3, .istore 1003, .iconst 1, .ireturn, .iconst 0, .ireturn]
def ac_113 : List Instr := [.aload 0, .iload 1, .invokevirtual 90, .aload 0, .getstatic 903, .iload 1, .aaload, .getstatic 600, .getfield 501, .ireturn]
def ac_114 : List Instr := [.iload 1, .ifCond .lt 4, .iload 1, .aload 0, .getfield 904, .if_icmp .lt 5, .ldc_w 2, .dup, .nop, .nop, .nop, .return_]
def ac_115 : List Instr := [.aload 3, .iconst 0, .aload 0, .iload 1, .iload 2, .checkcast 91, .i2l, .lastore, .goto 3, .istore 1004, .iconst 1, .ireturn, .iconst 0, .ireturn]
def ac_116 : List Instr := [.aload 0, .iload 1, .invokevirtual 90, .aload 0, .getstatic 903, .iload 1, .aaload, .getstatic 600, .istore 1003, .iload 2, .aload 3, .getfield 501, .invokevirtual 92, .aload 3, .getstatic 500, .iload 2, .iaload, .ireturn]
def ac_117 : List Instr := [.iload 0, .ifCond .lt 3, .iload 0, .iload 1, .if_icmp .lt 5, .ldc_w 2, .dup, .nop, .nop, .nop, .return_]
def ac_118 : List Instr := [.aload 4, .iconst 0, .aload 0, .iload 1, .iload 2, .iload 3, .checkcast 93, .i2l, .lastore, .goto 6, .istore 1005, .iconst 1, .ireturn, .istore 1005, .iconst 2, .ireturn, .iconst 0, .ireturn]
def ac_119 : List Instr := [.aload 0, .iload 1, .invokevirtual 90, .aload 0, .getstatic 903, .iload 1, .aaload, .getstatic 600, .istore 1004, .iload 2, .aload 4, .getfield 501, .invokevirtual 92, .iload 3, .iconst 1, .if_icmp .lt 3, .iload 3, .iconst 10000, .if_icmp .le 5, .ldc_w 3, .dup, .nop, .nop, .nop, .aload 4, .getstatic 500, .iload 2, .iaload, .istore 5, .aload 4, .getstatic 500, .iload 2, .iload 3, .iastore, .aload 0, .aload 0, .getstatic 903, .iload 1, .aaload, .invokevirtual 74, .iload 5, .ireturn]
def ac_120 : List Instr := [.aload 4, .iconst 0, .aload 0, .iload 1, .iload 2, .iload 3, .checkcast 94, .i2l, .lastore, .goto 6, .istore 1005, .iconst 1, .ireturn, .istore 1005, .iconst 2, .ireturn, .iconst 0, .ireturn]
def ac_121 : List Instr := [.aload 0, .iload 1, .invokevirtual 90, .aload 0, .getstatic 903, .iload 1, .aaload, .getstatic 600, .istore 1004, .iload 2, .aload 4, .getfield 501, .invokevirtual 92, .iload 3, .aload 4, .getfield 501, .invokevirtual 92, .iload 2, .iconst 2, .irem, .ifCond .ne 9, .iload 3, .iconst 2, .irem, .ifCond .ne 5, .iload 3, .iload 2, .iconst 2, .iadd, .if_icmp .ge 5, .ldc_w 3, .dup, .nop, .nop, .nop, .aload 4, .iload 2, .iload 3, .invokevirtual 95, .aload 0, .aload 0, .getstatic 903, .iload 1, .aaload, .invokevirtual 74, .aload 4, .getfield 501, .ireturn]
def ac_122 : List Instr := [.iload 1, .ifCond .lt 4, .iload 2, .aload 0, .getfield 501, .if_icmp .lt 1, .return_, .iload 1, .istore 3, .goto (-167772176), .iload 3, .iload 2, .if_icmp .gt 12, .aload 0, .getstatic 500, .iload 3, .iload 1, .isub, .aload 0, .getstatic 500, .iload 3, .iaload, .iastore, .iinc 3 1, .goto (-167772176), .aload 0, .iload 2, .iload 1, .isub, .iconst 1, .iadd, .putfield 501, .return_]
def ac_123 : List Instr := [.aload 0, .iload 1, .checkcast 96, .goto 3, .istore 1002, .iconst 1, .ireturn, .iconst 0, .ireturn]
def ac_124 : List Instr := [.aload 0, .iload 1, .invokevirtual 90, .aload 0, .getstatic 903, .iload 1, .aaload, .getstatic 600, .istore 1002, .aload 0, .getstatic 909, .aload 2, .invokevirtual 17, .aload 2, .aload 0, .getstatic 909, .invokevirtual 88, .aload 0, .aload 0, .getstatic 903, .iload 1, .aaload, .invokevirtual 74, .return_]
def ac_125 : List Instr := [.aload 3, .iconst 0, .aload 0, .iload 1, .iload 2, .checkcast 97, .i2l, .lastore, .goto 6, .istore 1004, .iconst 1, .ireturn, .istore 1004, .iconst 2, .ireturn, .iconst 0, .ireturn]
def ac_126 : List Instr := [.aload 0, .iload 1, .invokevirtual 90, .iload 2, .iconst (-100), .if_icmp .lt 3, .iload 2, .iconst 100, .if_icmp .le 5, .ldc_w 3, .dup, .nop, .nop, .nop, .aload 0, .getstatic 903, .iload 1, .aaload, .getstatic 600, .iload 2, .invokevirtual 98, .istore 3, .aload 0, .aload 0, .getstatic 903, .iload 1, .aaload, .invokevirtual 74, .iload 3, .ireturn]
def ac_127 : List Instr := [.iconst 0, .istore 2, .iconst 1, .istore 3, .goto (-83886096), .iload 3, .aload 0, .getfield 501, .iconst 1, .isub, .if_icmp .ge 32, .aload 0, .getstatic 500, .iload 3, .iaload, .iload 3, .iconst 2, .irem, .iconst 1, .if_icmp .ne 2, .iload 1, .goto 2, .iload 1, .ineg, .iadd, .istore 4, .iconst 1, .iload 4, .iconst 10000, .invokevirtual 42, .invokevirtual 30, .istore 5, .iload 5, .iload 4, .if_icmp .eq 1, .iinc 2 1, .aload 0, .getstatic 500, .iload 3, .iload 5, .iastore, .iinc 3 1, .goto (-83886096), .iload 2, .ireturn]
def ac_128 : List Instr := [.aload 0, .iload 1, .iload 2, .checkcast 99, .goto 6, .istore 1003, .iconst 1, .ireturn, .istore 1003, .iconst 2, .ireturn, .iconst 0, .ireturn]
def ac_129 : List Instr := [.aload 0, .iload 1, .invokevirtual 90, .aload 0, .iload 2, .invokevirtual 90, .aload 0, .getstatic 903, .iload 1, .aaload, .getstatic 600, .istore 1003, .aload 0, .getstatic 903, .iload 2, .aaload, .getstatic 600, .istore 1004, .aload 3, .getfield 501, .aload 4, .getfield 501, .if_icmp .eq 5, .ldc_w 3, .dup, .nop, .nop, .nop, .iconst 0, .istore 5, .goto (-520093756), .iload 5, .aload 3, .getfield 501, .if_icmp .ge 19, .aload 3, .getstatic 500, .iload 5, .aload 3, .getstatic 500, .iload 5, .iaload, .aload 4, .getstatic 500, .iload 5, .iaload, .iadd, .iconst 1, .iadd, .iconst 2, .idiv, .iastore, .iinc 5 1, .goto (-520093756), .aload 0, .aload 0, .getstatic 903, .iload 1, .aaload, .invokevirtual 74, .return_]
def ac_130 : List Instr := [.aload 2, .iconst 0, .aload 0, .iload 1, .checkcast 100, .i2l, .lastore, .goto 3, .istore 1003, .iconst 1, .ireturn, .iconst 0, .ireturn]
def ac_131 : List Instr := [.aload 0, .iload 1, .invokevirtual 90, .aload 0, .getstatic 903, .iload 1, .aaload, .istore 1002, .iload 1, .istore 3, .goto (-184549390), .iload 3, .iconst 1, .iadd, .aload 0, .getfield 904, .if_icmp .ge 12, .aload 0, .getstatic 903, .iload 3, .aload 0, .getstatic 903, .iload 3, .iconst 1, .iadd, .aaload, .aastore, .iinc 3 1, .goto (-184549390), .aload 0, .dup, .getfield 904, .iconst 1, .isub, .putfield 904, .aload 0, .getstatic 903, .aload 0, .getfield 904, .aload 2, .aastore, .aload 0, .aload 2, .invokevirtual 74, .aload 0, .getfield 904, .ireturn]
def ac_132 : List Instr := [.aload 3, .iconst 0, .aload 0, .iload 1, .iload 2, .checkcast 101, .i2l, .lastore, .goto 3, .istore 1004, .iconst 1, .ireturn, .iconst 0, .ireturn]
def ac_133 : List Instr := [.aload 0, .iload 1, .iload 2, .invokevirtual 102, .getstatic 400, .getfield 702, .ireturn]
def ac_134 : List Instr := [.aload 0, .iload 1, .invokevirtual 90, .iload 2, .invokevirtual 12, .aload 0, .getstatic 903, .iload 1, .aaload, .getstatic 601, .iload 2, .aaload, .istore 1003, .aload 0, .getstatic 905, .iload 2, .aaload, .aload 0, .getstatic 903, .iload 1, .aaload, .getstatic 600, .aload 0, .getstatic 909, .aload 3, .invokevirtual 13, .aload 3, .areturn]
def ac_135 : List Instr := [.aload 4, .iconst 0, .aload 0, .iload 1, .iload 2, .iload 3, .checkcast 103, .i2l, .lastore, .goto 3, .istore 1005, .iconst 1, .ireturn, .iconst 0, .ireturn]
def ac_136 : List Instr := [.aload 0, .iload 1, .iload 2, .invokevirtual 102, .iload 3, .invokevirtual 104, .getfield 702, .ireturn]
def ac_137 : List Instr := [.iload 1, .ifCond .eq 3, .aload 0, .getstatic 402, .goto 2, .aload 0, .getstatic 401, .areturn]
def ac_138 : List Instr := [.aload 4, .iconst 0, .aload 0, .iload 1, .iload 2, .iload 3, .checkcast 105, .i2l, .lastore, .goto 3, .istore 1005, .iconst 1, .ireturn, .iconst 0, .ireturn]
def ac_139 : List Instr := [.aload 0, .iload 1, .iload 2, .invokevirtual 102, .getstatic 400, .istore 1004, .iload 3, .aload 4, .getfield 702, .invokevirtual 92, .aload 4, .getstatic 700, .iload 3, .iaload, .invokevirtual 79, .ireturn]
def ac_140 : List Instr := [.aload 4, .iconst 0, .aload 0, .iload 1, .iload 2, .iload 3, .checkcast 106, .i2l, .lastore, .goto 3, .istore 1005, .iconst 1, .ireturn, .iconst 0, .ireturn]
def ac_141 : List Instr := [.aload 0, .iload 1, .iload 2, .invokevirtual 102, .getstatic 400, .istore 1004, .iload 3, .aload 4, .getfield 702, .invokevirtual 92, .aload 4, .getstatic 701, .iload 3, .iaload, .ireturn]
def ac_142 : List Instr := [.aload 5, .iconst 0, .aload 0, .iload 1, .iload 2, .iload 3, .iload 4, .checkcast 107, .i2l, .lastore, .goto 3, .istore 1006, .iconst 1, .ireturn, .iconst 0, .ireturn]
def ac_143 : List Instr := [.aload 0, .iload 1, .iload 2, .invokevirtual 102, .iload 3, .invokevirtual 104, .istore 1005, .iload 4, .aload 5, .getfield 702, .invokevirtual 92, .aload 5, .getstatic 700, .iload 4, .iaload, .invokevirtual 79, .ireturn]
def ac_144 : List Instr := [.aload 3, .iconst 0, .aload 0, .iload 1, .iload 2, .checkcast 108, .ifCond .eq 2, .bipush 1, .goto 1, .bipush 0, .lastore, .goto 3, .istore 1004, .iconst 1, .ireturn, .iconst 0, .ireturn]
def ac_145 : List Instr := [.aload 0, .iload 1, .iload 2, .invokevirtual 102, .getfield 404, .dreturn]
def ac_146 : List Instr := [.aload 4, .iconst 0, .aload 0, .iload 1, .iload 2, .iload 3, .checkcast 109, .i2l, .lastore, .goto 3, .istore 1005, .iconst 1, .ireturn, .iconst 0, .ireturn]
def ac_147 : List Instr := [.aload 0, .iload 1, .iload 3, .invokevirtual 102, .getstatic 400, .istore 1004, .aload 0, .iload 2, .iload 3, .invokevirtual 102, .getstatic 400, .istore 1005, .aload 4, .getfield 702, .ifCond .eq 5, .aload 4, .getfield 702, .aload 5, .getfield 702, .if_icmp .eq 2, .iconst (-1), .ireturn, .iconst 0, .istore 6, .iconst 0, .istore 7, .goto (-452985073), .iload 7, .aload 4, .getfield 702, .if_icmp .ge 12, .aload 4, .getstatic 700, .iload 7, .iaload, .aload 5, .getstatic 700, .iload 7, .iaload, .if_icmp .ne 1, .iinc 6 1, .iinc 7 1, .goto (-452985073), .iload 6, .ireturn]
def ac_148 : List Instr := [.aload 4, .iconst 0, .aload 0, .iload 1, .iload 2, .iload 3, .checkcast 110, .i2l, .lastore, .goto 3, .istore 1005, .iconst 1, .ireturn, .iconst 0, .ireturn]
def ac_149 : List Instr := [.aload 0, .iload 1, .iload 3, .invokevirtual 102, .getstatic 401, .istore 1004, .aload 0, .iload 2, .iload 3, .invokevirtual 102, .getstatic 402, .istore 1005, .aload 4, .getfield 702, .ifCond .eq 3, .aload 5, .getfield 702, .ifCond .ne 2, .iconst (-1), .ireturn, .aload 4, .getfield 702, .aload 5, .getfield 702, .invokevirtual 42, .istore 6, .iload 6, .istore 7, .goto (-486539441), .iload 7, .ifCond .le 9, .aload 4, .aload 5, .iload 7, .invokevirtual 44, .ifCond .eq 2, .iload 7, .ireturn, .iinc 7 (-1), .goto (-486539441), .iconst 0, .ireturn]
def ac_150 : List Instr := [.aload 3, .iconst 0, .aload 0, .iload 1, .iload 2, .checkcast 111, .i2l, .lastore, .goto 6, .istore 1004, .iconst 1, .ireturn, .istore 1004, .iconst 2, .ireturn, .iconst 0, .ireturn]
def ac_151 : List Instr := [.aload 0, .iload 1, .iload 2, .invokevirtual 102, .istore 1003, .aload 0, .aload 0, .getstatic 905, .iload 2, .aaload, .aload 3, .invokevirtual 112, .aload 0, .getstatic 910, .iconst 0, .aload 0, .getstatic 910, .getfield 501, .iconst 1, .isub, .iconst 1, .invokevirtual 113, .lstore 4, .lload 4, .bipush 0, .lcmp, .ifCond .gt 2, .iconst 0, .ireturn, .aload 0, .getstatic 903, .iload 1, .aaload, .getstatic 600, .aload 3, .getfield 405, .aload 3, .getfield 406, .iconst 1, .invokevirtual 113, .lstore 6, .bipush 100, .lload 6, .lmul, .lload 4, .ldiv, .l2i, .ireturn]
def ac_152 : List Instr := [.aload 2, .getstatic 400, .getfield 702, .ifCond .ne 5, .ldc_w 4, .dup, .nop, .nop, .nop, .aload 0, .getstatic 910, .iconst 0, .putfield 501, .aload 1, .aload 2, .getstatic 400, .aload 0, .getstatic 910, .invokevirtual 58, .return_]
def ac_153 : List Instr := [.bipush 0, .lstore 4, .iload 1, .ifCond .lt 7, .iload 2, .aload 0, .getfield 501, .if_icmp .ge 3, .iload 3, .iconst 1, .if_icmp .ge 2, .lload 4, .lreturn, .iload 1, .istore 6, .goto (-268435550), .iload 6, .iload 2, .if_icmp .gt 13, .lload 4, .aload 0, .getstatic 500, .iload 6, .iaload, .i2l, .ladd, .lstore 4, .iload 6, .iload 3, .iadd, .istore 6, .goto (-268435550), .lload 4, .lreturn]
def ac_154 : List Instr := [.aload 3, .iconst 0, .aload 0, .iload 1, .iload 2, .checkcast 114, .i2l, .lastore, .goto 6, .istore 1004, .iconst 1, .ireturn, .istore 1004, .iconst 2, .ireturn, .iconst 0, .ireturn]
def ac_155 : List Instr := [.aload 0, .iload 1, .iload 2, .invokevirtual 102, .istore 1003, .aload 0, .aload 0, .getstatic 905, .iload 2, .aaload, .aload 3, .invokevirtual 112, .aload 0, .getstatic 910, .iconst 0, .aload 0, .getstatic 910, .getfield 501, .iconst 1, .isub, .iconst 1, .invokevirtual 113, .lstore 4, .goto (-402653212), .aload 0, .getstatic 910, .iconst 0, .aload 0, .getstatic 910, .getfield 501, .iconst 1, .isub, .iconst 2, .invokevirtual 113, .lstore 6, .goto (-603979868), .aload 0, .getstatic 903, .iload 1, .aaload, .getstatic 600, .istore 1008, .aload 8, .aload 3, .getfield 405, .aload 3, .getfield 406, .iconst 1, .invokevirtual 113, .lstore 9, .goto (-855638874), .aload 8, .aload 3, .getfield 405, .aload 3, .getfield 406, .iconst 2, .invokevirtual 113, .lstore 11, .goto (-1006635602), .aload 0, .getstatic 910, .getfield 501, .iconst 1, .iadd, .iconst 2, .idiv, .i2l, .lload 4, .lmul, .lstore 13, .goto (-1207970385), .lload 13, .bipush 0, .lcmp, .ifCond .gt 2, .iconst 0, .ireturn, .bipush 100, .lload 11, .lload 4, .lmul, .lload 9, .lload 6, .lmul, .lsub, .lmul, .lload 13, .invokevirtual 115, .l2i, .ireturn]
def ac_156 : List Instr := [.lload 0, .lload 2, .ldiv, .lstore 4, .lload 0, .lload 2, .lxor, .bipush 0, .lcmp, .ifCond .ge 10, .lload 4, .lload 2, .lmul, .lload 0, .lcmp, .ifCond .eq 4, .lload 4, .bipush 1, .lsub, .lreturn, .lload 4, .lreturn]
def ac_157 : List Instr := [.aload 4, .iconst 0, .aload 0, .iload 1, .iload 2, .iload 3, .checkcast 116, .i2l, .lastore, .goto 3, .istore 1005, .iconst 1, .ireturn, .iconst 0, .ireturn]
def ac_158 : List Instr := [.aload 0, .iload 1, .iload 3, .invokevirtual 102, .getstatic 401, .istore 1004, .aload 0, .iload 2, .iload 3, .invokevirtual 102, .getstatic 402, .istore 1005, .aload 0, .getstatic 905, .iload 3, .aaload, .aload 4, .aload 5, .invokevirtual 43, .istore 6, .iload 6, .iconst (-1), .if_icmp .ne 2, .iconst 0, .goto 7, .aload 4, .getfield 702, .aload 5, .getfield 702, .iadd, .iload 6, .isub, .ireturn]
def ac_159 : List Instr := [.aload 5, .iconst 0, .aload 0, .iload 1, .iload 2, .iload 3, .iload 4, .checkcast 117, .i2l, .lastore, .goto 3, .istore 1006, .iconst 1, .ireturn, .iconst 0, .ireturn]
def ac_160 : List Instr := [.aload 0, .iload 1, .iload 3, .invokevirtual 102, .getstatic 401, .istore 1005, .aload 0, .iload 2, .iload 3, .invokevirtual 102, .getstatic 402, .istore 1006, .aload 0, .getstatic 905, .iload 3, .aaload, .aload 5, .aload 6, .invokevirtual 43, .istore 7, .iload 4, .iload 7, .iconst (-1), .if_icmp .ne 2, .iconst 0, .goto 7, .aload 5, .getfield 702, .aload 6, .getfield 702, .iadd, .iload 7, .isub, .invokevirtual 92, .iload 4, .aload 5, .getfield 702, .if_icmp .ge 6, .aload 5, .getstatic 700, .iload 4, .iaload, .invokevirtual 79, .ireturn, .aload 6, .getstatic 700, .iload 4, .aload 5, .getfield 702, .isub, .iload 7, .iadd, .iaload, .invokevirtual 79, .ireturn]
def ac_161 : List Instr := [.aload 2, .iconst 0, .aload 0, .iload 1, .checkcast 118, .i2l, .lastore, .goto 6, .istore 1003, .iconst 1, .ireturn, .istore 1003, .iconst 2, .ireturn, .iconst 0, .ireturn]
def ac_162 : List Instr := [.iload 1, .invokevirtual 12, .iconst (-1), .istore 2, .iconst (-1), .istore 3, .iconst 0, .istore 4, .goto (-150994976), .iload 4, .aload 0, .getfield 904, .if_icmp .ge 20, .aload 0, .iload 4, .iload 1, .invokevirtual 102, .getstatic 400, .istore 1005, .aload 5, .getfield 702, .ifCond .le 9, .aload 5, .invokevirtual 41, .iload 3, .if_icmp .le 5, .iload 4, .istore 2, .aload 5, .invokevirtual 41, .istore 3, .iinc 4 1, .goto (-150994976), .iload 2, .iconst (-1), .if_icmp .ne 5, .ldc_w 4, .dup, .nop, .nop, .nop, .iload 2, .ireturn]
def ac_163 : List Instr := [.aload 2, .iconst 0, .aload 0, .iload 1, .checkcast 119, .i2l, .lastore, .goto 3, .istore 1003, .iconst 1, .ireturn, .iconst 0, .ireturn]
def ac_164 : List Instr := [.aload 0, .iload 1, .invokevirtual 9, .getfield 804, .ireturn]
def ac_165 : List Instr := [.aload 4, .iconst 0, .aload 0, .iload 1, .iload 2, .iload 3, .checkcast 120, .i2l, .lastore, .goto 3, .istore 1005, .iconst 1, .ireturn, .iconst 0, .ireturn]
def ac_166 : List Instr := [.aload 0, .iload 1, .invokevirtual 9, .istore 1004, .iload 2, .aload 4, .getfield 804, .invokevirtual 92, .iload 3, .iconst (-1), .if_icmp .ne 5, .aload 4, .getstatic 802, .iload 2, .iaload, .ireturn, .iload 3, .invokevirtual 62, .istore 5, .iload 5, .iconst (-1), .if_icmp .ne 2, .iconst 0, .goto 4, .aload 4, .iload 2, .iload 5, .invokevirtual 47, .ireturn]
def ac_167 : List Instr := [.aload 3, .iconst 0, .aload 0, .iload 1, .iload 2, .checkcast 121, .i2l, .lastore, .goto 3, .istore 1004, .iconst 1, .ireturn, .iconst 0, .ireturn]
def ac_168 : List Instr := [.aload 0, .iload 1, .invokevirtual 9, .istore 1003, .iload 2, .aload 3, .getfield 804, .invokevirtual 92, .aload 3, .getstatic 803, .iload 2, .iaload, .invokevirtual 79, .ireturn]
def ac_169 : List Instr := [.aload 3, .iconst 0, .aload 0, .iload 1, .iload 2, .checkcast 122, .i2l, .lastore, .goto 3, .istore 1004, .iconst 1, .ireturn, .iconst 0, .ireturn]
def ac_170 : List Instr := [.aload 0, .iload 1, .invokevirtual 9, .istore 1003, .iload 2, .aload 3, .getfield 804, .invokevirtual 92, .aload 3, .iload 2, .iconst (-1), .invokevirtual 123, .istore 4, .iload 4, .iconst (-1), .if_icmp .ne 2, .iconst (-1), .goto 5, .aload 3, .iload 2, .iload 4, .invokevirtual 123, .invokevirtual 79, .ireturn]
def ac_171 : List Instr := [.iconst (-1), .istore 3, .iconst 0, .istore 4, .iconst 0, .istore 5, .goto (-117440576), .iload 5, .iconst 20, .if_icmp .ge 34, .aload 0, .iload 1, .iload 5, .invokevirtual 47, .istore 6, .iload 6, .iload 4, .if_icmp .ne 10, .iload 3, .iconst (-1), .if_icmp .eq 7, .iload 5, .invokevirtual 79, .iload 3, .invokevirtual 79, .if_icmp .ge 2, .iconst 1, .goto 1, .iconst 0, .istore 7, .iload 5, .iload 2, .if_icmp .eq 9, .iload 6, .iload 4, .if_icmp .gt 2, .iload 7, .ifCond .eq 4, .iload 5, .istore 3, .iload 6, .istore 4, .iinc 5 1, .goto (-117440576), .iload 3, .ireturn]
def ac_172 : List Instr := [.aload 2, .iconst 0, .aload 0, .iload 1, .checkcast 124, .i2l, .lastore, .goto 3, .istore 1003, .iconst 1, .ireturn, .iconst 0, .ireturn]
def ac_173 : List Instr := [.aload 0, .aload 0, .iload 1, .invokevirtual 9, .iload 1, .invokevirtual 10, .ireturn]
def ac_174 : List Instr := [.aload 2, .iconst 0, .aload 0, .iload 1, .checkcast 125, .i2l, .lastore, .goto 3, .istore 1003, .iconst 1, .ireturn, .iconst 0, .ireturn]
def ac_175 : List Instr := [.aload 0, .iload 1, .invokevirtual 9, .invokevirtual 126, .ireturn]
def ac_176 : List Instr := [.iconst 0, .istore 1, .goto (-50331652), .iload 1, .aload 0, .getfield 804, .if_icmp .ge 10, .aload 0, .getstatic 803, .iload 1, .iaload, .iconst (-1), .if_icmp .ne 2, .iload 1, .ireturn, .iinc 1 1, .goto (-50331652), .iconst (-1), .ireturn]
def ac_177 : List Instr := [.aload 2, .iconst 0, .aload 0, .iload 1, .checkcast 127, .i2l, .lastore, .goto 9, .istore 1003, .iconst 1, .ireturn, .istore 1003, .iconst 2, .ireturn, .istore 1003, .iconst 3, .ireturn, .iconst 0, .ireturn]
def ac_178 : List Instr := [.aload 0, .iload 1, .invokevirtual 9, .istore 1002, .aload 2, .invokevirtual 48, .iconst 1, .if_icmp .eq 5, .ldc_w 1, .dup, .nop, .nop, .nop, .aload 0, .getstatic 911, .aload 2, .getstatic 803, .aload 2, .getfield 804, .invokevirtual 49, .aload 0, .aload 0, .getstatic 905, .iload 1, .aaload, .aload 2, .invokevirtual 126, .invokevirtual 78, .istore 3, .iload 3, .iconst (-1), .if_icmp .ne 5, .ldc_w 4, .dup, .nop, .nop, .nop, .iload 3, .invokevirtual 79, .ireturn]
def ac_179 : List Instr := [.aload 2, .iconst 0, .aload 0, .iload 1, .checkcast 128, .i2l, .lastore, .goto 6, .istore 1003, .iconst 1, .ireturn, .istore 1003, .iconst 2, .ireturn, .iconst 0, .ireturn]
def ac_180 : List Instr := [.aload 0, .iload 1, .invokevirtual 9, .istore 1002, .iconst (-1), .istore 3, .iconst (-1), .istore 4, .iconst 0, .istore 5, .goto (-184549440), .iload 5, .aload 0, .getfield 904, .if_icmp .ge 27, .aload 0, .iload 5, .iload 1, .invokevirtual 102, .getstatic 400, .istore 1006, .aload 6, .getfield 702, .ifCond .le 16, .aload 6, .getfield 702, .aload 2, .getfield 804, .if_icmp .ne 11, .aload 2, .aload 6, .invokevirtual 129, .iload 4, .if_icmp .le 6, .iload 5, .istore 3, .aload 2, .aload 6, .invokevirtual 129, .istore 4, .iinc 5 1, .goto (-184549440), .iload 3, .iconst (-1), .if_icmp .ne 5, .ldc_w 4, .dup, .nop, .nop, .nop, .iload 3, .ireturn]
def ac_181 : List Instr := [.iconst 0, .istore 2, .iconst 0, .istore 3, .goto (-83886096), .iload 3, .aload 1, .getfield 702, .if_icmp .ge 12, .aload 1, .getstatic 700, .iload 3, .iaload, .aload 0, .getstatic 803, .iload 3, .iaload, .if_icmp .eq 1, .iinc 2 1, .iinc 3 1, .goto (-83886096), .iload 2, .ireturn]
def ac_182 : List Instr := [.aload 3, .iconst 0, .aload 0, .iload 1, .iload 2, .checkcast 130, .ifCond .eq 2, .bipush 1, .goto 1, .bipush 0, .lastore, .goto 3, .istore 1004, .iconst 1, .ireturn, .iconst 0, .ireturn]
def ac_183 : List Instr := [.iload 1, .invokevirtual 12, .aload 0, .getstatic 907, .iload 1, .baload, .istore 3, .aload 0, .getstatic 907, .iload 1, .iload 2, .bastore, .iload 3, .dreturn]
def ac_184 : List Instr := [.aload 0, .invokespecial 0, .aload 0, .iconst 3096, .anewarray 20, .astore 1000, .aload 0, .iconst 24, .anewarray 20, .astore 1001, .aload 0, .iconst 129, .anewarray 20, .astore 1002, .aload 0, .iconst 60, .anewarray 20, .astore 1003, .aload 0, .iconst 3, .anewarray 22, .dup, .iconst 0, .iconst 1, .bastore, .dup, .iconst 1, .iconst 0, .bastore, .dup, .iconst 2, .iconst 0, .bastore, .astore 1004, .aload 0, .iconst 10, .anewarray 20, .dup, .iconst 0, .iconst 3211, .iastore, .dup, .iconst 1, .iconst 2221, .iastore, .dup, .iconst 2, .iconst 2122, .iastore, .dup, .iconst 3, .iconst 1411, .iastore, .dup, .iconst 4, .iconst 1132, .iastore, .dup, .iconst 5, .iconst 1231, .iastore, .dup, .iconst 6, .iconst 1114, .iastore, .dup, .iconst 7, .iconst 1312, .iastore, .dup, .iconst 8, .iconst 1213, .iastore, .dup, .iconst 9, .iconst 3112, .iastore, .astore 1005, .aload 0, .iconst 10, .anewarray 20, .dup, .iconst 0, .iconst 6, .iastore, .dup, .iconst 1, .iconst 17, .iastore, .dup, .iconst 2, .iconst 9, .iastore, .dup, .iconst 3, .iconst 24, .iastore, .dup, .iconst 4, .iconst 5, .iastore, .dup, .iconst 5, .iconst 20, .iastore, .dup, .iconst 6, .iconst 12, .iastore, .dup, .iconst 7, .iconst 3, .iastore, .dup, .iconst 8, .iconst 18, .iastore, .dup, .iconst 9, .iconst 10, .iastore, .astore 1006, .aload 0, .iconst 20, .anewarray 20, .dup, .iconst 0, .iconst 3, .iastore, .dup, .iconst 1, .iconst 6, .iastore, .dup, .iconst 2, .iconst 9, .iastore, .dup, .iconst 3, .iconst 96, .iastore, .dup, .iconst 4, .iconst 18, .iastore, .dup, .iconst 5, .iconst 66, .iastore, .dup, .iconst 6, .iconst 33, .iastore, .dup, .iconst 7, .iconst 36, .iastore, .dup, .iconst 8, .iconst 48, .iastore, .dup, .iconst 9, .iconst 72, .iastore, .dup, .iconst 10, .iconst 12, .iastore, .dup, .iconst 11, .iconst 24, .iastore, .dup, .iconst 12, .iconst 69, .iastore, .dup, .iconst 13, .iconst 81, .iastore, .dup, .iconst 14, .iconst 84, .iastore, .dup, .iconst 15, .iconst 21, .iastore, .dup, .iconst 16, .iconst 26, .iastore, .dup, .iconst 17, .iconst 41, .iastore, .dup, .iconst 18, .iconst 11, .iastore, .dup, .iconst 19, .iconst 14, .iastore, .astore 1007, .aload 0, .iconst 60, .anewarray 20, .astore 1012, .aload 0, .iconst 127, .anewarray 20, .astore 1013, .aload 0, .iconst 129, .anewarray 20, .astore 1015, .aload 0, .iconst 16, .anewarray 20, .astore 1017, .aload 0, .iconst 16, .anewarray 20, .astore 1018, .aload 0, .iconst 72, .anewarray 20, .astore 1022, .aload 0, .iconst 1152, .anewarray 20, .astore 1023, .aload 0, .iconst 1152, .anewarray 20, .astore 1024, .aload 0, .iconst 24, .anewarray 22, .astore 1025, .aload 0, .iconst 24, .anewarray 20, .astore 1026, .aload 0, .iconst 17, .anewarray 20, .astore 1031, .aload 0, .iconst 2048, .anewarray 20, .astore 1032, .return_]
def ac_185 : List Instr := [.aload 0, .getfield 1011, .ireturn]
def ac_186 : List Instr := [.aload 0, .aload 0, .getfield 1010, .iconst 20, .iadd, .iconst 60, .if_icmp .le 2, .iconst 1, .goto 1, .iconst 0, .putfield 1011, .aload 0, .getfield 1011, .ifCond .le 2, .iconst 0, .ireturn, .iconst 0, .istore 6, .goto (-318767232), .iload 6, .iconst 20, .if_icmp .ge 46, .iload 6, .iconst 4, .if_icmp .ge 2, .iload 1, .goto 16, .iload 6, .iconst 8, .if_icmp .ge 2, .iload 2, .goto 11, .iload 6, .iconst 12, .if_icmp .ge 2, .iload 3, .goto 6, .iload 6, .iconst 16, .if_icmp .ge 2, .iload 4, .goto 1, .iload 5, .istore 7, .aload 0, .getstatic 1003, .aload 0, .getfield 1010, .iload 7, .iconst 24, .iconst 8, .iload 6, .iconst 4, .irem, .imul, .isub, .ishr, .iconst 255, .iand, .iastore, .aload 0, .dup, .getfield 1010, .iconst 1, .iadd, .putfield 1010, .iinc 6 1, .goto (-318767232), .aload 0, .getfield 1010, .ireturn]
def ac_187 : List Instr := [.aload 0, .iload 1, .invokevirtual 131, .ifCond .ne 2, .iconst 1, .goto 16, .aload 0, .iload 1, .iload 2, .iload 3, .iload 4, .invokevirtual 132, .ifCond .ne 2, .iconst 2, .goto 7, .aload 0, .getfield 1008, .iconst 24, .if_icmp .ne 2, .iconst 3, .goto 1, .iconst 0, .putfield 1011, .aload 0, .getfield 1011, .ifCond .le 2, .iconst 0, .ireturn, .iconst 0, .istore 6, .goto (-520093824), .iload 6, .iload 2, .if_icmp .ge 10, .aload 0, .getstatic 1012, .iload 6, .aload 0, .getstatic 1003, .iload 6, .iaload, .iastore, .iinc 6 1, .goto (-520093824), .aload 0, .iload 1, .iload 2, .invokevirtual 133, .iconst 129, .aload 0, .getfield 1008, .imul, .istore 6, .iload 5, .istore 7, .aload 0, .getstatic 1000, .iload 6, .iconst 10, .iload 3, .imul, .iastore, .iconst 0, .istore 8, .goto (-1090519546), .iload 8, .aload 0, .getfield 1014, .if_icmp .ge 50, .iconst 1103515245, .iload 7, .imul, .iconst 12345, .iadd, .istore 7, .aload 0, .getstatic 1013, .iload 8, .iaload, .iload 3, .imul, .iload 8, .iconst 2, .irem, .ifCond .ne 2, .iload 4, .goto 2, .iload 4, .ineg, .iadd, .iload 5, .ifCond .ne 2, .iconst 0, .goto 7, .iload 7, .iconst 16, .iushr, .iconst 3, .irem, .iconst 1, .isub, .iadd, .istore 9, .aload 0, .getstatic 1000, .iload 6, .iload 8, .iadd, .iconst 1, .iadd, .iload 9, .iconst 1, .if_icmp .ge 2, .iconst 1, .goto 1, .iload 9, .iastore, .iinc 8 1, .goto (-1090519546), .aload 0, .getstatic 1000, .iload 6, .aload 0, .getfield 1014, .iadd, .iconst 1, .iadd, .iconst 10, .iload 3, .imul, .iastore, .aload 0, .getstatic 1001, .aload 0, .getfield 1008, .aload 0, .getfield 1014, .iconst 2, .iadd, .iastore, .aload 0, .iconst 0, .putfield 1010, .aload 0, .dup, .getfield 1008, .iconst 1, .iadd, .putfield 1008, .aload 0, .getfield 1008, .iconst 1, .isub, .ireturn]
def ac_188 : List Instr := [.iload 0, .i2l, .bipush 0, .bipush 2, .invokevirtual 134, .dreturn]
def ac_189 : List Instr := [.lload 0, .lload 2, .lcmp, .ifCond .lt 6, .lload 0, .lload 4, .lcmp, .ifCond .gt 2, .iconst 1, .goto 1, .iconst 0, .dreturn]
def ac_190 : List Instr := [.iload 2, .i2l, .bipush 0, .aload 0, .getfield 1010, .i2l, .invokevirtual 134, .ifCond .eq 23, .iload 3, .i2l, .bipush 4, .bipush 40, .invokevirtual 134, .ifCond .eq 17, .iload 4, .i2l, .bipush (-3), .bipush 3, .invokevirtual 134, .ifCond .eq 11, .iload 1, .iload 2, .invokevirtual 135, .ifCond .eq 7, .aload 0, .iload 1, .iload 2, .invokevirtual 136, .ifCond .eq 2, .iconst 1, .goto 1, .iconst 0, .dreturn]
def ac_191 : List Instr := [.iload 0, .ifCond .ne 7, .iload 1, .iconst 8, .if_icmp .ne 2, .iconst 1, .goto 24, .iconst 0, .goto 22, .iload 0, .iconst 1, .if_icmp .ne 14, .iload 1, .iconst 2, .irem, .ifCond .ne 8, .iload 1, .i2l, .bipush 2, .bipush 14, .invokevirtual 134, .ifCond .eq 2, .iconst 1, .goto 7, .iconst 0, .goto 5, .iload 1, .i2l, .bipush 3, .bipush 16, .invokevirtual 134, .dreturn]
def ac_192 : List Instr := [.iconst 0, .istore 3, .goto (-50331664), .iload 3, .iload 2, .if_icmp .ge 57, .iload 1, .iconst 2, .if_icmp .ne 9, .iload 3, .ifCond .eq 5, .iload 3, .iload 2, .iconst 1, .isub, .if_icmp .ne 2, .iconst 1, .goto 1, .iconst 0, .istore 4, .iload 1, .iconst 2, .if_icmp .eq 9, .aload 0, .getstatic 1003, .iload 3, .iaload, .i2l, .bipush 48, .bipush 57, .invokevirtual 134, .goto 24, .iload 4, .ifCond .eq 6, .aload 0, .getstatic 1003, .iload 3, .iaload, .invokevirtual 137, .goto 16, .aload 0, .getstatic 1003, .iload 3, .iaload, .invokevirtual 138, .iconst (-1), .if_icmp .eq 8, .aload 0, .getstatic 1003, .iload 3, .iaload, .invokevirtual 137, .ifCond .ne 2, .iconst 1, .goto 1, .iconst 0, .istore 5, .iload 5, .ifCond .ne 2, .iconst 0, .dreturn, .iinc 3 1, .goto (-50331664), .iconst 1, .dreturn]
def ac_193 : List Instr := [.iload 0, .i2l, .bipush 65, .bipush 68, .invokevirtual 134, .dreturn]
def ac_194 : List Instr := [.iconst 0, .istore 1, .goto (-50331652), .iload 1, .iconst 20, .if_icmp .ge 9, .ldc 6, .iload 1, .invokevirtual 80, .iload 0, .if_icmp .ne 2, .iload 1, .ireturn, .iinc 1 1, .goto (-50331652), .iconst (-1), .ireturn]
def ac_195 : List Instr := [.aload 0, .iconst 0, .putfield 1014, .iload 1, .ifCond .ne 3, .aload 0, .invokevirtual 139, .goto 10, .iload 1, .iconst 1, .if_icmp .ne 4, .aload 0, .iload 2, .invokevirtual 140, .goto 3, .aload 0, .iload 2, .invokevirtual 141, .return_]
def ac_196 : List Instr := [.aload 0, .iconst 3, .invokevirtual 142, .iconst 0, .istore 1, .goto (-100663300), .iload 1, .iconst 8, .if_icmp .ge 33, .iload 1, .iconst 4, .if_icmp .ne 3, .aload 0, .iconst 5, .invokevirtual 142, .iconst 1000, .istore 2, .goto (-301989896), .iload 2, .ifCond .le 20, .aload 0, .aload 0, .getstatic 1005, .aload 0, .getstatic 1012, .iload 1, .iaload, .iconst 48, .isub, .iaload, .iload 2, .idiv, .iconst 10, .irem, .invokevirtual 143, .iload 2, .iconst 10, .idiv, .istore 2, .goto (-301989896), .iinc 1 1, .goto (-100663300), .aload 0, .iconst 3, .invokevirtual 142, .return_]
def ac_197 : List Instr := [.iconst 0, .istore 2, .goto (-50331656), .iload 2, .iload 1, .if_icmp .ge 5, .aload 0, .iconst 1, .invokevirtual 143, .iinc 2 1, .goto (-50331656), .return_]
def ac_198 : List Instr := [.aload 0, .getstatic 1013, .aload 0, .getfield 1014, .iload 1, .iastore, .aload 0, .dup, .getfield 1014, .iconst 1, .iadd, .putfield 1014, .return_]
def ac_199 : List Instr := [.aload 0, .iconst 4, .invokevirtual 142, .iconst 0, .istore 2, .goto (-100663304), .iload 2, .iload 1, .if_icmp .ge 37, .iconst 4, .istore 3, .goto (-201326608), .iload 3, .ifCond .lt 30, .aload 0, .aload 0, .getstatic 1006, .aload 0, .getstatic 1012, .iload 2, .iaload, .iconst 48, .isub, .iaload, .iload 3, .invokevirtual 144, .invokevirtual 143, .aload 0, .aload 0, .getstatic 1006, .aload 0, .getstatic 1012, .iload 2, .iconst 1, .iadd, .iaload, .iconst 48, .isub, .iaload, .iload 3, .invokevirtual 144, .invokevirtual 143, .iinc 3 (-1), .goto (-201326608), .iinc 2 2, .goto (-100663304), .aload 0, .iconst 3, .invokevirtual 143, .aload 0, .iconst 2, .invokevirtual 142, .return_]
def ac_200 : List Instr := [.iload 0, .iload 1, .ishr, .iconst 1, .iand, .iconst 1, .if_icmp .ne 2, .iconst 3, .goto 1, .iconst 1, .ireturn]
def ac_201 : List Instr := [.iconst 0, .istore 2, .goto (-50331656), .iload 2, .iload 1, .if_icmp .ge 26, .iload 2, .ifCond .le 3, .aload 0, .iconst 1, .invokevirtual 143, .iconst 6, .istore 3, .goto (-234881040), .iload 3, .ifCond .lt 14, .aload 0, .aload 0, .getstatic 1007, .aload 0, .getstatic 1012, .iload 2, .iaload, .invokevirtual 138, .iaload, .iload 3, .invokevirtual 144, .invokevirtual 143, .iinc 3 (-1), .goto (-234881040), .iinc 2 1, .goto (-50331656), .return_]
def ac_202 : List Instr := [.aload 0, .iload 1, .invokevirtual 131, .ifCond .ne 2, .iconst 1, .goto 22, .iload 2, .i2l, .bipush 0, .aload 0, .getfield 1010, .i2l, .invokevirtual 134, .ifCond .eq 11, .iload 1, .iload 2, .iconst 1, .iadd, .invokevirtual 135, .ifCond .eq 5, .aload 0, .iload 1, .iload 2, .invokevirtual 136, .ifCond .ne 2, .iconst 2, .goto 1, .iconst 0, .putfield 1011, .aload 0, .getfield 1011, .ifCond .le 2, .iconst 0, .ireturn, .iconst 0, .istore 3, .iload 1, .iconst 2, .if_icmp .ne 26, .iconst 0, .istore 4, .goto (-704643102), .iload 4, .iload 2, .if_icmp .ge 10, .iload 3, .aload 0, .getstatic 1003, .iload 4, .iaload, .invokevirtual 138, .iadd, .istore 3, .iinc 4 1, .goto (-704643102), .ldc 6, .iconst 16, .iload 3, .iconst 16, .irem, .isub, .iconst 16, .irem, .invokevirtual 80, .ireturn, .iconst 0, .istore 4, .goto (-1140850718), .iload 4, .iload 2, .if_icmp .ge 19, .iload 3, .iload 4, .iconst 2, .irem, .ifCond .ne 2, .iconst 3, .goto 1, .iconst 1, .aload 0, .getstatic 1003, .iload 4, .iaload, .iconst 48, .isub, .imul, .iadd, .istore 3, .iinc 4 1, .goto (-1140850718), .iconst 48, .iconst 10, .iload 3, .iconst 10, .irem, .isub, .iconst 10, .irem, .iadd, .ireturn]
def ac_203 : List Instr := [.iload 1, .iconst 0, .invokevirtual 145, .ifCond .eq 22, .iload 2, .iconst 0, .invokevirtual 145, .ifCond .eq 18, .iload 3, .iconst 0, .invokevirtual 145, .ifCond .eq 14, .iload 4, .iconst 0, .invokevirtual 145, .ifCond .eq 10, .iload 5, .iconst 0, .invokevirtual 145, .ifCond .eq 6, .iload 6, .iconst 0, .invokevirtual 145, .ifCond .eq 2, .iconst 1, .goto 1, .iconst 0, .istore 7, .goto (-486539520), .iload 1, .ifCond .ne 2, .iconst 0, .goto 21, .iload 2, .ifCond .ne 2, .iconst 1, .goto 17, .iload 3, .ifCond .ne 2, .iconst 2, .goto 13, .iload 4, .ifCond .ne 2, .iconst 3, .goto 9, .iload 5, .ifCond .ne 2, .iconst 4, .goto 5, .iload 6, .ifCond .ne 2, .iconst 5, .goto 1, .iconst 6, .istore 8, .goto (-939524608), .aload 0, .iload 7, .ifCond .ne 2, .iconst 1, .goto 9, .aload 0, .getfield 1009, .iload 8, .iadd, .iconst 129, .if_icmp .le 2, .iconst 2, .goto 1, .iconst 0, .putfield 1011, .aload 0, .getfield 1011, .ifCond .le 2, .iconst 0, .ireturn, .iconst 0, .istore 9, .goto (-1325400960), .iload 9, .iload 8, .if_icmp .ge 38, .aload 0, .getstatic 1002, .aload 0, .getfield 1009, .iload 9, .ifCond .ne 2, .iload 1, .goto 21, .iload 9, .iconst 1, .if_icmp .ne 2, .iload 2, .goto 16, .iload 9, .iconst 2, .if_icmp .ne 2, .iload 3, .goto 11, .iload 9, .iconst 3, .if_icmp .ne 2, .iload 4, .goto 6, .iload 9, .iconst 4, .if_icmp .ne 2, .iload 5, .goto 1, .iload 6, .iastore, .aload 0, .dup, .getfield 1009, .iconst 1, .iadd, .putfield 1009, .iinc 9 1, .goto (-1325400960), .aload 0, .getfield 1009, .ireturn]
def ac_204 : List Instr := [.iload 0, .i2l, .iload 1, .i2l, .bipush 10000, .invokevirtual 134, .dreturn]
def ac_205 : List Instr := [.aload 0, .aload 0, .getfield 1009, .iconst 3, .if_icmp .lt 9, .aload 0, .getfield 1009, .iconst 2, .irem, .ifCond .eq 4, .aload 0, .getfield 1008, .iconst 24, .if_icmp .ne 2, .iconst 1, .goto 1, .iconst 0, .putfield 1011, .aload 0, .getfield 1011, .ifCond .le 2, .iconst 0, .ireturn, .iconst 0, .istore 1, .goto (-436207620), .iload 1, .aload 0, .getfield 1009, .if_icmp .ge 15, .aload 0, .getstatic 1000, .iconst 129, .aload 0, .getfield 1008, .imul, .iload 1, .iadd, .aload 0, .getstatic 1002, .iload 1, .iaload, .iastore, .iinc 1 1, .goto (-436207620), .aload 0, .getstatic 1001, .aload 0, .getfield 1008, .aload 0, .getfield 1009, .iastore, .aload 0, .iconst 0, .putfield 1009, .aload 0, .dup, .getfield 1008, .iconst 1, .iadd, .putfield 1008, .aload 0, .getfield 1008, .iconst 1, .isub, .ireturn]
def ac_206 : List Instr := [.aload 0, .iconst 0, .putfield 1011, .aload 0, .getfield 1008, .ireturn]
def ac_207 : List Instr := [.aload 0, .aload 0, .iload 1, .invokevirtual 146, .ifCond .eq 2, .iconst 0, .goto 1, .iconst 1, .putfield 1011, .aload 0, .getfield 1011, .ifCond .le 2, .iconst 0, .goto 4, .aload 0, .getstatic 1001, .iload 1, .iaload, .ireturn]
def ac_208 : List Instr := [.iload 1, .i2l, .bipush 0, .aload 0, .getfield 1008, .iconst 1, .isub, .i2l, .invokevirtual 134, .dreturn]
def ac_209 : List Instr := [.aload 0, .aload 0, .iload 1, .iload 2, .invokevirtual 147, .ifCond .eq 2, .iconst 0, .goto 1, .iconst 1, .putfield 1011, .aload 0, .getfield 1011, .ifCond .le 2, .iconst 0, .goto 8, .aload 0, .getstatic 1000, .iconst 129, .iload 1, .imul, .iload 2, .iadd, .iaload, .ireturn]
def ac_210 : List Instr := [.aload 0, .iload 1, .invokevirtual 146, .ifCond .eq 14, .iload 2, .i2l, .bipush 0, .aload 0, .getstatic 1001, .iload 1, .iaload, .iconst 1, .isub, .i2l, .invokevirtual 134, .ifCond .eq 2, .iconst 1, .goto 1, .iconst 0, .dreturn]
def ac_211 : List Instr := [.aload 0, .aload 0, .iload 1, .iload 2, .invokevirtual 147, .ifCond .ne 2, .iconst 1, .goto 7, .iload 3, .iconst 1, .invokevirtual 145, .ifCond .ne 2, .iconst 2, .goto 1, .iconst 0, .putfield 1011, .aload 0, .getfield 1011, .ifCond .le 2, .iconst 0, .ireturn, .aload 0, .getstatic 1000, .iconst 129, .iload 1, .imul, .iload 2, .iadd, .iaload, .istore 4, .aload 0, .getstatic 1000, .iconst 129, .iload 1, .imul, .iload 2, .iadd, .iload 3, .iastore, .iload 4, .ireturn]
def ac_212 : List Instr := [.aload 0, .aload 0, .iload 1, .iload 2, .invokevirtual 147, .ifCond .eq 5, .aload 0, .iload 1, .iload 3, .invokevirtual 147, .ifCond .ne 2, .iconst 1, .goto 18, .iload 2, .iconst 2, .irem, .iconst 1, .if_icmp .eq 10, .iload 3, .iconst 2, .irem, .iconst 1, .if_icmp .eq 5, .iload 3, .iload 2, .iconst 2, .iadd, .if_icmp .ge 2, .iconst 2, .goto 1, .iconst 0, .putfield 1011, .aload 0, .getfield 1011, .ifCond .le 2, .iconst 0, .ireturn, .aload 0, .getstatic 1001, .iload 1, .iload 3, .iload 2, .isub, .iconst 1, .iadd, .iastore, .iconst 0, .istore 4, .goto (-822083608), .iload 4, .aload 0, .getstatic 1001, .iload 1, .iaload, .if_icmp .ge 20, .aload 0, .getstatic 1000, .iconst 129, .iload 1, .imul, .iload 4, .iadd, .aload 0, .getstatic 1000, .iconst 129, .iload 1, .imul, .iload 2, .iadd, .iload 4, .iadd, .iaload, .iastore, .iinc 4 1, .goto (-822083608), .aload 0, .getstatic 1001, .iload 1, .iaload, .ireturn]
def ac_213 : List Instr := [.aload 0, .aload 0, .iload 1, .invokevirtual 146, .ifCond .eq 2, .iconst 0, .goto 1, .iconst 1, .putfield 1011, .aload 0, .getfield 1011, .ifCond .le 1, .return_, .aload 0, .iload 1, .iconst 1, .invokevirtual 148, .iconst 0, .istore 2, .goto (-335544328), .iload 2, .aload 0, .getfield 1016, .if_icmp .ge 14, .aload 0, .getstatic 1000, .iconst 129, .iload 1, .imul, .iload 2, .iadd, .aload 0, .getstatic 1015, .iload 2, .iaload, .iastore, .iinc 2 1, .goto (-335544328), .return_]
def ac_214 : List Instr := [.aload 0, .aload 0, .getstatic 1001, .iload 1, .iaload, .putfield 1016, .iconst 0, .istore 3, .goto (-150994960), .iload 3, .aload 0, .getfield 1016, .if_icmp .ge 23, .aload 0, .getstatic 1015, .iload 3, .aload 0, .getstatic 1000, .iconst 129, .iload 1, .imul, .iload 2, .ifCond .eq 7, .aload 0, .getfield 1016, .iconst 1, .isub, .iload 3, .isub, .goto 1, .iload 3, .iadd, .iaload, .iastore, .iinc 3 1, .goto (-150994960), .return_]
def ac_215 : List Instr := [.aload 0, .aload 0, .iload 1, .invokevirtual 146, .ifCond .ne 2, .iconst 1, .goto 9, .iload 2, .i2l, .bipush (-100), .bipush 100, .invokevirtual 134, .ifCond .ne 2, .iconst 2, .goto 1, .iconst 0, .putfield 1011, .aload 0, .getfield 1011, .ifCond .le 2, .iconst 0, .ireturn, .iconst 0, .istore 3, .iconst 1, .istore 4, .goto (-452984864), .iload 4, .aload 0, .getstatic 1001, .iload 1, .iaload, .iconst 1, .isub, .if_icmp .ge 50, .aload 0, .getstatic 1000, .iconst 129, .iload 1, .imul, .iload 4, .iadd, .iaload, .iload 4, .iconst 2, .irem, .iconst 1, .if_icmp .ne 2, .iload 2, .goto 2, .iload 2, .ineg, .iadd, .istore 5, .iload 3, .iload 5, .iconst 1, .invokevirtual 145, .ifCond .eq 2, .iconst 0, .goto 1, .iconst 1, .iadd, .istore 3, .aload 0, .getstatic 1000, .iconst 129, .iload 1, .imul, .iload 4, .iadd, .iload 5, .iconst 1, .if_icmp .ge 2, .iconst 1, .goto 6, .iload 5, .iconst 10000, .if_icmp .le 2, .iconst 10000, .goto 1, .iload 5, .iastore, .iinc 4 1, .goto (-452984864), .iload 3, .ireturn]
def ac_216 : List Instr := [.aload 0, .aload 0, .iload 1, .invokevirtual 146, .ifCond .eq 4, .aload 0, .iload 2, .invokevirtual 146, .ifCond .ne 2, .iconst 1, .goto 12, .aload 0, .getstatic 1001, .iload 1, .iaload, .aload 0, .getstatic 1001, .iload 2, .iaload, .if_icmp .eq 2, .iconst 2, .goto 1, .iconst 0, .putfield 1011, .iconst 0, .istore 3, .goto (-452984848), .aload 0, .getfield 1011, .ifCond .ne 37, .iload 3, .aload 0, .getstatic 1001, .iload 1, .iaload, .if_icmp .ge 31, .aload 0, .getstatic 1000, .iconst 129, .iload 1, .imul, .iload 3, .iadd, .aload 0, .getstatic 1000, .iconst 129, .iload 1, .imul, .iload 3, .iadd, .iaload, .aload 0, .getstatic 1000, .iconst 129, .iload 2, .imul, .iload 3, .iadd, .iaload, .iadd, .iconst 1, .iadd, .iconst 2, .idiv, .iastore, .iinc 3 1, .goto (-452984848), .return_]
def ac_217 : List Instr := [.aload 0, .aload 0, .iload 1, .invokevirtual 146, .ifCond .eq 2, .iconst 0, .goto 1, .iconst 1, .putfield 1011, .aload 0, .getfield 1011, .ifCond .le 2, .iconst 0, .ireturn, .aload 0, .dup, .getfield 1008, .iconst 1, .isub, .putfield 1008, .iload 1, .istore 2, .goto (-385875976), .iload 2, .aload 0, .getfield 1008, .if_icmp .ge 12, .aload 0, .getstatic 1001, .iload 2, .aload 0, .getstatic 1001, .iload 2, .iconst 1, .iadd, .iaload, .iastore, .iinc 2 1, .goto (-385875976), .iconst 129, .iload 1, .imul, .istore 2, .goto (-738197510), .iload 2, .iconst 129, .aload 0, .getfield 1008, .imul, .if_icmp .ge 12, .aload 0, .getstatic 1000, .iload 2, .aload 0, .getstatic 1000, .iload 2, .iconst 129, .iadd, .iaload, .iastore, .iinc 2 1, .goto (-738197510), .aload 0, .getfield 1008, .ireturn]
def ac_218 : List Instr := [.aload 0, .iload 1, .iload 2, .invokevirtual 149, .ifCond .eq 5, .aload 0, .iload 1, .iconst 0, .invokevirtual 150, .goto 1, .iconst 0, .ireturn]
def ac_219 : List Instr := [.aload 0, .aload 0, .iload 1, .invokevirtual 146, .ifCond .eq 5, .iload 2, .invokevirtual 131, .ifCond .eq 2, .iconst 0, .goto 1, .iconst 1, .putfield 1011, .aload 0, .getfield 1011, .ifCond .ne 4, .aload 0, .iload 1, .iload 2, .invokevirtual 151, .aload 0, .getfield 1011, .ifCond .ne 2, .iconst 1, .goto 1, .iconst 0, .dreturn]
def ac_220 : List Instr := [.iconst 0, .istore 3, .goto (-50331664), .iload 3, .iconst 3, .if_icmp .ge 11, .aload 0, .getstatic 1022, .iconst 3, .iload 1, .imul, .iload 3, .iadd, .iconst 0, .iastore, .iinc 3 1, .goto (-50331664), .aload 0, .getstatic 1025, .iload 1, .iconst 0, .bastore, .aload 0, .iload 1, .iconst 0, .invokevirtual 148, .aload 0, .iload 1, .iload 2, .invokevirtual 152, .ifCond .eq 1, .return_, .aload 0, .iload 1, .iconst 1, .invokevirtual 148, .aload 0, .getstatic 1025, .iload 1, .iconst 1, .bastore, .aload 0, .iload 1, .iload 2, .invokevirtual 152, .ifCond .eq 1, .return_, .aload 0, .iload 1, .iconst 0, .invokevirtual 148, .aload 0, .getstatic 1025, .iload 1, .iconst 0, .bastore, .aload 0, .iload 1, .iload 2, .invokevirtual 153, .ifCond .eq 1, .return_, .aload 0, .iload 1, .iconst 1, .invokevirtual 148, .aload 0, .getstatic 1025, .iload 1, .aload 0, .iload 1, .iload 2, .invokevirtual 153, .bastore, .return_]
def ac_221 : List Instr := [.iconst 1, .istore 3, .goto (-50331664), .iload 3, .aload 0, .getfield 1016, .if_icmp .ge 19, .aload 0, .iload 2, .iload 3, .invokevirtual 154, .ifCond .ne 1, .goto 11, .aload 0, .iload 1, .iconst 0, .invokevirtual 155, .aload 0, .getstatic 1026, .iload 1, .iload 3, .iastore, .iconst 1, .dreturn, .iinc 3 2, .goto (-50331664), .iconst 0, .dreturn]
def ac_222 : List Instr := [.aload 0, .iconst 0, .putfield 1019, .aload 0, .iload 1, .iload 2, .invokevirtual 156, .ifCond .eq 21, .iload 1, .ifCond .ne 5, .aload 0, .iload 2, .invokevirtual 157, .ifCond .eq 15, .goto 12, .iload 1, .iconst 1, .if_icmp .ne 5, .aload 0, .iload 2, .invokevirtual 158, .ifCond .eq 7, .goto 4, .aload 0, .iload 2, .invokevirtual 159, .ifCond .eq 2, .iconst 1, .goto 1, .iconst 0, .dreturn]
def ac_223 : List Instr := [.iload 1, .invokevirtual 160, .istore 3, .aload 0, .iload 2, .iload 3, .invokevirtual 161, .ifCond .ne 2, .iconst 0, .dreturn, .iload 1, .iconst 2, .if_icmp .ne 9, .aload 0, .iload 2, .invokevirtual 162, .iconst 16, .if_icmp .lt 2, .iconst 1, .goto 6, .iconst 0, .goto 4, .aload 0, .iload 2, .iload 3, .invokevirtual 163, .istore 4, .iload 4, .ifCond .eq 15, .aload 0, .getstatic 1015, .iload 2, .iconst 1, .isub, .iaload, .iconst 5, .aload 0, .iload 2, .iload 3, .invokevirtual 164, .imul, .if_icmp .lt 2, .iconst 1, .goto 1, .iconst 0, .dreturn]
def ac_224 : List Instr := [.iload 0, .ifCond .ne 2, .iconst 3, .goto 6, .iload 0, .iconst 1, .if_icmp .ne 2, .iconst 4, .goto 1, .iconst 7, .ireturn]
def ac_225 : List Instr := [.iload 1, .ifCond .lt 8, .iload 1, .iload 2, .iadd, .aload 0, .getfield 1016, .if_icmp .gt 2, .iconst 1, .goto 1, .iconst 0, .dreturn]
def ac_226 : List Instr := [.aload 0, .iload 1, .iconst 7, .invokevirtual 161, .ifCond .eq 6, .aload 0, .iload 1, .iconst 7, .iconst 1, .invokevirtual 165, .ifCond .ne 2, .iconst (-1), .ireturn, .iconst 0, .istore 2, .goto (-268435462), .iload 2, .iconst 20, .if_icmp .ge 11, .aload 0, .getstatic 1007, .iload 2, .iaload, .aload 0, .getfield 1020, .if_icmp .ne 2, .iload 2, .ireturn, .iinc 2 1, .goto (-268435462), .iconst (-1), .ireturn]
def ac_227 : List Instr := [.aload 0, .getstatic 1015, .iload 1, .iaload, .istore 4, .aload 0, .getstatic 1015, .iload 1, .iaload, .istore 5, .iconst 0, .istore 6, .goto (-218103936), .iload 6, .iload 2, .if_icmp .ge 44, .aload 0, .getstatic 1015, .iload 1, .iload 3, .iload 6, .imul, .iadd, .iaload, .iload 4, .if_icmp .ge 9, .aload 0, .getstatic 1015, .iload 1, .iload 3, .iload 6, .imul, .iadd, .iaload, .goto 1, .iload 4, .istore 4, .aload 0, .getstatic 1015, .iload 1, .iload 3, .iload 6, .imul, .iadd, .iaload, .iload 5, .if_icmp .le 9, .aload 0, .getstatic 1015, .iload 1, .iload 3, .iload 6, .imul, .iadd, .iaload, .goto 1, .iload 5, .istore 5, .iinc 6 1, .goto (-218103936), .iconst 2, .iload 5, .imul, .iconst 3, .iload 4, .imul, .if_icmp .ge 2, .iconst 0, .dreturn, .iload 5, .istore 6, .iload 4, .istore 7, .aload 0, .iconst 0, .putfield 1020, .iconst 0, .istore 8, .goto (-1325400576), .iload 8, .iload 2, .if_icmp .ge 52, .aload 0, .getstatic 1015, .iload 1, .iload 3, .iload 8, .imul, .iadd, .iaload, .istore 9, .iconst 2, .iload 9, .imul, .iload 4, .iload 5, .iadd, .if_icmp .le 2, .iconst 1, .goto 1, .iconst 0, .istore 10, .aload 0, .iconst 2, .aload 0, .getfield 1020, .imul, .iload 10, .ifCond .eq 2, .iconst 1, .goto 1, .iconst 0, .iadd, .putfield 1020, .iload 10, .ifCond .eq 5, .iload 9, .iload 6, .if_icmp .ge 2, .iload 9, .goto 1, .iload 6, .istore 6, .iload 10, .ifCond .ne 5, .iload 9, .iload 7, .if_icmp .le 2, .iload 9, .goto 1, .iload 7, .istore 7, .iinc 8 1, .goto (-1325400576), .aload 0, .iconst 150, .iload 6, .iload 7, .isub, .imul, .iload 6, .idiv, .putfield 1021, .aload 0, .aload 0, .getfield 1021, .iconst 100, .if_icmp .le 2, .iconst 100, .goto 2, .aload 0, .getfield 1021, .putfield 1021, .iconst 1, .dreturn]
def ac_228 : List Instr := [.iconst 0, .istore 3, .iload 1, .istore 4, .goto (-83886112), .iload 4, .iload 1, .iload 2, .iadd, .if_icmp .ge 15, .aload 0, .getstatic 1015, .iload 4, .iaload, .iload 3, .if_icmp .le 5, .aload 0, .getstatic 1015, .iload 4, .iaload, .goto 1, .iload 3, .istore 3, .iinc 4 1, .goto (-83886112), .iload 3, .iconst 2, .aload 0, .iload 1, .iload 2, .invokevirtual 164, .imul, .if_icmp .gt 2, .iconst 1, .goto 1, .iconst 0, .dreturn]
def ac_229 : List Instr := [.aload 0, .getstatic 1015, .iload 1, .iaload, .istore 3, .iload 1, .istore 4, .goto (-134217760), .iload 4, .iload 1, .iload 2, .iadd, .if_icmp .ge 15, .aload 0, .getstatic 1015, .iload 4, .iaload, .iload 3, .if_icmp .ge 5, .aload 0, .getstatic 1015, .iload 4, .iaload, .goto 1, .iload 3, .istore 3, .iinc 4 1, .goto (-134217760), .iload 3, .ireturn]
def ac_230 : List Instr := [.aload 0, .iload 1, .iconst 44, .invokevirtual 161, .ifCond .eq 28, .aload 0, .iload 1, .iconst 3, .iadd, .invokevirtual 166, .ifCond .eq 22, .aload 0, .iload 1, .iconst 19, .iadd, .iconst 5, .invokevirtual 163, .ifCond .eq 15, .aload 0, .iload 1, .iconst 24, .iadd, .invokevirtual 166, .ifCond .eq 9, .aload 0, .iconst 0, .iload 1, .iconst 42, .iadd, .invokevirtual 167, .ifCond .eq 2, .iconst 1, .goto 1, .iconst 0, .dreturn]
def ac_231 : List Instr := [.iconst 0, .istore 2, .goto (-50331656), .iload 2, .iconst 4, .if_icmp .ge 12, .aload 0, .iload 1, .iconst 4, .iload 2, .imul, .iadd, .invokevirtual 168, .ifCond .ne 2, .iconst 0, .dreturn, .iinc 2 1, .goto (-50331656), .iconst 1, .dreturn]
def ac_232 : List Instr := [.aload 0, .iload 1, .iconst 4, .invokevirtual 161, .ifCond .ne 2, .iconst 0, .dreturn, .aload 0, .getstatic 1015, .iload 1, .iaload, .aload 0, .getstatic 1015, .iload 1, .iconst 1, .iadd, .iaload, .iadd, .aload 0, .getstatic 1015, .iload 1, .iconst 2, .iadd, .iaload, .iadd, .aload 0, .getstatic 1015, .iload 1, .iconst 3, .iadd, .iaload, .iadd, .istore 2, .iconst 7, .aload 0, .getstatic 1015, .iload 1, .iaload, .aload 0, .getstatic 1015, .iload 1, .iconst 1, .iadd, .iaload, .iadd, .imul, .istore 3, .iconst 7, .aload 0, .getstatic 1015, .iload 1, .iconst 1, .iadd, .iaload, .aload 0, .getstatic 1015, .iload 1, .iconst 2, .iadd, .iaload, .iadd, .imul, .istore 4, .iload 3, .iload 2, .invokevirtual 169, .istore 5, .iload 4, .iload 2, .invokevirtual 169, .istore 6, .iload 5, .iload 6, .iconst 7, .aload 0, .getstatic 1015, .iload 1, .iaload, .aload 0, .getstatic 1015, .iload 1, .iconst 2, .iadd, .iaload, .iadd, .imul, .iconst 3, .iload 2, .imul, .if_icmp .lt 2, .iconst 1, .goto 1, .iconst 0, .invokevirtual 170, .istore 7, .iload 7, .iconst (-1), .if_icmp .ne 2, .iconst 0, .dreturn, .iload 3, .iload 5, .iload 2, .imul, .invokevirtual 171, .istore 8, .iload 4, .iload 6, .iload 2, .imul, .invokevirtual 171, .istore 9, .aload 0, .iconst 48, .iload 7, .iadd, .iconst 100, .iconst 200, .iload 8, .iload 9, .if_icmp .le 2, .iload 8, .goto 1, .iload 9, .imul, .iload 2, .idiv, .isub, .invokevirtual 172, .iconst 1, .dreturn]
def ac_233 : List Instr := [.iconst 2, .iload 0, .imul, .iload 1, .iadd, .iconst 2, .iload 1, .imul, .idiv, .ireturn]
def ac_234 : List Instr := [.iconst 10, .iload 0, .imul, .iload 1, .iadd, .lookupswitch 24 #[(22, 8), (24, 4), (33, 18), (35, 6), (42, 10), (44, 12), (53, 0), (55, 2)], .iconst 0, .ireturn, .iconst 3, .ireturn, .iconst 4, .ireturn, .iconst 5, .ireturn, .iconst 6, .ireturn, .iconst 9, .ireturn, .iload 2, .ifCond .eq 2, .iconst 1, .goto 1, .iconst 7, .ireturn, .iload 2, .ifCond .eq 2, .iconst 2, .goto 1, .iconst 8, .ireturn, .iconst (-1), .ireturn]
def ac_235 : List Instr := [.iload 0, .iload 1, .if_icmp .le 4, .iload 0, .iload 1, .isub, .goto 3, .iload 1, .iload 0, .isub, .ireturn]
def ac_236 : List Instr := [.aload 0, .getstatic 1017, .aload 0, .getfield 1019, .iload 1, .iastore, .aload 0, .getstatic 1018, .aload 0, .getfield 1019, .iload 2, .iastore, .aload 0, .dup, .getfield 1019, .iconst 1, .iadd, .putfield 1019, .return_]
def ac_237 : List Instr := [.iload 1, .invokevirtual 173, .istore 3, .iload 2, .iload 3, .isub, .iconst 1, .iadd, .istore 4, .aload 0, .iload 4, .iload 3, .iconst 1, .iadd, .invokevirtual 161, .ifCond .ne 2, .iconst 0, .dreturn, .iload 1, .ifCond .ne 5, .aload 0, .iload 4, .iconst 3, .invokevirtual 163, .goto 45, .iload 1, .iconst 2, .if_icmp .ne 9, .aload 0, .iload 4, .invokevirtual 162, .iconst 16, .if_icmp .lt 2, .iconst 1, .goto 35, .iconst 0, .goto 33, .iconst 2, .aload 0, .getstatic 1015, .iload 4, .iaload, .imul, .iconst 3, .aload 0, .getstatic 1015, .iload 4, .iconst 1, .iadd, .iaload, .imul, .if_icmp .lt 17, .iconst 2, .aload 0, .getstatic 1015, .iload 4, .iaload, .imul, .iconst 3, .aload 0, .getstatic 1015, .iload 4, .iconst 2, .iadd, .iaload, .imul, .if_icmp .lt 2, .iconst 1, .goto 1, .iconst 0, .istore 5, .iload 5, .ifCond .eq 15, .aload 0, .getstatic 1015, .iload 2, .iconst 1, .iadd, .iaload, .iconst 5, .aload 0, .iload 4, .iload 3, .invokevirtual 164, .imul, .if_icmp .lt 2, .iconst 1, .goto 1, .iconst 0, .dreturn]
def ac_238 : List Instr := [.iload 0, .iconst 2, .if_icmp .ne 2, .iconst 7, .goto 1, .iconst 3, .ireturn]
def ac_239 : List Instr := [.iconst 0, .istore 2, .goto (-50331656), .iload 2, .iconst 7, .if_icmp .ge 27, .aload 0, .iload 1, .iconst 4, .iadd, .iconst 10, .iload 2, .imul, .iadd, .invokevirtual 174, .ifCond .ne 2, .iconst 0, .dreturn, .aload 0, .iconst 1, .iload 1, .iconst 16, .iadd, .iconst 10, .iload 2, .imul, .iadd, .invokevirtual 167, .ifCond .eq 2, .iconst 1, .dreturn, .iinc 2 1, .goto (-50331656), .iconst 0, .dreturn]
def ac_240 : List Instr := [.aload 0, .iload 1, .iconst 10, .invokevirtual 161, .ifCond .eq 4, .aload 0, .iload 1, .invokevirtual 175, .ifCond .ne 2, .iconst 0, .dreturn, .aload 0, .iload 1, .iconst 1, .iadd, .invokevirtual 175, .ifCond .eq 2, .iconst 1, .dreturn, .aload 0, .dup, .getfield 1019, .iconst 1, .isub, .putfield 1019, .iconst 0, .dreturn]
def ac_241 : List Instr := [.aload 0, .iload 1, .iconst 5, .iconst 2, .invokevirtual 165, .ifCond .ne 2, .iconst 0, .dreturn, .iconst 0, .istore 2, .goto (-184549382), .iload 2, .iconst 10, .if_icmp .ge 19, .aload 0, .getstatic 1006, .iload 2, .iaload, .aload 0, .getfield 1020, .if_icmp .eq 1, .goto 9, .aload 0, .iconst 48, .iload 2, .iadd, .aload 0, .getfield 1021, .invokevirtual 172, .iconst 1, .dreturn, .iinc 2 1, .goto (-184549382), .iconst 0, .dreturn]
def ac_242 : List Instr := [.aload 0, .iload 1, .iconst 1, .invokevirtual 176, .ifCond .ne 2, .iconst 0, .dreturn, .iload 1, .iconst 8, .iadd, .istore 2, .goto (-201326598), .aload 0, .getfield 1019, .iconst 15, .if_icmp .ge 7, .aload 0, .iload 2, .iconst 0, .invokevirtual 176, .ifCond .eq 2, .iinc 2 8, .goto (-201326598), .aload 0, .getfield 1019, .iconst 1, .if_icmp .le 14, .aload 0, .iload 2, .iconst 1, .invokevirtual 176, .ifCond .eq 9, .aload 0, .iconst 2, .iload 2, .iconst 6, .iadd, .invokevirtual 167, .ifCond .eq 2, .iconst 1, .goto 1, .iconst 0, .dreturn]
def ac_243 : List Instr := [.aload 0, .iload 1, .invokevirtual 162, .istore 3, .iload 3, .iconst (-1), .if_icmp .eq 8, .iload 2, .iload 3, .iconst 16, .if_icmp .lt 2, .iconst 1, .goto 1, .iconst 0, .if_icmp .eq 2, .iconst 0, .dreturn, .aload 0, .ldc 6, .iload 3, .invokevirtual 80, .aload 0, .getfield 1021, .invokevirtual 172, .iconst 1, .dreturn]
def ac_244 : List Instr := [.aload 0, .getstatic 1022, .iconst 3, .iload 1, .imul, .iload 2, .iadd, .aload 0, .getfield 1019, .iastore, .iconst 0, .istore 3, .goto (-218103824), .iload 3, .aload 0, .getfield 1019, .if_icmp .ge 34, .aload 0, .getstatic 1023, .iconst 16, .iconst 3, .iload 1, .imul, .iload 2, .iadd, .imul, .iload 3, .iadd, .aload 0, .getstatic 1017, .iload 3, .iaload, .iastore, .aload 0, .getstatic 1024, .iconst 16, .iconst 3, .iload 1, .imul, .iload 2, .iadd, .imul, .iload 3, .iadd, .aload 0, .getstatic 1018, .iload 3, .iaload, .iastore, .iinc 3 1, .goto (-218103824), .return_]
def ac_245 : List Instr := [.iconst 1, .istore 3, .goto (-50331664), .iload 3, .aload 0, .getfield 1016, .if_icmp .ge 23, .aload 0, .getstatic 1022, .iconst 3, .iload 1, .imul, .iconst 1, .iadd, .iaload, .ifCond .ne 14, .aload 0, .iload 2, .iload 3, .invokevirtual 177, .aload 0, .getfield 1019, .iconst 1, .if_icmp .le 4, .aload 0, .iload 1, .iconst 1, .invokevirtual 155, .iinc 3 2, .goto (-50331664), .aload 0, .getfield 1016, .iconst 2, .isub, .istore 3, .goto (-603979792), .iload 3, .ifCond .le 23, .aload 0, .getstatic 1022, .iconst 3, .iload 1, .imul, .iconst 2, .iadd, .iaload, .ifCond .ne 14, .aload 0, .iload 2, .iload 3, .invokevirtual 178, .aload 0, .getfield 1019, .iconst 1, .if_icmp .le 4, .aload 0, .iload 1, .iconst 2, .invokevirtual 155, .iinc 3 (-2), .goto (-603979792), .aload 0, .getstatic 1022, .iconst 3, .iload 1, .imul, .iconst 1, .iadd, .iaload, .ifCond .gt 9, .aload 0, .getstatic 1022, .iconst 3, .iload 1, .imul, .iconst 2, .iadd, .iaload, .ifCond .le 2, .iconst 1, .goto 1, .iconst 0, .dreturn]
def ac_246 : List Instr := [.aload 0, .iconst 0, .putfield 1019, .aload 0, .iload 1, .iload 2, .invokevirtual 156, .ifCond .ne 1, .return_, .iconst 0, .istore 3, .iload 1, .ifCond .ne 16, .goto (-234881038), .iload 3, .iconst 4, .if_icmp .ge 53, .aload 0, .iload 2, .iconst 3, .iadd, .iconst 4, .iload 3, .imul, .iadd, .invokevirtual 168, .ifCond .eq 43, .iinc 3 1, .goto (-234881038), .iload 1, .iconst 1, .if_icmp .ne 16, .goto (-553648142), .iload 3, .iconst 7, .if_icmp .ge 34, .aload 0, .iload 2, .iconst 4, .iadd, .iconst 10, .iload 3, .imul, .iadd, .invokevirtual 174, .ifCond .eq 24, .iinc 3 1, .goto (-553648142), .aload 0, .iload 2, .iconst 1, .invokevirtual 176, .ifCond .eq 17, .goto (-905969678), .iload 3, .iconst 14, .if_icmp .ge 13, .aload 0, .iload 2, .iconst 8, .iadd, .iconst 8, .iload 3, .imul, .iadd, .iconst 0, .invokevirtual 176, .ifCond .eq 2, .iinc 3 1, .goto (-905969678), .return_]
def ac_247 : List Instr := [.aload 0, .iconst 0, .putfield 1019, .aload 0, .iload 1, .iload 2, .invokevirtual 167, .ifCond .ne 1, .return_, .aload 0, .iload 1, .iload 2, .invokevirtual 179, .istore 3, .aload 0, .iconst 0, .putfield 1019, .iload 3, .iconst 1, .isub, .istore 4, .goto (-369098776), .iload 4, .ifCond .lt 38, .iload 1, .ifCond .ne 10, .aload 0, .iload 2, .iconst 6, .isub, .iconst 4, .iload 4, .imul, .isub, .invokevirtual 168, .goto 23, .iload 1, .iconst 1, .if_icmp .ne 10, .aload 0, .iload 2, .iconst 12, .isub, .iconst 10, .iload 4, .imul, .isub, .invokevirtual 174, .goto 10, .aload 0, .iload 2, .iconst 14, .isub, .iconst 8, .iload 4, .imul, .isub, .iconst 0, .invokevirtual 176, .istore 5, .iinc 4 (-1), .goto (-369098776), .iload 1, .iconst 2, .if_icmp .ne 7, .aload 0, .iload 2, .iconst 6, .isub, .iconst 1, .invokevirtual 176, .istore 4, .return_]
def ac_248 : List Instr := [.iconst 0, .istore 3, .iconst 1, .istore 4, .goto (-83886112), .iload 4, .ifCond .eq 69, .aload 0, .iconst 0, .putfield 1019, .iload 1, .ifCond .ne 17, .iload 3, .iconst 4, .if_icmp .ge 12, .aload 0, .iload 2, .iconst 6, .isub, .iconst 4, .iload 3, .imul, .isub, .invokevirtual 168, .ifCond .eq 2, .iconst 1, .goto 39, .iconst 0, .goto 37, .iload 1, .iconst 1, .if_icmp .ne 17, .iload 3, .iconst 7, .if_icmp .ge 12, .aload 0, .iload 2, .iconst 12, .isub, .iconst 10, .iload 3, .imul, .isub, .invokevirtual 174, .ifCond .eq 2, .iconst 1, .goto 19, .iconst 0, .goto 17, .iload 3, .iconst 14, .if_icmp .ge 13, .aload 0, .iload 2, .iconst 14, .isub, .iconst 8, .iload 3, .imul, .isub, .iconst 0, .invokevirtual 176, .ifCond .eq 2, .iconst 1, .goto 1, .iconst 0, .istore 4, .iload 3, .iload 4, .ifCond .eq 2, .iconst 1, .goto 1, .iconst 0, .iadd, .istore 3, .goto (-83886112), .iload 3, .ireturn]
def ac_249 : List Instr := [.aload 0, .getstatic 1022, .iconst 3, .iload 1, .imul, .iload 2, .iadd, .iaload, .ireturn]
def ac_250 : List Instr := [.aload 0, .iload 1, .iload 2, .invokevirtual 149, .ifCond .eq 9, .aload 0, .iload 1, .iload 3, .ifCond .eq 2, .iconst 2, .goto 1, .iconst 1, .invokevirtual 150, .goto 1, .iconst 0, .ireturn]
def ac_251 : List Instr := [.aload 0, .iload 1, .iload 2, .iconst 0, .iload 3, .invokevirtual 180, .ifCond .eq 6, .aload 0, .iload 1, .iconst 0, .iload 3, .invokevirtual 181, .goto 1, .iconst 0, .ireturn]
def ac_252 : List Instr := [.aload 0, .iload 1, .iload 2, .invokevirtual 149, .ifCond .eq 15, .iload 4, .i2l, .bipush 0, .aload 0, .iload 1, .iload 3, .invokevirtual 150, .iconst 1, .isub, .i2l, .invokevirtual 134, .ifCond .ne 3, .aload 0, .iconst 1, .putfield 1011, .aload 0, .getfield 1011, .ifCond .ne 2, .iconst 1, .goto 1, .iconst 0, .dreturn]
def ac_253 : List Instr := [.aload 0, .getstatic 1023, .iconst 16, .iconst 3, .iload 1, .imul, .iload 2, .iadd, .imul, .iload 3, .iadd, .iaload, .ireturn]
def ac_254 : List Instr := [.aload 0, .iload 1, .iload 2, .iconst 0, .iload 3, .invokevirtual 180, .ifCond .eq 8, .aload 0, .iload 1, .iconst 0, .iload 3, .invokevirtual 182, .iconst 1, .isub, .goto 1, .iconst 0, .ireturn]
def ac_255 : List Instr := [.iconst 1, .aload 0, .getstatic 1024, .iconst 16, .iconst 3, .iload 1, .imul, .iload 2, .iadd, .imul, .iload 3, .iadd, .iaload, .iadd, .ireturn]
def ac_256 : List Instr := [.iload 3, .ifCond .eq 2, .iconst 2, .goto 1, .iconst 1, .istore 5, .aload 0, .iload 1, .iload 2, .iload 5, .iload 4, .invokevirtual 180, .ifCond .eq 6, .aload 0, .iload 1, .iload 5, .iload 4, .invokevirtual 181, .goto 1, .iconst 0, .ireturn]
def ac_257 : List Instr := [.aload 0, .iload 1, .iload 2, .invokevirtual 149, .ifCond .eq 7, .aload 0, .getstatic 1025, .iload 1, .baload, .ifCond .eq 2, .iconst 1, .goto 1, .iconst 0, .dreturn]
def ac_258 : List Instr := [.aload 0, .iload 1, .iload 2, .invokevirtual 183, .ifCond .eq 9, .bipush 100, .aload 0, .fload 1027, .lmul, .aload 0, .fload 1028, .ldiv, .l2i, .goto 1, .iconst 0, .ireturn]
def ac_259 : List Instr := [.aload 0, .iload 1, .iload 2, .invokevirtual 149, .ifCond .ne 2, .iconst 0, .dreturn, .aload 0, .iload 1, .iconst 0, .invokevirtual 150, .istore 3, .aload 0, .iload 3, .ifCond .ne 2, .iconst 2, .goto 1, .iconst 0, .putfield 1011, .aload 0, .getfield 1011, .ifCond .le 2, .iconst 0, .dreturn, .iconst 0, .istore 4, .goto (-452984864), .iload 4, .iload 3, .if_icmp .ge 11, .aload 0, .getstatic 1012, .iload 4, .aload 0, .iload 1, .iconst 0, .iload 4, .invokevirtual 181, .iastore, .iinc 4 1, .goto (-452984864), .aload 0, .iload 2, .iload 3, .invokevirtual 133, .aload 0, .iload 1, .aload 0, .getstatic 1025, .iload 1, .baload, .invokevirtual 148, .aload 0, .bipush 0, .fstore 1027, .aload 0, .bipush 0, .fstore 1028, .aload 0, .bipush 0, .fstore 1029, .aload 0, .bipush 0, .fstore 1030, .iconst 0, .istore 4, .goto (-1124073492), .iload 4, .aload 0, .getfield 1014, .if_icmp .ge 58, .aload 0, .getstatic 1015, .aload 0, .getstatic 1026, .iload 1, .iaload, .iload 4, .iadd, .iaload, .istore 5, .aload 0, .dup, .fload 1027, .iload 5, .i2l, .ladd, .fstore 1027, .aload 0, .dup, .fload 1028, .aload 0, .getstatic 1013, .iload 4, .iaload, .i2l, .ladd, .fstore 1028, .aload 0, .dup, .fload 1029, .iload 4, .iconst 2, .irem, .ifCond .ne 3, .iload 5, .i2l, .goto 1, .bipush 0, .ladd, .fstore 1029, .aload 0, .dup, .fload 1030, .iload 4, .iconst 2, .irem, .ifCond .ne 6, .aload 0, .getstatic 1013, .iload 4, .iaload, .i2l, .goto 1, .bipush 0, .ladd, .fstore 1030, .iinc 4 1, .goto (-1124073492), .iconst 1, .dreturn]
def ac_260 : List Instr := [.aload 0, .iload 1, .iload 2, .invokevirtual 183, .ifCond .ne 2, .iconst 0, .ireturn, .bipush 100, .aload 0, .fload 1029, .aload 0, .fload 1028, .lmul, .aload 0, .fload 1027, .aload 0, .fload 1030, .lmul, .lsub, .lmul, .lstore 3, .aload 0, .getfield 1014, .iconst 1, .iadd, .iconst 2, .idiv, .i2l, .aload 0, .fload 1028, .lmul, .lstore 5, .lload 3, .lload 5, .ldiv, .lstore 7, .lload 7, .lload 5, .lmul, .lload 3, .lcmp, .ifCond .le 4, .lload 7, .bipush 1, .lsub, .goto 1, .lload 7, .l2i, .ireturn]
def ac_261 : List Instr := [.aload 0, .aload 0, .iload 1, .invokevirtual 146, .ifCond .eq 9, .aload 0, .iload 2, .invokevirtual 146, .ifCond .eq 5, .iload 3, .invokevirtual 131, .ifCond .eq 2, .iconst 0, .goto 1, .iconst 1, .putfield 1011, .aload 0, .getfield 1011, .ifCond .le 2, .iconst 0, .ireturn, .aload 0, .iload 3, .invokevirtual 184, .aload 0, .iload 1, .iconst 0, .invokevirtual 150, .istore 4, .iload 4, .ifCond .eq 6, .aload 0, .iload 2, .iconst 0, .invokevirtual 150, .iload 4, .if_icmp .eq 2, .iconst (-1), .ireturn, .iconst 0, .istore 5, .iconst 0, .istore 6, .goto (-738197624), .iload 6, .iload 4, .if_icmp .ge 19, .iload 5, .aload 0, .iload 1, .iconst 0, .iload 6, .invokevirtual 181, .aload 0, .iload 2, .iconst 0, .iload 6, .invokevirtual 181, .if_icmp .ne 2, .iconst 1, .goto 1, .iconst 0, .iadd, .istore 5, .iinc 6 1, .goto (-738197624), .iload 5, .ireturn]
def ac_262 : List Instr := [.iconst 0, .istore 2, .goto (-50331656), .iload 2, .aload 0, .getfield 1008, .if_icmp .ge 6, .aload 0, .iload 2, .iload 1, .invokevirtual 151, .iinc 2 1, .goto (-50331656), .return_]
def ac_263 : List Instr := [.aload 0, .aload 0, .iload 1, .invokevirtual 146, .ifCond .eq 9, .aload 0, .iload 2, .invokevirtual 146, .ifCond .eq 5, .iload 3, .invokevirtual 131, .ifCond .eq 2, .iconst 0, .goto 1, .iconst 1, .putfield 1011, .aload 0, .getfield 1011, .ifCond .le 2, .iconst 0, .ireturn, .aload 0, .iload 3, .invokevirtual 184, .aload 0, .iload 1, .iload 2, .invokevirtual 185, .istore 4, .iload 4, .ifCond .ne (-570425368), .iconst (-1), .ireturn, .goto (-570425368), .aload 0, .iload 1, .iload 2, .iload 4, .invokevirtual 186, .ifCond .ne 2, .iinc 4 (-1), .goto (-570425368), .iload 4, .ireturn]
def ac_264 : List Instr := [.aload 0, .iload 1, .iconst 1, .invokevirtual 150, .istore 3, .aload 0, .iload 2, .iconst 2, .invokevirtual 150, .istore 4, .iload 3, .iload 4, .if_icmp .ge 2, .iload 3, .goto 1, .iload 4, .ireturn]
def ac_265 : List Instr := [.aload 0, .iload 1, .iconst 1, .invokevirtual 150, .iload 3, .isub, .istore 4, .iconst 0, .istore 5, .goto (-167772224), .iload 5, .iload 3, .if_icmp .ge 17, .aload 0, .iload 1, .iconst 1, .iload 4, .iload 5, .iadd, .invokevirtual 181, .aload 0, .iload 2, .iconst 2, .iload 5, .invokevirtual 181, .if_icmp .eq 2, .iconst 0, .dreturn, .iinc 5 1, .goto (-167772224), .iconst 1, .dreturn]
def ac_266 : List Instr := [.aload 0, .iload 1, .iload 2, .iload 3, .invokevirtual 187, .ireturn]
def ac_267 : List Instr := [.aload 0, .aload 0, .iload 1, .invokevirtual 146, .ifCond .eq 9, .aload 0, .iload 2, .invokevirtual 146, .ifCond .eq 5, .iload 3, .invokevirtual 131, .ifCond .eq 2, .iconst 0, .goto 1, .iconst 1, .putfield 1011, .aload 0, .getfield 1011, .ifCond .le 2, .iconst 0, .ireturn, .aload 0, .iload 3, .invokevirtual 184, .aload 0, .iload 1, .iload 2, .iload 3, .invokevirtual 188, .ireturn]
def ac_268 : List Instr := [.iload 3, .ifCond .ne 16, .aload 0, .iload 1, .iconst 1, .invokevirtual 150, .iconst 4, .if_icmp .ne 8, .aload 0, .iload 2, .iconst 2, .invokevirtual 150, .iconst 4, .if_icmp .ne 2, .iconst 8, .goto 1, .iconst 0, .ireturn, .aload 0, .iload 1, .iload 2, .invokevirtual 185, .istore 4, .goto (-402653216), .iload 4, .iconst 2, .if_icmp .lt 26, .aload 0, .iload 1, .iconst 1, .invokevirtual 150, .aload 0, .iload 2, .iconst 2, .invokevirtual 150, .iadd, .iload 4, .isub, .istore 5, .iload 3, .iload 5, .invokevirtual 135, .ifCond .eq 8, .aload 0, .iload 1, .iload 2, .iload 4, .invokevirtual 186, .ifCond .eq 2, .iload 5, .ireturn, .iinc 4 (-1), .goto (-402653216), .iconst 0, .ireturn]
def ac_269 : List Instr := [.aload 0, .iload 1, .iload 2, .iload 3, .invokevirtual 187, .istore 5, .iload 4, .i2l, .bipush 0, .iload 5, .iconst 1, .isub, .i2l, .invokevirtual 134, .ifCond .ne 3, .aload 0, .iconst 1, .putfield 1011, .aload 0, .getfield 1011, .ifCond .le 2, .iconst 0, .ireturn, .aload 0, .iload 1, .iconst 1, .invokevirtual 150, .istore 6, .iload 4, .iload 6, .if_icmp .ge 6, .aload 0, .iload 1, .iconst 1, .iload 4, .invokevirtual 181, .goto 12, .aload 0, .iload 2, .iconst 2, .iload 4, .iload 5, .isub, .aload 0, .iload 2, .iconst 2, .invokevirtual 150, .iadd, .invokevirtual 181, .ireturn]
def ac_270 : List Instr := [.aload 0, .iload 1, .invokevirtual 131, .ifCond .eq 2, .iconst 0, .goto 1, .iconst 1, .putfield 1011, .aload 0, .getfield 1011, .ifCond .le 2, .iconst 0, .ireturn, .aload 0, .iload 1, .invokevirtual 184, .iconst (-1), .istore 2, .iconst 0, .istore 3, .goto (-352321550), .iload 3, .aload 0, .getfield 1008, .if_icmp .ge 19, .aload 0, .iload 3, .iconst 0, .invokevirtual 150, .ifCond .le 12, .iload 2, .iconst (-1), .if_icmp .eq 7, .aload 0, .iload 3, .invokevirtual 189, .aload 0, .iload 2, .invokevirtual 189, .if_icmp .le 2, .iload 3, .istore 2, .iinc 3 1, .goto (-352321550), .aload 0, .iload 2, .iconst (-1), .if_icmp .ne 2, .iconst 2, .goto 1, .iconst 0, .putfield 1011, .aload 0, .getfield 1011, .ifCond .le 2, .iconst 0, .goto 1, .iload 2, .ireturn]
def ac_271 : List Instr := [.aload 0, .iload 1, .iconst 0, .iconst 0, .invokevirtual 182, .istore 2, .iconst 1, .istore 3, .goto (-150994960), .iload 3, .aload 0, .iload 1, .iconst 0, .invokevirtual 150, .if_icmp .ge 17, .aload 0, .iload 1, .iconst 0, .iload 3, .invokevirtual 182, .iload 2, .if_icmp .ge 6, .aload 0, .iload 1, .iconst 0, .iload 3, .invokevirtual 182, .goto 1, .iload 2, .istore 2, .iinc 3 1, .goto (-150994960), .iload 2, .ireturn]
def ac_272 : List Instr := [.aload 0, .iload 1, .invokevirtual 131, .ifCond .eq 2, .iconst 0, .goto 1, .iconst 1, .putfield 1011, .aload 0, .getfield 1011, .ifCond .le 2, .iconst 0, .goto 3, .aload 0, .iload 1, .invokevirtual 190, .ireturn]
def ac_273 : List Instr := [.aload 0, .iload 1, .invokevirtual 184, .aload 0, .invokevirtual 191, .istore 2, .iload 2, .ifCond .le 2, .iload 2, .ireturn, .iload 1, .ifCond .ne 12, .aload 0, .iconst 1, .invokevirtual 192, .ifCond .eq 6, .aload 0, .iconst 2, .invokevirtual 192, .ifCond .eq 2, .iconst 8, .goto 5, .iconst 0, .goto 3, .aload 0, .iload 1, .invokevirtual 193, .ireturn]
def ac_274 : List Instr := [.iconst 0, .istore 1, .goto (-50331652), .iload 1, .iconst 16, .if_icmp .gt 7, .aload 0, .getstatic 1031, .iload 1, .iconst 0, .iastore, .iinc 1 1, .goto (-50331652), .iconst 0, .istore 1, .goto (-268435460), .iload 1, .aload 0, .getfield 1008, .if_icmp .ge 20, .aload 0, .iload 1, .iconst 0, .invokevirtual 150, .ifCond .le 13, .aload 0, .getstatic 1031, .aload 0, .iload 1, .iconst 0, .invokevirtual 150, .dup2, .iaload, .aload 0, .iload 1, .invokevirtual 189, .iadd, .iastore, .iinc 1 1, .goto (-268435460), .iconst 0, .istore 1, .iconst 1, .istore 2, .goto (-754974728), .iload 2, .iconst 16, .if_icmp .gt 15, .aload 0, .getstatic 1031, .iload 2, .iaload, .aload 0, .getstatic 1031, .iload 1, .iaload, .if_icmp .le 2, .iload 2, .goto 1, .iload 1, .istore 1, .iinc 2 1, .goto (-754974728), .iload 1, .ireturn]
def ac_275 : List Instr := [.iconst 0, .istore 2, .iconst 0, .istore 3, .goto (-83886096), .iload 3, .aload 0, .getfield 1008, .if_icmp .ge 13, .iload 2, .aload 0, .iload 3, .iload 1, .invokevirtual 150, .ifCond .le 2, .iconst 1, .goto 1, .iconst 0, .ior, .istore 2, .iinc 3 1, .goto (-83886096), .iload 2, .dreturn]
def ac_276 : List Instr := [.iconst 16, .istore 2, .goto (-50331656), .iload 2, .iconst 2, .if_icmp .lt 53, .iconst 0, .istore 3, .goto (-150994960), .iload 3, .aload 0, .getfield 1008, .if_icmp .ge 44, .iconst 0, .istore 4, .goto (-268435488), .iload 4, .aload 0, .getfield 1008, .if_icmp .ge 35, .aload 0, .iload 3, .iconst 1, .invokevirtual 150, .aload 0, .iload 4, .iconst 2, .invokevirtual 150, .iadd, .iload 2, .isub, .istore 5, .iload 3, .iload 4, .if_icmp .eq 18, .iload 2, .aload 0, .iload 3, .iload 4, .invokevirtual 185, .if_icmp .gt 12, .iload 1, .iload 5, .invokevirtual 135, .ifCond .eq 8, .aload 0, .iload 3, .iload 4, .iload 2, .invokevirtual 186, .ifCond .eq 2, .iload 5, .ireturn, .iinc 4 1, .goto (-268435488), .iinc 3 1, .goto (-150994960), .iinc 2 (-1), .goto (-50331656), .iconst 0, .ireturn]
def ac_277 : List Instr := [.aload 0, .iload 1, .iload 2, .invokevirtual 194, .ifCond .ne 2, .iconst 0, .ireturn, .iload 3, .iconst (-1), .if_icmp .ne 4, .aload 0, .iload 2, .invokevirtual 195, .goto 16, .iload 3, .i2l, .bipush 0, .bipush 127, .invokevirtual 134, .ifCond .eq 9, .aload 0, .getstatic 1032, .iconst 128, .iload 2, .imul, .iload 3, .iadd, .iaload, .goto 1, .iconst 0, .ireturn]
def ac_278 : List Instr := [.aload 0, .iload 1, .invokevirtual 131, .ifCond .eq 13, .iload 2, .i2l, .bipush 0, .aload 0, .iload 1, .invokevirtual 196, .iconst 1, .isub, .i2l, .invokevirtual 134, .ifCond .eq 2, .iconst 0, .goto 1, .iconst 1, .putfield 1011, .aload 0, .getfield 1011, .ifCond .ne 2, .iconst 1, .goto 1, .iconst 0, .dreturn]
def ac_279 : List Instr := [.aload 0, .iload 1, .invokevirtual 190, .istore 2, .iconst 0, .istore 3, .goto (-117440526), .iload 3, .iconst 2048, .if_icmp .ge 7, .aload 0, .getstatic 1032, .iload 3, .iconst 0, .iastore, .iinc 3 1, .goto (-117440526), .iconst 0, .istore 3, .goto (-335544334), .iload 3, .aload 0, .getfield 1008, .if_icmp .ge 42, .iload 2, .ifCond .le 40, .aload 0, .iload 3, .iconst 0, .invokevirtual 150, .iload 2, .if_icmp .ne 5, .aload 0, .iload 3, .iconst 0, .iconst 0, .invokevirtual 197, .aload 0, .iload 3, .iconst 1, .invokevirtual 150, .iload 2, .if_icmp .gt 5, .aload 0, .iload 3, .iconst 1, .iconst 0, .invokevirtual 197, .aload 0, .iload 3, .iconst 2, .invokevirtual 150, .iload 2, .if_icmp .gt 10, .aload 0, .iload 3, .iconst 2, .iload 2, .aload 0, .iload 3, .iconst 2, .invokevirtual 150, .isub, .invokevirtual 197, .iinc 3 1, .goto (-335544334), .iload 2, .ireturn]
def ac_280 : List Instr := [.iconst 0, .istore 4, .goto (-50331680), .iload 4, .aload 0, .iload 1, .iload 2, .invokevirtual 150, .if_icmp .ge 24, .aload 0, .getstatic 1032, .iconst 128, .iload 3, .iload 4, .iadd, .imul, .aload 0, .iload 1, .iload 2, .iload 4, .invokevirtual 181, .iadd, .dup2, .iaload, .aload 0, .iload 1, .iload 2, .iload 4, .invokevirtual 182, .iadd, .iastore, .iinc 4 1, .goto (-50331680), .return_]
def ac_281 : List Instr := [.iconst 0, .istore 2, .iconst 0, .istore 3, .goto (-83886096), .iload 3, .iconst 128, .if_icmp .ge 13, .iload 2, .aload 0, .getstatic 1032, .iconst 128, .iload 1, .imul, .iload 3, .iadd, .iaload, .iadd, .istore 2, .iinc 3 1, .goto (-83886096), .iload 2, .ireturn]
def ac_282 : List Instr := [.aload 0, .iload 1, .iload 2, .invokevirtual 194, .ifCond .eq 4, .aload 0, .iload 2, .invokevirtual 198, .goto 1, .iconst 0, .ireturn]
def ac_283 : List Instr := [.aload 0, .iload 1, .invokevirtual 195, .istore 2, .iconst 0, .istore 3, .goto (-117440528), .iload 3, .iconst 128, .if_icmp .ge 16, .iconst 2, .aload 0, .getstatic 1032, .iconst 128, .iload 1, .imul, .iload 3, .iadd, .iaload, .imul, .iload 2, .if_icmp .le 2, .iload 3, .ireturn, .iinc 3 1, .goto (-117440528), .iconst (-1), .ireturn]
def ac_284 : List Instr := [.aload 0, .iload 1, .iload 2, .invokevirtual 194, .ifCond .ne 2, .iconst 0, .ireturn, .iconst (-1), .istore 3, .iconst (-1), .istore 4, .iconst 0, .istore 5, .goto (-234881086), .iload 5, .iconst 128, .if_icmp .ge 47, .aload 0, .getstatic 1032, .iconst 128, .iload 2, .imul, .iload 5, .iadd, .iaload, .istore 6, .iload 6, .ifCond .ne 1, .goto 33, .iload 3, .iconst (-1), .if_icmp .eq 10, .iload 6, .aload 0, .getstatic 1032, .iconst 128, .iload 2, .imul, .iload 3, .iadd, .iaload, .if_icmp .le 5, .iload 3, .istore 4, .iload 5, .istore 3, .goto 15, .iload 4, .iconst (-1), .if_icmp .eq 10, .iload 6, .aload 0, .getstatic 1032, .iconst 128, .iload 2, .imul, .iload 4, .iadd, .iaload, .if_icmp .le 2, .iload 5, .istore 4, .iinc 5 1, .goto (-234881086), .iload 4, .ireturn]
def ac_285 : List Instr := [.aload 0, .iload 1, .invokevirtual 131, .ifCond .eq 2, .iconst 0, .goto 1, .iconst 1, .putfield 1011, .aload 0, .getfield 1011, .ifCond .le 2, .iconst 0, .goto 3, .aload 0, .iload 1, .invokevirtual 199, .ireturn]
def ac_286 : List Instr := [.aload 0, .iload 1, .invokevirtual 196, .istore 2, .iload 2, .ifCond .ne 2, .iconst 1, .ireturn, .aload 0, .iconst 0, .iload 2, .invokevirtual 200, .iconst (-1), .if_icmp .eq 2, .iconst 2, .ireturn, .aload 0, .getstatic 1004, .iload 1, .baload, .ifCond .eq 9, .aload 0, .iload 1, .iload 2, .iconst (-1), .iconst (-1), .invokevirtual 201, .ifCond .ne 2, .iconst 3, .goto 1, .iconst 0, .ireturn]
def ac_287 : List Instr := [.iload 1, .istore 3, .goto (-50331662), .iload 3, .iload 2, .if_icmp .ge 9, .aload 0, .iload 3, .invokevirtual 198, .iconst (-1), .if_icmp .ne 2, .iload 3, .ireturn, .iinc 3 1, .goto (-50331662), .iconst (-1), .ireturn]
def ac_288 : List Instr := [.iconst 0, .istore 5, .iconst 0, .istore 6, .goto (-83886208), .iload 6, .iload 2, .if_icmp .ge 31, .iload 6, .iload 3, .if_icmp .ne 2, .iload 4, .goto 3, .aload 0, .iload 6, .invokevirtual 198, .istore 7, .iload 5, .iload 1, .iconst 2, .if_icmp .ne 3, .iload 7, .invokevirtual 138, .goto 11, .iload 6, .iconst 2, .irem, .ifCond .ne 2, .iconst 3, .goto 1, .iconst 1, .iload 7, .iconst 48, .isub, .imul, .iadd, .istore 5, .iinc 6 1, .goto (-83886208), .iload 5, .iload 1, .iconst 2, .if_icmp .ne 2, .iconst 16, .goto 1, .iconst 10, .irem, .ifCond .ne 2, .iconst 1, .goto 1, .iconst 0, .dreturn]
def ac_289 : List Instr := [.aload 0, .iload 1, .invokevirtual 131, .ifCond .eq 2, .iconst 0, .goto 1, .iconst 1, .putfield 1011, .aload 0, .getfield 1011, .ifCond .le 2, .iconst 0, .goto 6, .aload 0, .iconst 0, .aload 0, .iload 1, .invokevirtual 196, .invokevirtual 200, .ireturn]
def ac_290 : List Instr := [.aload 0, .iload 1, .invokevirtual 131, .ifCond .eq 2, .iconst 0, .goto 1, .iconst 1, .putfield 1011, .aload 0, .getfield 1011, .ifCond .le 2, .iconst 0, .ireturn, .aload 0, .iload 1, .invokevirtual 196, .istore 2, .aload 0, .iconst 0, .iload 2, .invokevirtual 200, .istore 3, .aload 0, .iload 3, .iconst (-1), .if_icmp .eq 8, .aload 0, .iload 3, .iconst 1, .iadd, .iload 2, .invokevirtual 200, .iconst (-1), .if_icmp .eq 2, .iconst 2, .goto 1, .iconst 0, .putfield 1011, .aload 0, .getfield 1011, .ifCond .le 2, .iconst 0, .ireturn, .iload 1, .iconst 2, .if_icmp .ne 9, .iload 3, .ifCond .eq 5, .iload 3, .iload 2, .iconst 1, .isub, .if_icmp .ne 2, .iconst 1, .goto 1, .iconst 0, .istore 4, .iconst (-1), .istore 5, .iconst 0, .istore 6, .iload 4, .ifCond .eq 2, .iconst 16, .goto 1, .iconst 0, .istore 7, .goto (-1140850944), .iload 7, .iload 4, .ifCond .eq 2, .iconst 20, .goto 6, .iload 1, .iconst 2, .if_icmp .ne 2, .iconst 16, .goto 1, .iconst 10, .if_icmp .ge 17, .aload 0, .iload 1, .iload 2, .iload 3, .ldc 6, .iload 7, .invokevirtual 80, .invokevirtual 201, .ifCond .ne 1, .goto 5, .ldc 6, .iload 7, .invokevirtual 80, .istore 5, .iinc 6 1, .iinc 7 1, .goto (-1140850944), .aload 0, .iload 6, .iconst 1, .if_icmp .ne 2, .iconst 0, .goto 1, .iconst 3, .putfield 1011, .aload 0, .getfield 1011, .ifCond .le 2, .iconst 0, .goto 1, .iload 5, .ireturn]
def ac_291 : List Instr := [.aload 0, .iconst 0, .putfield 1011, .iconst (-1), .istore 1, .iconst (-1), .istore 2, .iconst 0, .istore 3, .goto (-167772176), .iload 3, .iconst 3, .if_icmp .ge 18, .aload 0, .iload 3, .invokevirtual 199, .ifCond .ne 12, .aload 0, .iload 3, .invokevirtual 202, .iload 2, .if_icmp .gt 1, .goto 6, .iload 3, .istore 1, .aload 0, .iload 3, .invokevirtual 202, .istore 2, .iinc 3 1, .goto (-167772176), .iload 1, .ireturn]
def ac_292 : List Instr := [.aload 0, .iload 1, .invokevirtual 196, .istore 2, .iconst 100, .istore 3, .iconst 0, .istore 4, .goto (-150994974), .iload 4, .iload 2, .if_icmp .ge 26, .iconst 100, .aload 0, .getstatic 1032, .iconst 128, .iload 4, .imul, .aload 0, .iload 4, .invokevirtual 198, .iadd, .iaload, .imul, .aload 0, .iload 4, .invokevirtual 195, .idiv, .istore 5, .iload 5, .iload 3, .if_icmp .ge 2, .iload 5, .goto 1, .iload 3, .istore 3, .iinc 4 1, .goto (-150994974), .iload 3, .ireturn]
def ac_293 : List Instr := [.aload 0, .iload 1, .invokevirtual 131, .ifCond .eq 2, .iconst 0, .goto 1, .iconst 1, .putfield 1011, .aload 0, .getfield 1011, .ifCond .le 2, .iconst 0, .ireturn, .aload 0, .iload 1, .invokevirtual 196, .istore 2, .iconst (-1), .istore 3, .iconst (-1), .istore 4, .iconst 0, .istore 5, .goto (-402653246), .iload 5, .aload 0, .getfield 1008, .if_icmp .ge 44, .iload 2, .ifCond .eq 40, .aload 0, .iload 5, .iconst 0, .invokevirtual 150, .iload 2, .if_icmp .eq 1, .goto 33, .iconst 0, .istore 6, .iconst 0, .istore 7, .goto (-704643326), .iload 7, .iload 2, .if_icmp .ge 17, .iload 6, .aload 0, .iload 5, .iconst 0, .iload 7, .invokevirtual 181, .aload 0, .iload 7, .invokevirtual 198, .if_icmp .ne 2, .iconst 0, .goto 1, .iconst 1, .iadd, .istore 6, .iinc 7 1, .goto (-704643326), .iload 6, .iload 4, .if_icmp .gt 1, .goto 4, .iload 5, .istore 3, .iload 6, .istore 4, .iinc 5 1, .goto (-402653246), .aload 0, .iload 3, .iconst (-1), .if_icmp .ne 2, .iconst 2, .goto 1, .iconst 0, .putfield 1011, .aload 0, .getfield 1011, .ifCond .le 2, .iconst 0, .goto 1, .iload 3, .ireturn]
def ac_294 : List Instr := [.aload 0, .iload 1, .invokevirtual 131, .ifCond .eq 2, .iconst 0, .goto 1, .iconst 1, .putfield 1011, .aload 0, .getfield 1011, .ifCond .le 2, .iconst 0, .dreturn, .aload 0, .getstatic 1004, .iload 1, .baload, .istore 3, .aload 0, .getstatic 1004, .iload 1, .iload 2, .bastore, .iload 3, .dreturn]
set_option maxRecDepth 10000 in
def ac_295 : List Instr := [.new 9, .dup, .invokevirtual 203, .istore 1001, .new 10, .dup, .invokevirtual 204, .istore 1002, .iconst 1, .anewarray 23, .istore 1003, .iconst 0, .istore 4, .goto (-234881056), .iload 4, .aload 0, .arraylength, .iconst 7, .isub, .if_icmp .gt 1721, .aload 0, .iload 4, .iaload, .iconst 63, .iand, .tableswitch 1713 0 36 #[0, 75, 150, 195, 280, 305, 312, 347, 392, 447, 502, 524, 569, 601, 636, 681, 744, 799, 854, 927, 975, 1030, 1085, 1130, 1175, 1230, 1295, 1330, 1365, 1420, 1465, 1510, 1545, 1580, 1615, 1622, 1657], .aload 1, .aload 0, .iload 4, .iconst 1, .iadd, .iaload, .aload 0, .iload 4, .iconst 2, .iadd, .iaload, .aload 0, .iload 4, .iconst 3, .iadd, .iaload, .aload 0, .iload 4, .iconst 4, .iadd, .iaload, .aload 0, .iload 4, .iconst 5, .iadd, .iaload, .aload 3, .invokevirtual 205, .istore 5, .aload 2, .aload 0, .iload 4, .iconst 1, .iadd, .iaload, .aload 0, .iload 4, .iconst 2, .iadd, .iaload, .aload 0, .iload 4, .iconst 3, .iadd, .iaload, .aload 0, .iload 4, .iconst 4, .iadd, .iaload, .aload 0, .iload 4, .iconst 5, .iadd, .iaload, .invokevirtual 206, .istore 6, .aload 2, .invokevirtual 207, .iload 5, .if_icmp .eq 2, .iconst 0, .dreturn, .iload 5, .ifCond .ne 9, .aload 3, .iconst 0, .laload, .iload 6, .i2l, .lcmp, .ifCond .eq 2, .iconst 0, .dreturn, .goto 1638, .aload 1, .aload 0, .iload 4, .iconst 1, .iadd, .iaload, .aload 0, .iload 4, .iconst 2, .iadd, .iaload, .aload 0, .iload 4, .iconst 3, .iadd, .iaload, .aload 0, .iload 4, .iconst 4, .iadd, .iaload, .aload 0, .iload 4, .iconst 5, .iadd, .iaload, .aload 3, .invokevirtual 208, .istore 5, .aload 2, .aload 0, .iload 4, .iconst 1, .iadd, .iaload, .aload 0, .iload 4, .iconst 2, .iadd, .iaload, .aload 0, .iload 4, .iconst 3, .iadd, .iaload, .aload 0, .iload 4, .iconst 4, .iadd, .iaload, .aload 0, .iload 4, .iconst 5, .iadd, .iaload, .invokevirtual 209, .istore 6, .aload 2, .invokevirtual 207, .iload 5, .if_icmp .eq 2, .iconst 0, .dreturn, .iload 5, .ifCond .ne 9, .aload 3, .iconst 0, .laload, .iload 6, .i2l, .lcmp, .ifCond .eq 2, .iconst 0, .dreturn, .goto 1563, .aload 1, .aload 0, .iload 4, .iconst 1, .iadd, .iaload, .aload 0, .iload 4, .iconst 2, .iadd, .iaload, .aload 3, .invokevirtual 210, .istore 5, .aload 2, .aload 0, .iload 4, .iconst 1, .iadd, .iaload, .aload 0, .iload 4, .iconst 2, .iadd, .iaload, .invokevirtual 211, .istore 6, .aload 2, .invokevirtual 207, .iload 5, .if_icmp .eq 2, .iconst 0, .dreturn, .iload 5, .ifCond .ne 9, .aload 3, .iconst 0, .laload, .iload 6, .i2l, .lcmp, .ifCond .eq 2, .iconst 0, .dreturn, .goto 1518, .aload 1, .aload 0, .iload 4, .iconst 1, .iadd, .iaload, .aload 0, .iload 4, .iconst 2, .iadd, .iaload, .aload 0, .iload 4, .iconst 3, .iadd, .iaload, .aload 0, .iload 4, .iconst 4, .iadd, .iaload, .aload 0, .iload 4, .iconst 5, .iadd, .iaload, .aload 0, .iload 4, .iconst 6, .iadd, .iaload, .aload 3, .invokevirtual 212, .istore 5, .aload 2, .aload 0, .iload 4, .iconst 1, .iadd, .iaload, .aload 0, .iload 4, .iconst 2, .iadd, .iaload, .aload 0, .iload 4, .iconst 3, .iadd, .iaload, .aload 0, .iload 4, .iconst 4, .iadd, .iaload, .aload 0, .iload 4, .iconst 5, .iadd, .iaload, .aload 0, .iload 4, .iconst 6, .iadd, .iaload, .invokevirtual 213, .istore 6, .aload 2, .invokevirtual 207, .iload 5, .if_icmp .eq 2, .iconst 0, .dreturn, .iload 5, .ifCond .ne 9, .aload 3, .iconst 0, .laload, .iload 6, .i2l, .lcmp, .ifCond .eq 2, .iconst 0, .dreturn, .goto 1433, .aload 1, .aload 3, .invokevirtual 214, .istore 5, .aload 2, .invokevirtual 215, .istore 6, .aload 2, .invokevirtual 207, .iload 5, .if_icmp .eq 2, .iconst 0, .dreturn, .iload 5, .ifCond .ne 9, .aload 3, .iconst 0, .laload, .iload 6, .i2l, .lcmp, .ifCond .eq 2, .iconst 0, .dreturn, .goto 1408, .aload 1, .invokevirtual 216, .aload 2, .invokevirtual 217, .if_icmp .eq 1403, .iconst 0, .dreturn, .aload 1, .aload 0, .iload 4, .iconst 1, .iadd, .iaload, .aload 3, .invokevirtual 218, .istore 5, .aload 2, .aload 0, .iload 4, .iconst 1, .iadd, .iaload, .invokevirtual 219, .istore 6, .aload 2, .invokevirtual 207, .iload 5, .if_icmp .eq 2, .iconst 0, .dreturn, .iload 5, .ifCond .ne 9, .aload 3, .iconst 0, .laload, .iload 6, .i2l, .lcmp, .ifCond .eq 2, .iconst 0, .dreturn, .goto 1366, .aload 1, .aload 0, .iload 4, .iconst 1, .iadd, .iaload, .aload 0, .iload 4, .iconst 2, .iadd, .iaload, .aload 3, .invokevirtual 220, .istore 5, .aload 2, .aload 0, .iload 4, .iconst 1, .iadd, .iaload, .aload 0, .iload 4, .iconst 2, .iadd, .iaload, .invokevirtual 221, .istore 6, .aload 2, .invokevirtual 207, .iload 5, .if_icmp .eq 2, .iconst 0, .dreturn, .iload 5, .ifCond .ne 9, .aload 3, .iconst 0, .laload, .iload 6, .i2l, .lcmp, .ifCond .eq 2, .iconst 0, .dreturn, .goto 1321, .aload 1, .aload 0, .iload 4, .iconst 1, .iadd, .iaload, .aload 0, .iload 4, .iconst 2, .iadd, .iaload, .aload 0, .iload 4, .iconst 3, .iadd, .iaload, .aload 3, .invokevirtual 222, .istore 5, .aload 2, .aload 0, .iload 4, .iconst 1, .iadd, .iaload, .aload 0, .iload 4, .iconst 2, .iadd, .iaload, .aload 0, .iload 4, .iconst 3, .iadd, .iaload, .invokevirtual 223, .istore 6, .aload 2, .invokevirtual 207, .iload 5, .if_icmp .eq 2, .iconst 0, .dreturn, .iload 5, .ifCond .ne 9, .aload 3, .iconst 0, .laload, .iload 6, .i2l, .lcmp, .ifCond .eq 2, .iconst 0, .dreturn, .goto 1266, .aload 1, .aload 0, .iload 4, .iconst 1, .iadd, .iaload, .aload 0, .iload 4, .iconst 2, .iadd, .iaload, .aload 0, .iload 4, .iconst 3, .iadd, .iaload, .aload 3, .invokevirtual 224, .istore 5, .aload 2, .aload 0, .iload 4, .iconst 1, .iadd, .iaload, .aload 0, .iload 4, .iconst 2, .iadd, .iaload, .aload 0, .iload 4, .iconst 3, .iadd, .iaload, .invokevirtual 225, .istore 6, .aload 2, .invokevirtual 207, .iload 5, .if_icmp .eq 2, .iconst 0, .dreturn, .iload 5, .ifCond .ne 9, .aload 3, .iconst 0, .laload, .iload 6, .i2l, .lcmp, .ifCond .eq 2, .iconst 0, .dreturn, .goto 1211, .aload 1, .aload 0, .iload 4, .iconst 1, .iadd, .iaload, .invokevirtual 226, .istore 5, .aload 2, .aload 0, .iload 4, .iconst 1, .iadd, .iaload, .invokevirtual 227, .aload 2, .invokevirtual 207, .iload 5, .if_icmp .eq 2, .iconst 0, .dreturn, .goto 1189, .aload 1, .aload 0, .iload 4, .iconst 1, .iadd, .iaload, .aload 0, .iload 4, .iconst 2, .iadd, .iaload, .aload 3, .invokevirtual 228, .istore 5, .aload 2, .aload 0, .iload 4, .iconst 1, .iadd, .iaload, .aload 0, .iload 4, .iconst 2, .iadd, .iaload, .invokevirtual 229, .istore 6, .aload 2, .invokevirtual 207, .iload 5, .if_icmp .eq 2, .iconst 0, .dreturn, .iload 5, .ifCond .ne 9, .aload 3, .iconst 0, .laload, .iload 6, .i2l, .lcmp, .ifCond .eq 2, .iconst 0, .dreturn, .goto 1144, .aload 1, .aload 0, .iload 4, .iconst 1, .iadd, .iaload, .aload 0, .iload 4, .iconst 2, .iadd, .iaload, .invokevirtual 230, .istore 5, .aload 2, .aload 0, .iload 4, .iconst 1, .iadd, .iaload, .aload 0, .iload 4, .iconst 2, .iadd, .iaload, .invokevirtual 231, .aload 2, .invokevirtual 207, .iload 5, .if_icmp .eq 2, .iconst 0, .dreturn, .goto 1112, .aload 1, .aload 0, .iload 4, .iconst 1, .iadd, .iaload, .aload 3, .invokevirtual 232, .istore 5, .aload 2, .aload 0, .iload 4, .iconst 1, .iadd, .iaload, .invokevirtual 233, .istore 6, .aload 2, .invokevirtual 207, .iload 5, .if_icmp .eq 2, .iconst 0, .dreturn, .iload 5, .ifCond .ne 9, .aload 3, .iconst 0, .laload, .iload 6, .i2l, .lcmp, .ifCond .eq 2, .iconst 0, .dreturn, .goto 1077, .aload 1, .aload 0, .iload 4, .iconst 1, .iadd, .iaload, .aload 0, .iload 4, .iconst 2, .iadd, .iaload, .aload 3, .invokevirtual 234, .istore 5, .aload 2, .aload 0, .iload 4, .iconst 1, .iadd, .iaload, .aload 0, .iload 4, .iconst 2, .iadd, .iaload, .invokevirtual 235, .istore 6, .aload 2, .invokevirtual 207, .iload 5, .if_icmp .eq 2, .iconst 0, .dreturn, .iload 5, .ifCond .ne 9, .aload 3, .iconst 0, .laload, .iload 6, .i2l, .lcmp, .ifCond .eq 2, .iconst 0, .dreturn, .goto 1032, .aload 1, .aload 0, .iload 4, .iconst 1, .iadd, .iaload, .aload 0, .iload 4, .iconst 2, .iadd, .iaload, .aload 0, .iload 4, .iconst 3, .iadd, .iaload, .ifCond .eq 2, .iconst 1, .goto 1, .iconst 0, .aload 3, .invokevirtual 236, .istore 5, .aload 2, .aload 0, .iload 4, .iconst 1, .iadd, .iaload, .aload 0, .iload 4, .iconst 2, .iadd, .iaload, .aload 0, .iload 4, .iconst 3, .iadd, .iaload, .ifCond .eq 2, .iconst 1, .goto 1, .iconst 0, .invokevirtual 237, .istore 6, .aload 2, .invokevirtual 207, .iload 5, .if_icmp .eq 2, .iconst 0, .dreturn, .iload 5, .ifCond .ne 9, .aload 3, .iconst 0, .laload, .iload 6, .i2l, .lcmp, .ifCond .eq 2, .iconst 0, .dreturn, .goto 969, .aload 1, .aload 0, .iload 4, .iconst 1, .iadd, .iaload, .aload 0, .iload 4, .iconst 2, .iadd, .iaload, .aload 0, .iload 4, .iconst 3, .iadd, .iaload, .aload 3, .invokevirtual 238, .istore 5, .aload 2, .aload 0, .iload 4, .iconst 1, .iadd, .iaload, .aload 0, .iload 4, .iconst 2, .iadd, .iaload, .aload 0, .iload 4, .iconst 3, .iadd, .iaload, .invokevirtual 239, .istore 6, .aload 2, .invokevirtual 207, .iload 5, .if_icmp .eq 2, .iconst 0, .dreturn, .iload 5, .ifCond .ne 9, .aload 3, .iconst 0, .laload, .iload 6, .i2l, .lcmp, .ifCond .eq 2, .iconst 0, .dreturn, .goto 914, .aload 1, .aload 0, .iload 4, .iconst 1, .iadd, .iaload, .aload 0, .iload 4, .iconst 2, .iadd, .iaload, .aload 0, .iload 4, .iconst 3, .iadd, .iaload, .aload 3, .invokevirtual 240, .istore 5, .aload 2, .aload 0, .iload 4, .iconst 1, .iadd, .iaload, .aload 0, .iload 4, .iconst 2, .iadd, .iaload, .aload 0, .iload 4, .iconst 3, .iadd, .iaload, .invokevirtual 241, .istore 6, .aload 2, .invokevirtual 207, .iload 5, .if_icmp .eq 2, .iconst 0, .dreturn, .iload 5, .ifCond .ne 9, .aload 3, .iconst 0, .laload, .iload 6, .i2l, .lcmp, .ifCond .eq 2, .iconst 0, .dreturn, .goto 859, .aload 1, .aload 0, .iload 4, .iconst 1, .iadd, .iaload, .aload 0, .iload 4, .iconst 2, .iadd, .iaload, .aload 0, .iload 4, .iconst 3, .iadd, .iaload, .ifCond .eq 2, .iconst 1, .goto 1, .iconst 0, .aload 0, .iload 4, .iconst 4, .iadd, .iaload, .aload 3, .invokevirtual 242, .istore 5, .aload 2, .aload 0, .iload 4, .iconst 1, .iadd, .iaload, .aload 0, .iload 4, .iconst 2, .iadd, .iaload, .aload 0, .iload 4, .iconst 3, .iadd, .iaload, .ifCond .eq 2, .iconst 1, .goto 1, .iconst 0, .aload 0, .iload 4, .iconst 4, .iadd, .iaload, .invokevirtual 243, .istore 6, .aload 2, .invokevirtual 207, .iload 5, .if_icmp .eq 2, .iconst 0, .dreturn, .iload 5, .ifCond .ne 9, .aload 3, .iconst 0, .laload, .iload 6, .i2l, .lcmp, .ifCond .eq 2, .iconst 0, .dreturn, .goto 786, .aload 1, .aload 0, .iload 4, .iconst 1, .iadd, .iaload, .aload 0, .iload 4, .iconst 2, .iadd, .iaload, .aload 3, .invokevirtual 244, .istore 5, .aload 2, .aload 0, .iload 4, .iconst 1, .iadd, .iaload, .aload 0, .iload 4, .iconst 2, .iadd, .iaload, .invokevirtual 245, .istore 6, .aload 2, .invokevirtual 207, .iload 5, .if_icmp .eq 2, .iconst 0, .dreturn, .iload 5, .ifCond .ne 12, .aload 3, .iconst 0, .laload, .iload 6, .ifCond .eq 2, .bipush 1, .goto 1, .bipush 0, .lcmp, .ifCond .eq 2, .iconst 0, .dreturn, .goto 738, .aload 1, .aload 0, .iload 4, .iconst 1, .iadd, .iaload, .aload 0, .iload 4, .iconst 2, .iadd, .iaload, .aload 0, .iload 4, .iconst 3, .iadd, .iaload, .aload 3, .invokevirtual 246, .istore 5, .aload 2, .aload 0, .iload 4, .iconst 1, .iadd, .iaload, .aload 0, .iload 4, .iconst 2, .iadd, .iaload, .aload 0, .iload 4, .iconst 3, .iadd, .iaload, .invokevirtual 247, .istore 6, .aload 2, .invokevirtual 207, .iload 5, .if_icmp .eq 2, .iconst 0, .dreturn, .iload 5, .ifCond .ne 9, .aload 3, .iconst 0, .laload, .iload 6, .i2l, .lcmp, .ifCond .eq 2, .iconst 0, .dreturn, .goto 683, .aload 1, .aload 0, .iload 4, .iconst 1, .iadd, .iaload, .aload 0, .iload 4, .iconst 2, .iadd, .iaload, .aload 0, .iload 4, .iconst 3, .iadd, .iaload, .aload 3, .invokevirtual 248, .istore 5, .aload 2, .aload 0, .iload 4, .iconst 1, .iadd, .iaload, .aload 0, .iload 4, .iconst 2, .iadd, .iaload, .aload 0, .iload 4, .iconst 3, .iadd, .iaload, .invokevirtual 249, .istore 6, .aload 2, .invokevirtual 207, .iload 5, .if_icmp .eq 2, .iconst 0, .dreturn, .iload 5, .ifCond .ne 9, .aload 3, .iconst 0, .laload, .iload 6, .i2l, .lcmp, .ifCond .eq 2, .iconst 0, .dreturn, .goto 628, .aload 1, .aload 0, .iload 4, .iconst 1, .iadd, .iaload, .aload 0, .iload 4, .iconst 2, .iadd, .iaload, .aload 3, .invokevirtual 250, .istore 5, .aload 2, .aload 0, .iload 4, .iconst 1, .iadd, .iaload, .aload 0, .iload 4, .iconst 2, .iadd, .iaload, .invokevirtual 251, .istore 6, .aload 2, .invokevirtual 207, .iload 5, .if_icmp .eq 2, .iconst 0, .dreturn, .iload 5, .ifCond .ne 9, .aload 3, .iconst 0, .laload, .iload 6, .i2l, .lcmp, .ifCond .eq 2, .iconst 0, .dreturn, .goto 583, .aload 1, .aload 0, .iload 4, .iconst 1, .iadd, .iaload, .aload 0, .iload 4, .iconst 2, .iadd, .iaload, .aload 3, .invokevirtual 252, .istore 5, .aload 2, .aload 0, .iload 4, .iconst 1, .iadd, .iaload, .aload 0, .iload 4, .iconst 2, .iadd, .iaload, .invokevirtual 253, .istore 6, .aload 2, .invokevirtual 207, .iload 5, .if_icmp .eq 2, .iconst 0, .dreturn, .iload 5, .ifCond .ne 9, .aload 3, .iconst 0, .laload, .iload 6, .i2l, .lcmp, .ifCond .eq 2, .iconst 0, .dreturn, .goto 538, .aload 1, .aload 0, .iload 4, .iconst 1, .iadd, .iaload, .aload 0, .iload 4, .iconst 2, .iadd, .iaload, .aload 0, .iload 4, .iconst 3, .iadd, .iaload, .aload 3, .invokevirtual 254, .istore 5, .aload 2, .aload 0, .iload 4, .iconst 1, .iadd, .iaload, .aload 0, .iload 4, .iconst 2, .iadd, .iaload, .aload 0, .iload 4, .iconst 3, .iadd, .iaload, .invokevirtual 255, .istore 6, .aload 2, .invokevirtual 207, .iload 5, .if_icmp .eq 2, .iconst 0, .dreturn, .iload 5, .ifCond .ne 9, .aload 3, .iconst 0, .laload, .iload 6, .i2l, .lcmp, .ifCond .eq 2, .iconst 0, .dreturn, .goto 483, .aload 1, .aload 0, .iload 4, .iconst 1, .iadd, .iaload, .aload 0, .iload 4, .iconst 2, .iadd, .iaload, .aload 0, .iload 4, .iconst 3, .iadd, .iaload, .aload 0, .iload 4, .iconst 4, .iadd, .iaload, .aload 3, .invokevirtual 256, .istore 5, .aload 2, .aload 0, .iload 4, .iconst 1, .iadd, .iaload, .aload 0, .iload 4, .iconst 2, .iadd, .iaload, .aload 0, .iload 4, .iconst 3, .iadd, .iaload, .aload 0, .iload 4, .iconst 4, .iadd, .iaload, .invokevirtual 257, .istore 6, .aload 2, .invokevirtual 207, .iload 5, .if_icmp .eq 2, .iconst 0, .dreturn, .iload 5, .ifCond .ne 9, .aload 3, .iconst 0, .laload, .iload 6, .i2l, .lcmp, .ifCond .eq 2, .iconst 0, .dreturn, .goto 418, .aload 1, .aload 0, .iload 4, .iconst 1, .iadd, .iaload, .aload 3, .invokevirtual 258, .istore 5, .aload 2, .aload 0, .iload 4, .iconst 1, .iadd, .iaload, .invokevirtual 259, .istore 6, .aload 2, .invokevirtual 207, .iload 5, .if_icmp .eq 2, .iconst 0, .dreturn, .iload 5, .ifCond .ne 9, .aload 3, .iconst 0, .laload, .iload 6, .i2l, .lcmp, .ifCond .eq 2, .iconst 0, .dreturn, .goto 383, .aload 1, .aload 0, .iload 4, .iconst 1, .iadd, .iaload, .aload 3, .invokevirtual 260, .istore 5, .aload 2, .aload 0, .iload 4, .iconst 1, .iadd, .iaload, .invokevirtual 261, .istore 6, .aload 2, .invokevirtual 207, .iload 5, .if_icmp .eq 2, .iconst 0, .dreturn, .iload 5, .ifCond .ne 9, .aload 3, .iconst 0, .laload, .iload 6, .i2l, .lcmp, .ifCond .eq 2, .iconst 0, .dreturn, .goto 348, .aload 1, .aload 0, .iload 4, .iconst 1, .iadd, .iaload, .aload 0, .iload 4, .iconst 2, .iadd, .iaload, .aload 0, .iload 4, .iconst 3, .iadd, .iaload, .aload 3, .invokevirtual 262, .istore 5, .aload 2, .aload 0, .iload 4, .iconst 1, .iadd, .iaload, .aload 0, .iload 4, .iconst 2, .iadd, .iaload, .aload 0, .iload 4, .iconst 3, .iadd, .iaload, .invokevirtual 263, .istore 6, .aload 2, .invokevirtual 207, .iload 5, .if_icmp .eq 2, .iconst 0, .dreturn, .iload 5, .ifCond .ne 9, .aload 3, .iconst 0, .laload, .iload 6, .i2l, .lcmp, .ifCond .eq 2, .iconst 0, .dreturn, .goto 293, .aload 1, .aload 0, .iload 4, .iconst 1, .iadd, .iaload, .aload 0, .iload 4, .iconst 2, .iadd, .iaload, .aload 3, .invokevirtual 264, .istore 5, .aload 2, .aload 0, .iload 4, .iconst 1, .iadd, .iaload, .aload 0, .iload 4, .iconst 2, .iadd, .iaload, .invokevirtual 265, .istore 6, .aload 2, .invokevirtual 207, .iload 5, .if_icmp .eq 2, .iconst 0, .dreturn, .iload 5, .ifCond .ne 9, .aload 3, .iconst 0, .laload, .iload 6, .i2l, .lcmp, .ifCond .eq 2, .iconst 0, .dreturn, .goto 248, .aload 1, .aload 0, .iload 4, .iconst 1, .iadd, .iaload, .aload 0, .iload 4, .iconst 2, .iadd, .iaload, .aload 3, .invokevirtual 266, .istore 5, .aload 2, .aload 0, .iload 4, .iconst 1, .iadd, .iaload, .aload 0, .iload 4, .iconst 2, .iadd, .iaload, .invokevirtual 267, .istore 6, .aload 2, .invokevirtual 207, .iload 5, .if_icmp .eq 2, .iconst 0, .dreturn, .iload 5, .ifCond .ne 9, .aload 3, .iconst 0, .laload, .iload 6, .i2l, .lcmp, .ifCond .eq 2, .iconst 0, .dreturn, .goto 203, .aload 1, .aload 0, .iload 4, .iconst 1, .iadd, .iaload, .aload 3, .invokevirtual 268, .istore 5, .aload 2, .aload 0, .iload 4, .iconst 1, .iadd, .iaload, .invokevirtual 269, .istore 6, .aload 2, .invokevirtual 207, .iload 5, .if_icmp .eq 2, .iconst 0, .dreturn, .iload 5, .ifCond .ne 9, .aload 3, .iconst 0, .laload, .iload 6, .i2l, .lcmp, .ifCond .eq 2, .iconst 0, .dreturn, .goto 168, .aload 1, .aload 0, .iload 4, .iconst 1, .iadd, .iaload, .aload 3, .invokevirtual 270, .istore 5, .aload 2, .aload 0, .iload 4, .iconst 1, .iadd, .iaload, .invokevirtual 271, .istore 6, .aload 2, .invokevirtual 207, .iload 5, .if_icmp .eq 2, .iconst 0, .dreturn, .iload 5, .ifCond .ne 9, .aload 3, .iconst 0, .laload, .iload 6, .i2l, .lcmp, .ifCond .eq 2, .iconst 0, .dreturn, .goto 133, .aload 1, .aload 0, .iload 4, .iconst 1, .iadd, .iaload, .aload 3, .invokevirtual 272, .istore 5, .aload 2, .aload 0, .iload 4, .iconst 1, .iadd, .iaload, .invokevirtual 273, .istore 6, .aload 2, .invokevirtual 207, .iload 5, .if_icmp .eq 2, .iconst 0, .dreturn, .iload 5, .ifCond .ne 9, .aload 3, .iconst 0, .laload, .iload 6, .i2l, .lcmp, .ifCond .eq 2, .iconst 0, .dreturn, .goto 98, .aload 1, .invokevirtual 274, .aload 2, .invokevirtual 275, .if_icmp .eq 93, .iconst 0, .dreturn, .aload 1, .aload 0, .iload 4, .iconst 1, .iadd, .iaload, .aload 3, .invokevirtual 276, .istore 5, .aload 2, .aload 0, .iload 4, .iconst 1, .iadd, .iaload, .invokevirtual 277, .istore 6, .aload 2, .invokevirtual 207, .iload 5, .if_icmp .eq 2, .iconst 0, .dreturn, .iload 5, .ifCond .ne 9, .aload 3, .iconst 0, .laload, .iload 6, .i2l, .lcmp, .ifCond .eq 2, .iconst 0, .dreturn, .goto 56, .aload 1, .aload 0, .iload 4, .iconst 1, .iadd, .iaload, .aload 0, .iload 4, .iconst 2, .iadd, .iaload, .ifCond .eq 2, .iconst 1, .goto 1, .iconst 0, .aload 3, .invokevirtual 278, .istore 5, .aload 2, .aload 0, .iload 4, .iconst 1, .iadd, .iaload, .aload 0, .iload 4, .iconst 2, .iadd, .iaload, .ifCond .eq 2, .iconst 1, .goto 1, .iconst 0, .invokevirtual 279, .istore 6, .aload 2, .invokevirtual 207, .iload 5, .if_icmp .eq 2, .iconst 0, .dreturn, .iload 5, .ifCond .ne 12, .aload 3, .iconst 0, .laload, .iload 6, .ifCond .eq 2, .bipush 1, .goto 1, .bipush 0, .lcmp, .ifCond .eq 2, .iconst 0, .dreturn, .goto 0, .iinc 4 7, .goto (-234881056), .iconst 1, .dreturn]
set_option maxRecDepth 10000 in
def bz_cds : List (List Instr) := [ac_0, ac_1, ac_2, ac_3, ac_4, ac_5, ac_6, ac_7, ac_8, ac_9, ac_10, ac_11, ac_12, ac_13, ac_14, ac_15, ac_16, ac_17, ac_18, ac_19, ac_20, ac_21, ac_22, ac_23, ac_24, ac_25, ac_26, ac_27, ac_28, ac_29, ac_30, ac_31, ac_32, ac_33, ac_34, ac_35, ac_36, ac_37, ac_38, ac_39, ac_40, ac_41, ac_42, ac_43, ac_44, ac_45, ac_46, ac_47, ac_48, ac_49, ac_50, ac_51, ac_52, ac_53, ac_54, ac_55, ac_56, ac_57, ac_58, ac_59, ac_60, ac_61, ac_62, ac_63, ac_64, ac_65, ac_66, ac_67, ac_68, ac_69, ac_70, ac_71, ac_72, ac_73, ac_74, ac_75, ac_76, ac_77, ac_78, ac_79, ac_80, ac_81, ac_82, ac_83, ac_84, ac_85, ac_86, ac_87, ac_88, ac_89, ac_90, ac_91, ac_92, ac_93, ac_94, ac_95, ac_96, ac_97, ac_98, ac_99, ac_100, ac_101, ac_102, ac_103, ac_104, ac_105, ac_106, ac_107, ac_108, ac_109, ac_110, ac_111, ac_112, ac_113, ac_114, ac_115, ac_116, ac_117, ac_118, ac_119, ac_120, ac_121, ac_122, ac_123, ac_124, ac_125, ac_126, ac_127, ac_128, ac_129, ac_130, ac_131, ac_132, ac_133, ac_134, ac_135, ac_136, ac_137, ac_138, ac_139, ac_140, ac_141, ac_142, ac_143, ac_144, ac_145, ac_146, ac_147, ac_148, ac_149, ac_150, ac_151, ac_152, ac_153, ac_154, ac_155, ac_156, ac_157, ac_158, ac_159, ac_160, ac_161, ac_162, ac_163, ac_164, ac_165, ac_166, ac_167, ac_168, ac_169, ac_170, ac_171, ac_172, ac_173, ac_174, ac_175, ac_176, ac_177, ac_178, ac_179, ac_180, ac_181, ac_182, ac_183, ac_184, ac_185, ac_186, ac_187, ac_188, ac_189, ac_190, ac_191, ac_192, ac_193, ac_194, ac_195, ac_196, ac_197, ac_198, ac_199, ac_200, ac_201, ac_202, ac_203, ac_204, ac_205, ac_206, ac_207, ac_208, ac_209, ac_210, ac_211, ac_212, ac_213, ac_214, ac_215, ac_216, ac_217, ac_218, ac_219, ac_220, ac_221, ac_222, ac_223, ac_224, ac_225, ac_226, ac_227, ac_228, ac_229, ac_230, ac_231, ac_232, ac_233, ac_234, ac_235, ac_236, ac_237, ac_238, ac_239, ac_240, ac_241, ac_242, ac_243, ac_244, ac_245, ac_246, ac_247, ac_248, ac_249, ac_250, ac_251, ac_252, ac_253, ac_254, ac_255, ac_256, ac_257, ac_258, ac_259, ac_260, ac_261, ac_262, ac_263, ac_264, ac_265, ac_266, ac_267, ac_268, ac_269, ac_270, ac_271, ac_272, ac_273, ac_274, ac_275, ac_276, ac_277, ac_278, ac_279, ac_280, ac_281, ac_282, ac_283, ac_284, ac_285, ac_286, ac_287, ac_288, ac_289, ac_290, ac_291, ac_292, ac_293, ac_294, ac_295]
set_option maxRecDepth 10000 in
def bz_ct : List bz_C := [([2], 5, [(5, 1)], []), ([2], 5, [(2, 2)], []), ([2], 5, [(3, 4)], []), ([2], 5, [(1, 5)], []), ([2], 5, [(8, 6)], []), ([2], 5, [(7, 7)], []), ([2], 5, [(6, 8)], []), ([2, 0, 0, 0, 0], 5, [(1, 3), (2, 3), (3, 3)], []), ([2], 5, [(4, 9)], []), ([2, 0], 3, [(9, 12)], []), ([2, 2, 0], 1, [(9, 59)], []), ([2], 1, [(8, 64)], []), ([0], 0, [(0, 13)], []), ([2, 2, 2, 2], 5, [(1, 14), (2, 14), (3, 14)], []), ([2, 2, 0, 2, 0], 0, [(8, 43)], []), ([2], 0, [(4, 15)], []), ([2, 2, 2], 4, [(1, 16), (2, 16), (3, 16)], []), ([2, 2], 0, [(5, 38)], []), ([2, 0], 0, [(4, 39)], []), ([2, 2, 2], 4, [(1, 40), (2, 40), (3, 40)], []), ([2, 2, 0], 4, [(1, 17), (2, 20), (3, 22)], []), ([2, 2, 0, 2], 4, [(1, 31), (2, 23), (3, 31)], []), ([2, 0, 0, 0, 2], 1, [(5, 18)], []), ([2, 0, 0, 0], 1, [(5, 19)], []), ([2, 0, 0], 1, [(5, 21)], []), ([2, 2, 0, 2], 1, [(2, 24)], []), ([2, 2, 0], 1, [(2, 30)], []), ([2, 0, 0], 1, [(5, 25)], []), ([0, 0, 0], 1, [(0, 26)], []), ([0], 1, [(0, 27)], []), ([0, 0], 1, [(0, 28)], []), ([2, 0, 0], 0, [(7, 29)], []), ([2, 2, 0, 2], 5, [(1, 32), (2, 33), (3, 33)], []), ([2, 2, 0, 2], 4, [(1, 34), (2, 24), (3, 35)], []), ([2, 2, 0], 4, [(1, 36), (2, 30), (3, 37)], []), ([2, 2, 0, 2], 5, [(1, 41), (2, 41), (3, 41)], []), ([2, 2, 0, 2], 5, [(1, 42), (2, 42), (3, 42)], []), ([2, 0, 2, 0], 1, [(8, 44)], []), ([2, 0, 2, 0], 4, [(1, 48), (2, 47), (3, 48)], []), ([2, 2], 0, [(8, 55)], []), ([2, 0], 1, [(8, 57)], []), ([2], 1, [(7, 45)], []), ([0, 0], 1, [(0, 46)], []), ([2, 2, 2], 4, [(1, 50), (2, 49), (3, 50)], []), ([2, 2, 0], 1, [(7, 51)], []), ([2, 0], 4, [(1, 52), (2, 53), (3, 54)], []), ([2, 2, 0], 0, [(8, 56)], []), ([2, 0, 0], 1, [(8, 58)], []), ([2], 1, [(8, 60)], []), ([2, 2, 0], 0, [(7, 61)], []), ([2, 2], 4, [(1, 62), (2, 63), (3, 63)], []), ([2, 0, 0, 0, 0, 0], 1, [(9, 66)], [(1, 3)]), ([2, 0], 0, [(9, 67)], []), ([2, 0, 0, 0, 0, 0], 1, [(9, 69)], [(2, 3), (3, 6), (1, 9)]), ([2, 0], 0, [(9, 70)], []), ([2, 0], 0, [(9, 71)], []), ([2, 2], 1, [(9, 81)], []), ([2], 0, [(9, 84)], []), ([2, 2, 2], 5, [(1, 85), (2, 87), (3, 89)], []), ([2, 0], 0, [(5, 86)], []), ([2, 2, 0, 0, 0], 0, [(9, 91)], []), ([2, 2], 1, [(9, 92)], []), ([0], 1, [(0, 72)], []), ([2, 0], 1, [(28, 73)], []), ([2, 0, 0], 1, [(28, 74)], []), ([2], 1, [(28, 75)], []), ([2], 1, [(28, 76)], []), ([2, 0, 0, 0], 1, [(0, 78)], []), ([2], 1, [(28, 77)], []), ([0], 1, [(0, 79)], []), ([2, 0, 0, 0], 1, [(0, 80)], []), ([2, 0, 0, 0], 4, [(1, 82), (2, 83), (3, 83)], []), ([2, 0], 0, [(0, 88)], []), ([0], 1, [(0, 90)], []), ([2, 2], 0, [(9, 93)], []), ([2, 0, 0], 1, [(9, 95)], [(2, 3), (3, 6)]), ([2, 0], 4, [(1, 96), (2, 97), (3, 97)], []), ([2, 0, 0], 0, [(7, 98)], []), ([2, 2, 0], 1, [(9, 99)], []), ([0], 1, [(0, 100)], []), ([2, 0], 1, [(28, 101)], []), ([2, 0], 1, [(0, 102)], []), ([0, 0], 0, [(0, 103)], []), ([0, 0, 2], 1, [(0, 104)], []), ([2, 0, 0, 0, 0, 0, 0], 1, [(9, 106)], [(3, 3), (1, 6)]), ([2, 0, 0], 1, [(5, 107)], []), ([2], 1, [(5, 108)], []), ([2], 1, [(9, 110)], [(1, 3)]), ([2, 2], 0, [(5, 111)], []), ([2, 0], 1, [(9, 113)], [(2, 3)]), ([2, 0], 0, [(9, 114)], []), ([2, 0, 0], 1, [(9, 116)], [(2, 3)]), ([0, 0], 0, [(0, 117)], []), ([2, 0, 0, 0], 1, [(9, 119)], [(2, 3), (3, 6)]), ([2, 0, 0, 0], 1, [(9, 121)], [(2, 3), (3, 6)]), ([2, 0, 0], 0, [(5, 122)], []), ([2, 0], 0, [(9, 124)], [(2, 1)]), ([2, 0, 0], 1, [(9, 126)], [(2, 3), (3, 6)]), ([2, 0], 1, [(5, 127)], []), ([2, 0, 0], 0, [(9, 129)], [(2, 1), (3, 4)]), ([2, 0], 1, [(9, 131)], [(2, 3)]), ([2, 0, 0], 1, [(9, 133)], [(2, 3)]), ([2, 0, 0], 3, [(9, 134)], []), ([2, 0, 0, 0], 1, [(9, 136)], [(2, 3)]), ([2, 0], 3, [(4, 137)], []), ([2, 0, 0, 0], 1, [(9, 139)], [(2, 3)]), ([2, 0, 0, 0], 1, [(9, 141)], [(2, 3)]), ([2, 0, 0, 0, 0], 1, [(9, 143)], [(2, 3)]), ([2, 0, 0], 1, [(9, 145)], [(2, 6)]), ([2, 0, 0, 0], 1, [(9, 147)], [(2, 3)]), ([2, 0, 0, 0], 1, [(9, 149)], [(2, 3)]), ([2, 0, 0], 1, [(9, 151)], [(2, 3), (4, 6)]), ([2, 2, 2], 0, [(9, 152)], []), ([2, 0, 0, 0], 2, [(5, 153)], []), ([2, 0, 0], 1, [(9, 155)], [(2, 3), (4, 6)]), ([1, 1], 2, [(0, 156)], []), ([2, 0, 0, 0], 1, [(9, 158)], [(2, 3)]), ([2, 0, 0, 0, 0], 1, [(9, 160)], [(2, 3)]), ([2, 0], 1, [(9, 162)], [(2, 3), (4, 6)]), ([2, 0], 1, [(9, 164)], [(2, 3)]), ([2, 0, 0, 0], 1, [(9, 166)], [(2, 3)]), ([2, 0, 0], 1, [(9, 168)], [(2, 3)]), ([2, 0, 0], 1, [(9, 170)], [(2, 3)]), ([2, 0, 0], 1, [(0, 171)], []), ([2, 0], 1, [(9, 173)], [(2, 3)]), ([2, 0], 1, [(9, 175)], [(2, 3)]), ([2], 1, [(8, 176)], []), ([2, 0], 1, [(9, 178)], [(2, 3), (1, 6), (4, 9)]), ([2, 0], 1, [(9, 180)], [(2, 3), (4, 6)]), ([2, 2], 1, [(8, 181)], []), ([2, 0, 0], 1, [(9, 183)], [(2, 6)]), ([0], 1, [(0, 188)], []), ([2, 0, 0, 0, 0], 1, [(10, 190)], []), ([2, 0, 0], 0, [(10, 195)], []), ([1, 1, 1], 1, [(0, 189)], []), ([0, 0], 1, [(0, 191)], []), ([2, 0, 0], 1, [(10, 192)], []), ([0], 1, [(0, 193)], []), ([0], 1, [(0, 194)], []), ([2], 0, [(10, 196)], []), ([2, 0], 0, [(10, 199)], []), ([2, 0], 0, [(10, 201)], []), ([2, 0], 0, [(10, 197)], []), ([2, 0], 0, [(10, 198)], []), ([0, 0], 1, [(0, 200)], []), ([0, 0], 1, [(0, 204)], []), ([2, 0], 1, [(10, 208)], []), ([2, 0, 0], 1, [(10, 210)], []), ([2, 0, 0], 0, [(10, 214)], []), ([2, 0, 0], 1, [(10, 219)], []), ([2, 0, 0], 1, [(10, 249)], []), ([2, 0, 0], 0, [(10, 220)], []), ([2, 0, 0], 1, [(10, 221)], []), ([2, 0, 0], 1, [(10, 245)], []), ([2, 0, 0], 1, [(10, 222)], []), ([2, 0, 0], 0, [(10, 244)], []), ([2, 0, 0], 1, [(10, 223)], []), ([2, 0], 1, [(10, 230)], []), ([2, 0], 1, [(10, 239)], []), ([2, 0], 1, [(10, 242)], []), ([0], 1, [(0, 224)], []), ([2, 0, 0], 1, [(10, 225)], []), ([2, 0], 1, [(10, 226)], []), ([2, 0, 0], 1, [(10, 228)], []), ([2, 0, 0], 1, [(10, 229)], []), ([2, 0, 0, 0], 1, [(10, 227)], []), ([2, 0], 1, [(10, 231)], []), ([2, 0, 0], 1, [(10, 237)], []), ([2, 0], 1, [(10, 232)], []), ([0, 0], 1, [(0, 233)], []), ([0, 0, 0], 1, [(0, 234)], []), ([0, 0], 1, [(0, 235)], []), ([2, 0, 0], 0, [(10, 236)], []), ([0], 1, [(0, 238)], []), ([2, 0], 1, [(10, 240)], []), ([2, 0], 1, [(10, 241)], []), ([2, 0, 0], 1, [(10, 243)], []), ([2, 0, 0], 0, [(10, 246)], []), ([2, 0, 0], 0, [(10, 247)], []), ([2, 0, 0], 1, [(10, 248)], []), ([2, 0, 0, 0, 0], 1, [(10, 252)], []), ([2, 0, 0, 0], 1, [(10, 253)], []), ([2, 0, 0, 0], 1, [(10, 255)], []), ([2, 0, 0], 1, [(10, 259)], []), ([2, 0], 0, [(10, 262)], []), ([2, 0, 0], 1, [(10, 264)], []), ([2, 0, 0, 0], 1, [(10, 265)], []), ([2, 0, 0, 0], 1, [(10, 267)], []), ([2, 0, 0, 0], 1, [(10, 268)], []), ([2, 0], 1, [(10, 271)], []), ([2, 0], 1, [(10, 273)], []), ([2], 1, [(10, 274)], []), ([2, 0], 1, [(10, 275)], []), ([2, 0], 1, [(10, 276)], []), ([2, 0, 0], 1, [(10, 278)], []), ([2, 0], 1, [(10, 281)], []), ([2, 0], 1, [(10, 279)], []), ([2, 0, 0, 0], 0, [(10, 280)], []), ([2, 0], 1, [(10, 283)], []), ([2, 0], 1, [(10, 286)], []), ([2, 0, 0], 1, [(10, 287)], []), ([2, 0, 0, 0, 0], 1, [(10, 288)], []), ([2, 0], 1, [(10, 292)], []), ([2], 5, [(9, 0)], []), ([2], 5, [(10, 184)], []), ([2, 0, 0, 0, 0, 0, 2], 4, [(0, 65)], []), ([2, 0, 0, 0, 0, 0], 1, [(10, 186)], []), ([2], 1, [(10, 185)], []), ([2, 0, 0, 0, 0, 0, 2], 4, [(0, 68)], []), ([2, 0, 0, 0, 0, 0], 1, [(10, 187)], []), ([2, 0, 0, 2], 4, [(0, 94)], []), ([2, 0, 0], 1, [(10, 202)], []), ([2, 0, 0, 0, 0, 0, 0, 2], 4, [(0, 105)], []), ([2, 0, 0, 0, 0, 0, 0], 1, [(10, 203)], []), ([2, 2], 4, [(0, 109)], []), ([2], 1, [(10, 205)], []), ([2], 1, [(9, 10)], []), ([2], 1, [(10, 206)], []), ([2, 0, 2], 4, [(0, 112)], []), ([2, 0], 1, [(10, 207)], []), ([2, 0, 0, 2], 4, [(0, 115)], []), ([2, 0, 0], 1, [(10, 209)], []), ([2, 0, 0, 0, 2], 4, [(0, 118)], []), ([2, 0, 0, 0], 1, [(10, 211)], []), ([2, 0, 0, 0, 2], 4, [(0, 120)], []), ([2, 0, 0, 0], 1, [(10, 212)], []), ([2, 0], 4, [(0, 123)], []), ([2, 0], 0, [(10, 213)], []), ([2, 0, 0, 2], 4, [(0, 125)], []), ([2, 0, 0], 1, [(10, 215)], []), ([2, 0, 0], 4, [(0, 128)], []), ([2, 0, 0], 0, [(10, 216)], []), ([2, 0, 2], 4, [(0, 130)], []), ([2, 0], 1, [(10, 217)], []), ([2, 0, 0, 2], 4, [(0, 132)], []), ([2, 0, 0], 1, [(10, 218)], []), ([2, 0, 0, 0, 2], 4, [(0, 135)], []), ([2, 0, 0, 0], 1, [(10, 250)], []), ([2, 0, 0, 0, 2], 4, [(0, 138)], []), ([2, 0, 0, 0], 1, [(10, 251)], []), ([2, 0, 0, 0, 2], 4, [(0, 140)], []), ([2, 0, 0, 0], 1, [(10, 254)], []), ([2, 0, 0, 0, 0, 2], 4, [(0, 142)], []), ([2, 0, 0, 0, 0], 1, [(10, 256)], []), ([2, 0, 0, 2], 4, [(0, 144)], []), ([2, 0, 0], 1, [(10, 257)], []), ([2, 0, 0, 0, 2], 4, [(0, 146)], []), ([2, 0, 0, 0], 1, [(10, 261)], []), ([2, 0, 0, 0, 2], 4, [(0, 148)], []), ([2, 0, 0, 0], 1, [(10, 263)], []), ([2, 0, 0, 2], 4, [(0, 150)], []), ([2, 0, 0], 1, [(10, 258)], []), ([2, 0, 0, 2], 4, [(0, 154)], []), ([2, 0, 0], 1, [(10, 260)], []), ([2, 0, 0, 0, 2], 4, [(0, 157)], []), ([2, 0, 0, 0], 1, [(10, 266)], []), ([2, 0, 0, 0, 0, 2], 4, [(0, 159)], []), ([2, 0, 0, 0, 0], 1, [(10, 269)], []), ([2, 0, 2], 4, [(0, 161)], []), ([2, 0], 1, [(10, 270)], []), ([2, 0, 2], 4, [(0, 163)], []), ([2, 0], 1, [(10, 272)], []), ([2, 0, 0, 0, 2], 4, [(0, 165)], []), ([2, 0, 0, 0], 1, [(10, 277)], []), ([2, 0, 0, 2], 4, [(0, 167)], []), ([2, 0, 0], 1, [(10, 282)], []), ([2, 0, 0, 2], 4, [(0, 169)], []), ([2, 0, 0], 1, [(10, 284)], []), ([2, 0, 2], 4, [(0, 172)], []), ([2, 0], 1, [(10, 285)], []), ([2, 0, 2], 4, [(0, 174)], []), ([2, 0], 1, [(10, 289)], []), ([2, 0, 2], 4, [(0, 177)], []), ([2, 0], 1, [(10, 290)], []), ([2], 1, [(9, 11)], []), ([2], 1, [(10, 291)], []), ([2, 0, 2], 4, [(0, 179)], []), ([2, 0], 1, [(10, 293)], []), ([2, 0, 0, 2], 4, [(0, 182)], []), ([2, 0, 0], 1, [(10, 294)], [])]
/-- the machine over this code -/
noncomputable def bx (n : Nat) : bz_X0 := bz_Z bz_cds bz_ct bz_mls n
end
section
/-! VALUES: the machine's int32s and int64s as Ints -/
theorem bz_w32 (x : Int) : x.bmod (2 ^ 32) = wr x := by
  unfold wr
  rw [Int.bmod_def]
  split <;> omega
theorem bz_w64 (x : Int) : x.bmod (2 ^ 64) = wl x := by
  unfold wl
  rw [Int.bmod_def]
  split <;> omega
def r32 (x : Int) : Prop := -2147483648 ≤ x ∧ x < 2147483648
def r64 (x : Int) : Prop := -9223372036854775808 ≤ x ∧ x < 9223372036854775808
theorem r32_of (n : Int32) : r32 n.toInt := ⟨by have := n.le_toInt; exact this, by have := n.toInt_lt; exact this⟩
theorem r64_of (n : Int64) : r64 n.toInt := ⟨by have := n.le_toInt; exact this, by have := n.toInt_lt; exact this⟩
theorem bz_to {x : Int} (h : r32 x) : (Int32.ofInt x).toInt = x := Int32.toInt_ofInt_of_le (by have := h.1; omega) (by have := h.2; omega)
theorem bz_tol {x : Int} (h : r64 x) : (Int64.ofInt x).toInt = x := Int64.toInt_ofInt_of_le (by have := h.1; omega) (by have := h.2; omega)
theorem bz_add (a b : Int32) : (a + b).toInt = wr (a.toInt + b.toInt) := by rw [Int32.toInt_add, bz_w32]
theorem bz_sub (a b : Int32) : (a - b).toInt = wr (a.toInt - b.toInt) := by rw [Int32.toInt_sub, bz_w32]
theorem bz_mul (a b : Int32) : (a * b).toInt = wr (a.toInt * b.toInt) := by rw [Int32.toInt_mul, bz_w32]
theorem bz_neg (a : Int32) : (-a).toInt = wr (-a.toInt) := by rw [Int32.toInt_neg, bz_w32]
theorem bz_div (a b : Int32) : (a / b).toInt = wr (a.toInt.tdiv b.toInt) := by rw [Int32.toInt_div, bz_w32]
theorem bz_rem (a b : Int32) : (a - a / b * b).toInt = a.toInt.tmod b.toInt := by
  rw [Int32.toInt_sub, Int32.toInt_mul, Int32.toInt_div, Int.bmod_mul_bmod, Int.sub_bmod_bmod, Int.mul_comm (a.toInt.tdiv b.toInt), ← Int.tmod_def, ← Int32.toInt_mod]
  exact Int32.toInt_bmod_size _
theorem bz_addl (a b : Int64) : (a + b).toInt = wl (a.toInt + b.toInt) := by rw [Int64.toInt_add, bz_w64]
theorem bz_subl (a b : Int64) : (a - b).toInt = wl (a.toInt - b.toInt) := by rw [Int64.toInt_sub, bz_w64]
theorem bz_mull (a b : Int64) : (a * b).toInt = wl (a.toInt * b.toInt) := by rw [Int64.toInt_mul, bz_w64]
theorem bz_divl (a b : Int64) : (a / b).toInt = wl (a.toInt.tdiv b.toInt) := by rw [Int64.toInt_div, bz_w64]
theorem bz_i2l' (a : Int32) : a.toInt64.toInt = a.toInt := Int32.toInt_toInt64 a
theorem bz_l2i' (a : Int64) : a.toInt32.toInt = wr a.toInt := by rw [Int64.toInt_toInt32, bz_w32]
theorem bz_band (a b : Int32) : (a &&& b).toInt = bz_and a.toInt b.toInt := by simp [bz_and]
theorem bz_bor (a b : Int32) : (a ||| b).toInt = bz_or a.toInt b.toInt := by simp [bz_or]
theorem bz_bshl (a b : Int32) : (a <<< (b &&& 31)).toInt = bz_shl a.toInt b.toInt := by simp [bz_shl]
theorem bz_bshr (a b : Int32) : (a >>> (b &&& 31)).toInt = bz_shr a.toInt b.toInt := by simp [bz_shr]
theorem bz_bushr (a b : Int32) : ((a.toUInt32 >>> (b.toUInt32 &&& Int32.toUInt32 31)).toInt32).toInt = bz_ushr a.toInt b.toInt := by simp only [bz_ushr, Int32.ofInt_toInt]
theorem bz_bxorl (a b : Int64) : (a ^^^ b).toInt = bz_lxor a.toInt b.toInt := by simp [bz_lxor]
theorem bz_eq0 (a b : Int32) : a = b ↔ a.toInt = b.toInt := Int32.toInt_inj.symm
theorem bz_lt0 (a b : Int32) : a < b ↔ a.toInt < b.toInt := Int32.lt_iff_toInt_lt
theorem bz_le0 (a b : Int32) : a ≤ b ↔ a.toInt ≤ b.toInt := Int32.le_iff_toInt_le
theorem bz_eql (a b : Int64) : a = b ↔ a.toInt = b.toInt := Int64.toInt_inj.symm
theorem bz_ltl (a b : Int64) : a < b ↔ a.toInt < b.toInt := Int64.lt_iff_toInt_lt
theorem bz_z : (0 : Int32).toInt = 0 := rfl
theorem bz_cm (a b : Int64) : (lg_cmp a b).toInt = bz_cmp a.toInt b.toInt := by
  unfold lg_cmp bz_cmp
  rcases Int.lt_trichotomy a.toInt b.toInt with h | h | h
  · have h1 : a < b := (bz_ltl a b).mpr h
    have h2 : ¬ b < a := fun q => by have := (bz_ltl b a).mp q; omega
    have h3 : ¬ a = b := fun q => by subst q; omega
    simp [h, h1, h2, h3]
  · have h1 : a = b := (bz_eql a b).mpr h
    subst h1
    simp
  · have h1 : b < a := (bz_ltl b a).mpr h
    have h2 : ¬ a < b := fun q => by have := (bz_ltl a b).mp q; omega
    have h3 : ¬ a.toInt < b.toInt := by omega
    have h4 : ¬ a.toInt = b.toInt := by omega
    have h5 : ¬ a = b := fun q => h4 (by rw [q])
    simp [h1, h2, h3, h4, h5]
theorem bz_c2 (a : Int32) : ((a.toUInt32 % 65536).toInt32).toInt = bz_i2c a.toInt := by
  rw [pk_char, nI_toInt (by omega)]
  show ((a.toBitVec.toNat % 65536 : Nat) : Int) = a.toBitVec.toInt % 65536
  rw [BitVec.toInt_eq_toNat_cond]
  split <;> omega
theorem bz_b2 (a : Int32) : (a.toInt8.toInt32).toInt = bz_i2b a.toInt := by
  rw [Int8.toInt_toInt32, Int32.toInt_toInt8]
  unfold bz_i2b
  rw [Int.bmod_def]
  split <;> omega
theorem bz_clamp {a : Int32} (h : 0 ≤ a.toInt) : ((a.toNatClampNeg : Nat) : Int) = a.toInt := Int32.cast_toNatClampNeg a ((bz_le0 0 a).mpr h)
theorem bz_vpin {a : Int32} {n : Nat} (h0 : 0 ≤ a.toInt) (h1 : a.toInt < n) : vp_in a n := vp_in_iff.mpr ⟨h0, h1⟩
end
section
/-! THE RELATION between the small machine and the Java machine -/
abbrev bz_N : Type := Nat × (Nat → Nat) × va_G × (Nat → ClassId) × List (Nat × Nat) × (Nat → Int → Int) × (Nat → Int → Nat)
def nB (N : bz_N) : Nat := N.1
def nX (N : bz_N) : Nat → Nat := N.2.1
def nD (N : bz_N) : va_G := N.2.2.1
def nC (N : bz_N) : Nat → ClassId := N.2.2.2.1
def nT (N : bz_N) : List (Nat × Nat) := N.2.2.2.2.1
def nM (N : bz_N) : Nat → Int → Int := N.2.2.2.2.2.1
def nP (N : bz_N) : Nat → Int → Nat := N.2.2.2.2.2.2
def bz_ad (N : bz_N) (a : Nat) : Nat := if a < 16 then nX N a else nB N + (a - 16)
def bz_A (N : bz_N) : Nat → Prop := fun q => nB N ≤ q
def C1 (μ : bz_M) : Nat := μ.2.2.2.2.1
def C2 (μ : bz_M) : Nat := μ.2.2.2.2.2
def bz_vr (N : bz_N) (v : bz_V) (w : Value) : Prop := match v with
  | .inl x => ∃ n : Int32, w = .int n ∧ n.toInt = x
  | .inr (.inl x) => ∃ n : Int64, w = .long n ∧ n.toInt = x
  | .inr (.inr a) => if a = 15 then (w = .null ∨ ∃ q, w = .ref q) else w = .ref (bz_ad N a)
/-- a stack -/
def bz_vs (N : bz_N) : List bz_V → List Value → Prop
  | [], [] => True
  | v :: vs, w :: ws => bz_vr N v w ∧ bz_vs N vs ws
  | _, _ => False
theorem bz_vr_cat {N : bz_N} {v : bz_V} {w : Value} (h : bz_vr N v w) : w.category = bz_cat v := by
  match v, h with
  | .inl x, ⟨n, h, _⟩ => rw [h]; rfl
  | .inr (.inl x), ⟨n, h, _⟩ => rw [h]; rfl
  | .inr (.inr a), h =>
    unfold bz_vr at h
    dsimp only at h
    split at h
    · rcases h with h | ⟨q, h⟩ <;> (rw [h]; rfl)
    · rw [h]; rfl
theorem bz_vs_sum {N : bz_N} : ∀ {vs : List bz_V} {ws : List Value}, bz_vs N vs ws → (ws.map fun v => v.category).sum = bz_sum vs
  | [], [], _ => rfl
  | v :: vs, w :: ws, h => by
    show w.category + (ws.map fun v => v.category).sum = bz_cat v + bz_sum vs
    rw [bz_vr_cat h.1, bz_vs_sum h.2]
theorem bz_vs_len {N : bz_N} : ∀ {vs : List bz_V} {ws : List Value}, bz_vs N vs ws → ws.length = vs.length
  | [], [], _ => rfl
  | v :: vs, w :: ws, h => by
    show ws.length + 1 = vs.length + 1
    rw [bz_vs_len h.2]
theorem bz_vs_take {N : bz_N} (n : Nat) : ∀ {vs : List bz_V} {ws : List Value}, bz_vs N vs ws → bz_vs N (vs.take n) (ws.take n) ∧ bz_vs N (vs.drop n) (ws.drop n) := by
  induction n with
  | zero => intro vs ws h; exact ⟨by simp [bz_vs], by simpa using h⟩
  | succ n ih =>
    intro vs ws h
    match vs, ws, h with
    | [], [], _ => exact ⟨by simp [bz_vs], by simp [bz_vs]⟩
    | v :: vs, w :: ws, h =>
      obtain ⟨h1, h2⟩ := ih h.2
      exact ⟨⟨h.1, h1⟩, h2⟩
theorem bz_vs_app {N : bz_N} : ∀ {vs us : List bz_V} {ws zs : List Value}, bz_vs N vs ws → bz_vs N us zs → bz_vs N (vs ++ us) (ws ++ zs)
  | [], us, [], zs, _, h => h
  | v :: vs, us, w :: ws, zs, h, h2 => ⟨h.1, bz_vs_app h.2 h2⟩
theorem bz_vs_rev {N : bz_N} : ∀ {vs : List bz_V} {ws : List Value}, bz_vs N vs ws → bz_vs N vs.reverse ws.reverse
  | [], [], _ => trivial
  | v :: vs, w :: ws, h => by
    rw [List.reverse_cons, List.reverse_cons]
    exact bz_vs_app (bz_vs_rev h.2) ⟨h.1, trivial⟩
/-- locals: what a slot holds is what it's said to hold; a long stands in a slot for longs alone -/
def bz_ll (k : Nat) (N : bz_N) (L : List (Option bz_V)) (ls : Array Slot) (nL : Nat) : Prop :=
  ls.size = nL ∧ lv_wf ls ∧ L.length = nL ∧ (∀ (i : Nat) (v : bz_V), L[i]? = some (some v) → ∃ w, ls[i]? = some (Slot.val w) ∧ bz_vr N v w) ∧ ∀ (i : Nat) (v : bz_V), L[i]? = some (some v) → bz_cat v = 2 → i ∈ bz_lgs k
/-- all that the locals hold -/
def bz_lv (ls : Array Slot) : List (Nat × Value) := (List.range ls.size).filterMap fun i => match ls[i]? with
  | some (Slot.val v) => some (i, v)
  | _ => none
theorem bz_lv_in {ls : Array Slot} {q : Nat × Value} : q ∈ bz_lv ls ↔ ls[q.1]? = some (Slot.val q.2) := by
  unfold bz_lv
  rw [List.mem_filterMap]
  constructor
  · rintro ⟨i, -, h⟩
    split at h
    · rename_i v hv
      cases h
      exact hv
    · cases h
  · intro h
    refine ⟨q.1, List.mem_range.mpr (Array.getElem?_eq_some_iff.mp h).1, ?_⟩
    rw [h]
theorem bz_lv_has {k : Nat} {N : bz_N} {L : List (Option bz_V)} {ls : Array Slot} {nL : Nat} (h : bz_ll k N L ls nL) : lv_has ls nL (bz_lv ls) := ⟨h.1, h.2.1, fun _ hq => bz_lv_in.mp hq⟩
/-- behind a store of one slot -/
theorem bz_ll_set {k : Nat} {N : bz_N} {L : List (Option bz_V)} {ls ls' : Array Slot} {nL i : Nat} {v : bz_V} {w : Value} (h : bz_ll k N L ls nL) (hv : bz_vr N v w) (hc : bz_cat v = 1) (hg : ∀ j, j + 1 = i → j ∉ bz_lgs k)
    (h' : lv_has ls' nL ((i, w) :: (bz_lv ls).filter (fun q => !(q.1 == i) && !(q.1 + 1 == i && q.2.category == 2)))) : bz_ll k N (L.set i (some v)) ls' nL := by
  obtain ⟨h1, h2, h3, h4, h5⟩ := h
  refine ⟨h'.1, h'.2.1, by rw [List.length_set]; exact h3, fun j u hj => ?_, fun j u hj hu => ?_⟩
  · rw [List.getElem?_set] at hj
    split at hj
    · rename_i e
      subst e
      split at hj
      · cases hj
        exact ⟨w, h'.2.2 (i, w) List.mem_cons_self, hv⟩
      · cases hj
    · rename_i e
      obtain ⟨w2, h6, h7⟩ := h4 j u hj
      refine ⟨w2, h'.2.2 (j, w2) (List.mem_cons_of_mem _ (List.mem_filter.mpr ⟨bz_lv_in.mpr h6, ?_⟩)), h7⟩
      have e1 : (j == i) = false := by simpa using fun q : j = i => e q.symm
      simp only [e1, Bool.not_false, Bool.true_and, Bool.not_eq_true', Bool.and_eq_false_iff]
      by_cases e2 : j + 1 = i
      · right
        have h8 : ¬ bz_cat u = 2 := fun q => hg j e2 (h5 j u hj q)
        rw [bz_vr_cat h7]
        simpa using h8
      · left
        simpa using e2
  · rw [List.getElem?_set] at hj
    split at hj
    · split at hj
      · cases hj
        omega
      · cases hj
    · exact h5 j u hj hu
/-- behind a store of a long -/
theorem bz_ll_setl {k : Nat} {N : bz_N} {L : List (Option bz_V)} {ls ls' : Array Slot} {nL i : Nat} {v : bz_V} {w : Value} (h : bz_ll k N L ls nL) (hv : bz_vr N v w) (hi : i ∈ bz_lgs k) (hg : ∀ j, j + 1 = i → j ∉ bz_lgs k)
    (h' : lv_has ls' nL ((i, w) :: (bz_lv ls).filter (fun q => !(q.1 == i) && (!(q.1 == i + 1) && !(q.1 + 1 == i && q.2.category == 2))))) : bz_ll k N ((L.set i (some v)).set (i + 1) none) ls' nL := by
  obtain ⟨h1, h2, h3, h4, h5⟩ := h
  refine ⟨h'.1, h'.2.1, by rw [List.length_set, List.length_set]; exact h3, fun j u hj => ?_, fun j u hj hu => ?_⟩
  · rw [List.getElem?_set] at hj
    split at hj
    · split at hj <;> cases hj
    · rename_i e0
      rw [List.getElem?_set] at hj
      split at hj
      · rename_i e
        subst e
        split at hj
        · cases hj
          exact ⟨w, h'.2.2 (i, w) List.mem_cons_self, hv⟩
        · cases hj
      · rename_i e
        obtain ⟨w2, h6, h7⟩ := h4 j u hj
        refine ⟨w2, h'.2.2 (j, w2) (List.mem_cons_of_mem _ (List.mem_filter.mpr ⟨bz_lv_in.mpr h6, ?_⟩)), h7⟩
        have e1 : (j == i) = false := by simpa using fun q : j = i => e q.symm
        have e3 : (j == i + 1) = false := by simpa using fun q : j = i + 1 => e0 q.symm
        simp only [e1, e3, Bool.not_false, Bool.true_and, Bool.not_eq_true', Bool.and_eq_false_iff]
        by_cases e2 : j + 1 = i
        · right
          have h8 : ¬ bz_cat u = 2 := fun q => hg j e2 (h5 j u hj q)
          rw [bz_vr_cat h7]
          simpa using h8
        · left
          simpa using e2
  · rw [List.getElem?_set] at hj
    split at hj
    · split at hj <;> cases hj
    · rw [List.getElem?_set] at hj
      split at hj
      · rename_i e
        subst e
        exact hi
      · exact h5 j u hj hu
theorem bz_mk_get {m : Nat} {L : List (Option bz_V)} : ∀ {i : Nat} {v : bz_V}, (bz_mk m L)[i]? = some (some v) → L[i]? = some (some v) := by
  induction L generalizing m with
  | nil => intro i v h; simp [bz_mk] at h
  | cons x L ih =>
    intro i v h
    cases i with
    | zero =>
      rw [bz_mk] at h
      cases hb : Nat.beq (m % 2) 1
      · rw [hb] at h; simp at h
      · rw [hb] at h; simpa using h
    | succ i =>
      rw [bz_mk, List.getElem?_cons_succ] at h
      rw [List.getElem?_cons_succ]
      exact ih h
theorem bz_mk_len {m : Nat} {L : List (Option bz_V)} : (bz_mk m L).length = L.length := by
  induction L generalizing m with
  | nil => rfl
  | cons x L ih => rw [bz_mk, List.length_cons, List.length_cons, ih]
theorem bz_ll_mk {k : Nat} {N : bz_N} {L : List (Option bz_V)} {ls : Array Slot} {nL m : Nat} (h : bz_ll k N L ls nL) : bz_ll k N (bz_mk m L) ls nL :=
  ⟨h.1, h.2.1, by rw [bz_mk_len]; exact h.2.2.1, fun i v hv => h.2.2.2.1 i v (bz_mk_get hv), fun i v hv => h.2.2.2.2 i v (bz_mk_get hv)⟩
/-! the cells -/
def bz_fk (t j : Nat) : Nat := (bz_fks.getD t []).getD j 0
def bz_rf (N : bz_N) (p : Nat) : Option Nat := if p = 0 then none else some (bz_ad N p)
def bz_fv (N : bz_N) (μ : bz_M) (a κ : Nat) (j : Int) : Value := match κ with
  | 0 => .int (Int32.ofInt (gM μ a j))
  | 1 => .long (Int64.ofInt (gG μ a j))
  | _ => va_rf (bz_rf N (gP μ a j))
def bz_nn (μ : bz_M) (a : Nat) : Nat := (μ.1.getD a (0, 0)).2
def bz_da (N : bz_N) (μ : bz_M) (a t : Nat) : (Nat → Int32) ⊕ (Nat → Int64) ⊕ (Nat → UInt32) ⊕ (Nat → UInt64) ⊕ (Nat → Option Nat) :=
  if t < 23 then .inl (fun j => Int32.ofInt (gM μ a j)) else if t = 23 then .inr (.inl (fun j => Int64.ofInt (gG μ a j))) else .inr (.inr (.inr (.inr (fun j => bz_rf N (gP μ a j)))))
def bz_ce (N : bz_N) (μ : bz_M) (a : Nat) : va_E :=
  if gT μ a < 20 then .inr (gT μ a - 1, (List.range (bz_ns (gT μ a))).map fun j => bz_fv N μ a (bz_fk (gT μ a) j) (j : Int))
  else .inl (nC N (gT μ a), bz_nn μ a, bz_da N μ a (gT μ a))
def bz_ws (N : bz_N) (μ : bz_M) : va_W := (List.range (μ.1.length - 16)).map fun i => (nB N + i, bz_ce N μ (i + 16))
def bz_tg1 (t : Nat) : Prop := (1 ≤ t ∧ t ≤ 10) ∨ t = 20 ∨ (22 ≤ t ∧ t ≤ 27)
def bz_OK (N : bz_N) (μ : bz_M) : Prop :=
  16 ≤ μ.1.length ∧ (∀ a i, r32 (gM μ a i)) ∧ (∀ a i, r64 (gG μ a i)) ∧ (∀ a i, μ.1.length ≤ a → gP μ a i = 0 ∧ gM μ a i = 0 ∧ gG μ a i = 0) ∧ (∀ a, 16 ≤ a → a < μ.1.length → bz_tg1 (gT μ a)) ∧
  (∀ a, a < 16 → μ.1[a]? = (nT N)[a]?) ∧ (∀ a, a < 16 → ∀ i, gM μ a i = nM N a i ∧ gP μ a i = nP N a i) ∧ (∀ a, bz_nn μ a ≤ 10000)
def bz_Rep (N : bz_N) (μ : bz_M) (H : Heap) : Prop :=
  bz_OK N μ ∧ va_P (nD N) vwCl (bz_ws N μ) H
theorem bz_gT_len {μ : bz_M} {a : Nat} (h : gT μ a ≠ 0) : a < μ.1.length := by
  unfold gT at h
  by_cases hl : a < μ.1.length
  · exact hl
  · rw [List.getD_eq_getElem?_getD, List.getElem?_eq_none (by omega)] at h
    exact absurd rfl h
/-- where the outside cells' tags are as they must be, a tag of a cell that can be written is an inner cell's -/
theorem bz_in {N : bz_N} {μ : bz_M} (hO : bz_OK N μ) (hx : ∀ a t, a < 16 → (nT N)[a]? = some t → t.1 = 0 ∨ t.1 = 21 ∨ t.1 = 28 ∨ t.1 = 29) {a : Nat} (h : bz_tg1 (gT μ a)) : 16 ≤ a ∧ a < μ.1.length := by
  have hl : a < μ.1.length := bz_gT_len (by rcases h with h | h | h <;> omega)
  refine ⟨?_, hl⟩
  rcases Nat.lt_or_ge a 16 with q | q
  · obtain ⟨-, -, -, -, -, h6, -⟩ := hO
    have e := h6 a q
    have e2 : μ.1[a]? = some μ.1[a] := List.getElem?_eq_getElem hl
    have e3 : gT μ a = (μ.1[a]).1 := by unfold gT; rw [List.getD_eq_getElem?_getD, e2]; rfl
    have := hx a _ q (e.symm.trans e2)
    rw [← e3] at this
    rcases h with h | h | h <;> omega
  · exact q
theorem bz_ws_get {N : bz_N} {μ : bz_M} {a : Nat} (h : 16 ≤ a ∧ a < μ.1.length) : (bz_ws N μ)[a - 16]? = some (bz_ad N a, bz_ce N μ a) := by
  unfold bz_ws
  rw [List.getElem?_map, List.getElem?_range (by omega)]
  have e : a - 16 + 16 = a := by omega
  simp only [Option.map_some, e]
  unfold bz_ad
  rw [if_neg (by omega)]
theorem bz_ws_set {N : bz_N} {μ μ' : bz_M} {a : Nat} (h : 16 ≤ a ∧ a < μ.1.length) (hl : μ'.1 = μ.1) (ho : ∀ b, b ≠ a → bz_ce N μ' b = bz_ce N μ b) : (bz_ws N μ).set (a - 16) (bz_ad N a, bz_ce N μ' a) = bz_ws N μ' := by
  apply List.ext_getElem?
  intro j
  rw [List.getElem?_set]
  by_cases hj : j < μ.1.length - 16
  · have g1 : ∀ ν : bz_M, ν.1 = μ.1 → (bz_ws N ν)[j]? = some (nB N + j, bz_ce N ν (j + 16)) := by
      intro ν hν
      unfold bz_ws
      rw [hν, List.getElem?_map, List.getElem?_range hj]
      rfl
    rw [g1 μ' hl]
    split
    · rename_i e
      subst e
      have e : a - 16 + 16 = a := by omega
      rw [if_pos (by unfold bz_ws; simp; omega), e]
      unfold bz_ad
      rw [if_neg (by omega)]
    · rename_i e
      rw [g1 μ rfl, ho (j + 16) (by omega)]
  · have g1 : ∀ ν : bz_M, ν.1 = μ.1 → (bz_ws N ν)[j]? = none := by
      intro ν hν
      unfold bz_ws
      rw [hν, List.getElem?_eq_none (by simp; omega)]
    rw [g1 μ' hl, g1 μ rfl, if_neg (by omega)]
theorem bz_ws_D {N : bz_N} {μ : bz_M} : va_D (bz_A N) (bz_ws N μ) := by
  have key : ∀ (k : Nat) (q : Nat × va_E), (bz_ws N μ)[k]? = some q → q.1 = nB N + k := by
    intro k q h
    unfold bz_ws at h
    rw [List.getElem?_map] at h
    by_cases hk : k < μ.1.length - 16
    · rw [List.getElem?_range hk] at h
      cases h
      rfl
    · rw [List.getElem?_eq_none (by simp; omega)] at h
      cases h
  refine ⟨fun i j p q hi hj e => ?_, fun k q h => ?_⟩
  · have := key i p hi
    have := key j q hj
    omega
  · have := key k q h
    show nB N ≤ q.1
    omega
end
section
/-! ENVIRONMENT: what the walk of a method stands on -/
def bz_strs : List (String × Nat × String) := [("BarcodeEngine", 329, "no such symbology"), ("BarcodeEngine", 75, "the text buffer is full"), ("BarcodeEngine", 333, "the text buffer has no so many bytes"), ("BarcodeEngine", 92, "module or spread out of range"), ("BarcodeEngine", 337, "0123456789-$:/.+ABCD"), ("BarcodeEngine", 106, "the bytes are no code"), ("BarcodeEngine", 335, "there are already 24 scans"), ("BarcodeEngine", 143, "the bytes are no code without its check character"), ("BarcodeEngine", 156, "a width is out of range"), ("BarcodeEngine", 162, "too many pending widths"), ("BarcodeEngine", 167, "the pending widths are no scan"), ("BarcodeEngine", 326, "no such scan"), ("BarcodeEngine", 331, "no such place"), ("BarcodeEngine", 179, "the width is out of range"), ("BarcodeEngine", 185, "these widths are no scan"), ("BarcodeEngine", 193, "the amount is out of range"), ("BarcodeEngine", 198, "the scans have different numbers of widths"), ("BarcodeEngine", 362, "no whole code is read"), ("BarcodeEngine", 271, "no scan has a whole code"), ("BarcodeEngine", 307, "not just one place is without a majority"), ("BarcodeEngine", 313, "not just one character repairs the code"), ("BarcodeEngine", 322, "no scan has a whole code of the length"), ("BarcodeEngineModel", 84, "0123456789-$:/.+ABCD")]
def bz_exs : List String := ["", "java/lang/IllegalStateException", "java/lang/IndexOutOfBoundsException", "java/lang/IllegalArgumentException", "java/util/NoSuchElementException"]
def bz_exn (c : Nat) : String := bz_exs.getD c ""
def bz_ncs : List (String × String) := [("java/lang/IllegalStateException", "java/lang/IndexOutOfBoundsException"), ("java/lang/IllegalStateException", "java/lang/IllegalArgumentException"), ("java/lang/IllegalStateException", "java/util/NoSuchElementException"), ("java/lang/IndexOutOfBoundsException", "java/lang/IllegalStateException"), ("java/lang/IndexOutOfBoundsException", "java/lang/IllegalArgumentException"), ("java/lang/IndexOutOfBoundsException", "java/util/NoSuchElementException"), ("java/lang/IllegalArgumentException", "java/lang/IllegalStateException"), ("java/lang/IllegalArgumentException", "java/lang/IndexOutOfBoundsException"), ("java/lang/IllegalArgumentException", "java/util/NoSuchElementException"), ("java/util/NoSuchElementException", "java/lang/IllegalStateException"), ("java/util/NoSuchElementException", "java/lang/IndexOutOfBoundsException"), ("java/util/NoSuchElementException", "java/lang/IllegalArgumentException")]
def bz_nst : List (String × Nat × String) := [("BarcodeEngine$Codabar", 25, "CODABAR_PATTERNS"), ("BarcodeEngine$Interleaved", 31, "INTERLEAVED_PATTERNS"), ("BarcodeEngine$Ean8", 25, "EAN_WIDTHS")]
def bz_nstw (e : String × Nat × String) : Cond := .fieldLinkNest e.1 e.2.1 "BarcodeEngine" e.2.2 "[I" "BarcodeEngine"
def bz_tys (N : bz_N) : List (ClassId × FieldType) := [(nC N 20, .int), (nC N 22, .boolean), (nC N 23, .long), (nC N 24, .object "BarcodeEngine$Scan"), (nC N 25, .object "BarcodeEngine$Reading"), (nC N 26, .object "BarcodeEngine$Symbology"), (nC N 27, .object "BarcodeEngine$Tally")]
def bz_dc3 : List MethodName := [⟨"java/lang/RuntimeException", "<init>", "(Ljava/lang/String;)V"⟩, ⟨"java/lang/Exception", "<init>", "(Ljava/lang/String;)V"⟩, ⟨"java/lang/Throwable", "<init>", "(Ljava/lang/String;)V"⟩]
def bz_E (N : bz_N) (U : State) (H : Heap) : Prop :=
  va_K (nD N) vwCl (bz_tys N) U ∧
  (∀ q ∈ bz_strs, ∃ a, vk_R q.1 q.2.1 q.2.2 a U) ∧
  (vk_R "BarcodeEngine" 337 "0123456789-$:/.+ABCD" (nX N 5) U ∧ vk_R "BarcodeEngineModel" 84 "0123456789-$:/.+ABCD" (nX N 6) U) ∧
  (vx_Zq Bundle.tN "UNASSIGNED_STACK" Bundle.steD (bz_A N) U H ∧ vx_Zq Bundle.tN "SUPPRESSED_SENTINEL" Bundle.listD (bz_A N) U H) ∧
  (va_Z "BarcodeEngine" "EAN_WIDTHS" "[I" (.ref (nX N 2)) (bz_A N) U H ∧ va_Z "BarcodeEngine" "INTERLEAVED_PATTERNS" "[I" (.ref (nX N 3)) (bz_A N) U H ∧ va_Z "BarcodeEngine" "CODABAR_PATTERNS" "[I" (.ref (nX N 4)) (bz_A N) U H) ∧
  (va_Z "java/lang/String" "COMPACT_STRINGS" "Z" (.int 1) (bz_A N) U H ∧ va_Zq "jdk/internal/util/Preconditions" "SIOOBE_FORMATTER" "Ljava/util/function/BiFunction;" (bz_A N) U H) ∧
  (∀ (a n : Nat), a < 16 → (nT N)[a]? = some (21, n) → va_T .int (nX N a) n (fun j => .int (Int32.ofInt (nM N a (j : Int)))) (bz_A N) U H) ∧
  (∀ (a n : Nat), a < 16 → (nT N)[a]? = some (29, n) → va_T .byte (nX N a) n (fun j => .int (Int32.ofInt (nM N a (j : Int)))) (bz_A N) U H) ∧
  (∀ (a n : Nat), a < 16 → (nT N)[a]? = some (28, n) → va_O "java/lang/String" (nX N a) (bz_A N) U H ∧ va_OF "java/lang/String" "coder" "B" (.int (Int32.ofInt (nM N a 1))) (nX N a) (bz_A N) U H ∧ (nP N a 0 ≠ 0 → nP N a 0 < 15 ∧ va_OF "java/lang/String" "value" "[B" (.ref (nX N (nP N a 0))) (nX N a) (bz_A N) U H)) ∧
  (∀ (a : Nat) (t : Nat × Nat), a < 16 → (nT N)[a]? = some t → t.1 = 0 ∨ t.1 = 21 ∨ t.1 = 28 ∨ t.1 = 29) ∧
  (∀ q ∈ bz_ncs, va_Nc q.1 q.2 U) ∧
  ((∀ e ∈ bz_lkn, va_Nw (bz_lknw e) U) ∧ (∀ e ∈ bz_decl, va_Nw (bz_declw e) U) ∧ (∀ e ∈ bz_cas, va_Nw (bz_casw e) U) ∧ (∀ e ∈ bz_ao, va_AO e U) ∧ (∀ e ∈ bz_nst, va_Nw (bz_nstw e) U) ∧ (∀ x ∈ bz_dc3, va_Nw (.declares x) U) ∧ ∀ t, (nT N)[15]? = some t → t.1 = 0)
theorem bz_E_moved {N : bz_N} {s U : State} {H : Heap} {locs : List Loc} (hW : s.WarmedH U.vm) (hH : U.heap = H) (hS : va_S (bz_A N) s.heap H locs) (h : bz_E N s s.heap) : bz_E N U U.heap := by
  obtain ⟨h1, h2, ⟨h3, h3'⟩, ⟨h4, h4'⟩, ⟨h5, h6, h7⟩, ⟨h8, h9⟩, h10, h11, h12, h13, h14, h15, h16, h17, h18, h19, h20, h21⟩ := h
  have ha := hW.alike
  have hk : ∀ a : Nat, a < s.heap.size → ¬ bz_A N a → U.heap[a]? = s.heap[a]? := by rw [hH]; exact hS.2.1
  refine ⟨h1.moved ha, fun q hq => ?_, ⟨h3.warm hW, h3'.warm hW⟩, ⟨(h4.moved ha).kept hk, (h4'.moved ha).kept hk⟩, ⟨(h5.moved ha).kept hk, (h6.moved ha).kept hk, (h7.moved ha).kept hk⟩, ⟨(h8.moved ha).kept hk, (h9.moved ha).kept hk⟩, fun a n q1 q2 => ((h10 a n q1 q2).moved ha).kept hk, fun a n q1 q2 => ((h11 a n q1 q2).moved ha).kept hk, fun a n q1 q2 => ?_, h13, fun q hq => (h14 q hq).moved ha, fun e he => va_Nw.warmM hW (h15 e he), fun e he => va_Nw.warmD hW (h16 e he), fun e he => va_Nw.warmC hW (h17 e he), fun e he => (h18 e he).moved ha, fun e he => va_Nw.warmF hW (h19 e he), fun e he => va_Nw.warmD hW (h20 e he), h21⟩
  · obtain ⟨a, h⟩ := h2 q hq
    exact ⟨a, h.warm hW⟩
  · obtain ⟨g1, g2, g3⟩ := h12 a n q1 q2
    exact ⟨(g1.moved ha).kept hk, (g2.moved ha).kept hk, fun q => ⟨(g3 q).1, ((g3 q).2.moved ha).kept hk⟩⟩
def bz_ctx (k : Nat) (N : bz_N) (p : Program) (l : Launch) (R : Room) (s : State) (m : MethodId) (args : Array Value) (meth : Method) (c : Code) : Prop :=
  (p.tables.exec = Jvm.exec ∧ l.stackTraces = false ∧ c.code = bz_b k ∧ c.maxLocals = bz_ml k ∧ meth.locks = false ∧ s.vm.findClass (bz_ow k) = some m.cls ∧ meth.name = (bz_y k).name ∧ meth.sig.returnType = bz_rt k ∧ (∀ w ∈ bz_W, w.before args s = true) ∧ c.exceptionTable.toList = tableOf (bz_hh0 k)) ∧
  bz_fr k ≤ R.frames ∧ bz_lo0 k ≤ R.locals ∧ nB N ≤ s.heap.size ∧ bz_E N s s.heap
def bz_Qc (k : Nat) (N : bz_N) (res : bz_R) : Array Value → State → Outcome → State → Prop := fun _ st o t => (∃ v, res.1 = .inl v ∧ ((bz_rt k = none ∧ o = .returned none) ∨ ∃ ty w, bz_rt k = some ty ∧ o = .returned (some w) ∧ bz_vr N v w)) ∧ bz_Rep N res.2 t.heap ∧ va_F (bz_A N) st t
def bz_XC (N : bz_N) (res : bz_R) : String → State → State → Prop := fun E st t => (∃ c, res.1 = .inr c ∧ E = bz_exn c ∧ 1 ≤ c ∧ c ≤ 4) ∧ bz_Rep N res.2 t.heap ∧ va_F (bz_A N) st t
/-- from there the method comes to that end -/
def bz_G (k : Nat) (N : bz_N) (i : Nat) (L : List (Option bz_V)) (st : List bz_V) (μ : bz_M) (res : bz_R) : Prop :=
  ∀ (p : Program) (l : Launch) (e : Env) (R : Room) (s : State) (m : MethodId) (args : Array Value) (below : List Frame) (meth : Method) (c : Code) (H : Heap) (locs : List Loc) (ls : Array Slot) (sv : List Value) (c0 s0 mc ms : Nat),
    bz_ctx k N p l R s m args meth c → c0 ≤ C1 μ → s0 ≤ C2 μ → C1 res.2 ≤ c0 + mc → C2 res.2 ≤ s0 + ms → mc ≤ R.cells → ms ≤ R.slots → s.heap.size ≤ nB N + c0 → va_S (bz_A N) s.heap H locs → bz_Rep N μ H → bz_ll k N L ls (bz_ml k) → bz_vs N st sv →
    W p l e R s m args below meth c H locs (C1 μ - c0) (C2 μ - s0) (vx_MQ below (bz_Qc k N res) (bz_XC N res) args s mc ms (bz_A N)) (F0 m (bz_pc k i) ls sv)
def bz_H (k : Nat) (N : bz_N) (i : Nat) (L : List (Option bz_V)) (st : List bz_V) (μ : bz_M) (res : bz_R) : Prop := (C1 μ ≤ C1 res.2 ∧ C2 μ ≤ C2 res.2) ∧ bz_G k N i L st μ res
/-- a step of the stack alone -/
theorem bz_pure {k : Nat} {N : bz_N} {i j : Nat} {L : List (Option bz_V)} {st st' : List bz_V} {μ : bz_M} {res : bz_R} (h : bz_H k N j L st' μ res)
    (hs : ∀ sv, bz_vs N st sv → ∃ sv', bz_vs N st' sv' ∧ ∀ (p : Program) (l : Launch) (e : Env) (R : Room) (s : State) (m : MethodId) (args : Array Value) (below : List Frame) (meth : Method) (c : Code) (H : Heap) (locs : List Loc) (cells slots : Nat) (Q : State → Prop) (ls : Array Slot),
      bz_ctx k N p l R s m args meth c → W p l e R s m args below meth c H locs cells slots Q (F0 m (bz_pc k j) ls sv') → W p l e R s m args below meth c H locs cells slots Q (F0 m (bz_pc k i) ls sv)) : bz_H k N i L st μ res := by
  refine ⟨h.1, ?_⟩
  intro p l e R s m args below meth c H locs ls sv c0 s0 mc ms C a1 a2 a3 a4 a5 a6 hz hS hR hL hv
  obtain ⟨sv', h1, h2⟩ := hs sv hv
  exact h2 _ _ _ _ _ _ _ _ _ _ _ _ _ _ _ _ C (h.2 p l e R s m args below meth c H locs ls sv' c0 s0 mc ms C a1 a2 a3 a4 a5 a6 hz hS hR hL h1)
theorem bz_vs1 {N : bz_N} {v : bz_V} {st : List bz_V} {sv : List Value} (h : bz_vs N (v :: st) sv) : ∃ w ws, sv = w :: ws ∧ bz_vr N v w ∧ bz_vs N st ws := by
  match sv, h with
  | w :: ws, h => exact ⟨w, ws, rfl, h.1, h.2⟩
theorem bz_vs2 {N : bz_N} {v u : bz_V} {st : List bz_V} {sv : List Value} (h : bz_vs N (v :: u :: st) sv) : ∃ w x ws, sv = w :: x :: ws ∧ bz_vr N v w ∧ bz_vr N u x ∧ bz_vs N st ws := by
  match sv, h with
  | w :: x :: ws, h => exact ⟨w, x, ws, rfl, h.1, h.2.1, h.2.2⟩
theorem bz_vs3 {N : bz_N} {v u z : bz_V} {st : List bz_V} {sv : List Value} (h : bz_vs N (v :: u :: z :: st) sv) : ∃ w x y ws, sv = w :: x :: y :: ws ∧ bz_vr N v w ∧ bz_vr N u x ∧ bz_vr N z y ∧ bz_vs N st ws := by
  match sv, h with
  | w :: x :: y :: ws, h => exact ⟨w, x, y, ws, rfl, h.1, h.2.1, h.2.2.1, h.2.2.2⟩
theorem bz_vs0 {N : bz_N} {sv : List Value} (h : bz_vs N [] sv) : sv = [] := by
  match sv, h with
  | [], _ => rfl
theorem bz_i_iadd {k : Nat} {N : bz_N} {i len : Nat} {L : List (Option bz_V)} {st : List bz_V} {μ : bz_M} {res : bz_R} {x y : Int} (hd : decode (bz_b k) (bz_pc k i) = .ok (.iadd, 1)) (hp : bz_pc k (i + 1) = bz_pc k i + 1) (h : bz_H k N (i + 1) L (zI (wr (x + y)) :: st) μ res) : bz_H k N i L (zI y :: zI x :: st) μ res := by
  refine bz_pure h fun sv hv => ?_
  obtain ⟨w1, w2, ws, rfl, ⟨n1, rfl, e1⟩, ⟨n2, rfl, e2⟩, t⟩ := bz_vs2 hv
  exact ⟨_ :: ws, ⟨⟨_, rfl, by rw [bz_add, e1, e2]⟩, t⟩, fun p l e R s m args below meth c H locs cells slots Q ls C kk => lv_iadd C.1.1 C.1.2.2.1 hd (hp ▸ kk)⟩
theorem bz_i_isub {k : Nat} {N : bz_N} {i len : Nat} {L : List (Option bz_V)} {st : List bz_V} {μ : bz_M} {res : bz_R} {x y : Int} (hd : decode (bz_b k) (bz_pc k i) = .ok (.isub, 1)) (hp : bz_pc k (i + 1) = bz_pc k i + 1) (h : bz_H k N (i + 1) L (zI (wr (x - y)) :: st) μ res) : bz_H k N i L (zI y :: zI x :: st) μ res := by
  refine bz_pure h fun sv hv => ?_
  obtain ⟨w1, w2, ws, rfl, ⟨n1, rfl, e1⟩, ⟨n2, rfl, e2⟩, t⟩ := bz_vs2 hv
  exact ⟨_ :: ws, ⟨⟨_, rfl, by rw [bz_sub, e1, e2]⟩, t⟩, fun p l e R s m args below meth c H locs cells slots Q ls C kk => lv_isub C.1.1 C.1.2.2.1 hd (hp ▸ kk)⟩
theorem bz_i_imul {k : Nat} {N : bz_N} {i len : Nat} {L : List (Option bz_V)} {st : List bz_V} {μ : bz_M} {res : bz_R} {x y : Int} (hd : decode (bz_b k) (bz_pc k i) = .ok (.imul, 1)) (hp : bz_pc k (i + 1) = bz_pc k i + 1) (h : bz_H k N (i + 1) L (zI (wr (x * y)) :: st) μ res) : bz_H k N i L (zI y :: zI x :: st) μ res := by
  refine bz_pure h fun sv hv => ?_
  obtain ⟨w1, w2, ws, rfl, ⟨n1, rfl, e1⟩, ⟨n2, rfl, e2⟩, t⟩ := bz_vs2 hv
  exact ⟨_ :: ws, ⟨⟨_, rfl, by rw [bz_mul, e1, e2]⟩, t⟩, fun p l e R s m args below meth c H locs cells slots Q ls C kk => lv_imul C.1.1 C.1.2.2.1 hd (hp ▸ kk)⟩
theorem bz_i_iand {k : Nat} {N : bz_N} {i len : Nat} {L : List (Option bz_V)} {st : List bz_V} {μ : bz_M} {res : bz_R} {x y : Int} (hd : decode (bz_b k) (bz_pc k i) = .ok (.iand, 1)) (hp : bz_pc k (i + 1) = bz_pc k i + 1) (h : bz_H k N (i + 1) L (zI (bz_and x y) :: st) μ res) : bz_H k N i L (zI y :: zI x :: st) μ res := by
  refine bz_pure h fun sv hv => ?_
  obtain ⟨w1, w2, ws, rfl, ⟨n1, rfl, e1⟩, ⟨n2, rfl, e2⟩, t⟩ := bz_vs2 hv
  exact ⟨_ :: ws, ⟨⟨_, rfl, by rw [bz_band, e1, e2]⟩, t⟩, fun p l e R s m args below meth c H locs cells slots Q ls C kk => lv_iand C.1.1 C.1.2.2.1 hd (hp ▸ kk)⟩
theorem bz_i_ior {k : Nat} {N : bz_N} {i len : Nat} {L : List (Option bz_V)} {st : List bz_V} {μ : bz_M} {res : bz_R} {x y : Int} (hd : decode (bz_b k) (bz_pc k i) = .ok (.ior, 1)) (hp : bz_pc k (i + 1) = bz_pc k i + 1) (h : bz_H k N (i + 1) L (zI (bz_or x y) :: st) μ res) : bz_H k N i L (zI y :: zI x :: st) μ res := by
  refine bz_pure h fun sv hv => ?_
  obtain ⟨w1, w2, ws, rfl, ⟨n1, rfl, e1⟩, ⟨n2, rfl, e2⟩, t⟩ := bz_vs2 hv
  exact ⟨_ :: ws, ⟨⟨_, rfl, by rw [bz_bor, e1, e2]⟩, t⟩, fun p l e R s m args below meth c H locs cells slots Q ls C kk => lv_ior C.1.1 C.1.2.2.1 hd (hp ▸ kk)⟩
theorem bz_i_ishl {k : Nat} {N : bz_N} {i len : Nat} {L : List (Option bz_V)} {st : List bz_V} {μ : bz_M} {res : bz_R} {x y : Int} (hd : decode (bz_b k) (bz_pc k i) = .ok (.ishl, 1)) (hp : bz_pc k (i + 1) = bz_pc k i + 1) (h : bz_H k N (i + 1) L (zI (bz_shl x y) :: st) μ res) : bz_H k N i L (zI y :: zI x :: st) μ res := by
  refine bz_pure h fun sv hv => ?_
  obtain ⟨w1, w2, ws, rfl, ⟨n1, rfl, e1⟩, ⟨n2, rfl, e2⟩, t⟩ := bz_vs2 hv
  exact ⟨_ :: ws, ⟨⟨_, rfl, by rw [bz_bshl, e1, e2]⟩, t⟩, fun p l e R s m args below meth c H locs cells slots Q ls C kk => lv_ishl C.1.1 C.1.2.2.1 hd (hp ▸ kk)⟩
theorem bz_i_ishr {k : Nat} {N : bz_N} {i len : Nat} {L : List (Option bz_V)} {st : List bz_V} {μ : bz_M} {res : bz_R} {x y : Int} (hd : decode (bz_b k) (bz_pc k i) = .ok (.ishr, 1)) (hp : bz_pc k (i + 1) = bz_pc k i + 1) (h : bz_H k N (i + 1) L (zI (bz_shr x y) :: st) μ res) : bz_H k N i L (zI y :: zI x :: st) μ res := by
  refine bz_pure h fun sv hv => ?_
  obtain ⟨w1, w2, ws, rfl, ⟨n1, rfl, e1⟩, ⟨n2, rfl, e2⟩, t⟩ := bz_vs2 hv
  exact ⟨_ :: ws, ⟨⟨_, rfl, by rw [bz_bshr, e1, e2]⟩, t⟩, fun p l e R s m args below meth c H locs cells slots Q ls C kk => lv_ishr C.1.1 C.1.2.2.1 hd (hp ▸ kk)⟩
theorem bz_i_ladd {k : Nat} {N : bz_N} {i len : Nat} {L : List (Option bz_V)} {st : List bz_V} {μ : bz_M} {res : bz_R} {x y : Int} (hd : decode (bz_b k) (bz_pc k i) = .ok (.ladd, 1)) (hp : bz_pc k (i + 1) = bz_pc k i + 1) (h : bz_H k N (i + 1) L (zL (wl (x + y)) :: st) μ res) : bz_H k N i L (zL y :: zL x :: st) μ res := by
  refine bz_pure h fun sv hv => ?_
  obtain ⟨w1, w2, ws, rfl, ⟨n1, rfl, e1⟩, ⟨n2, rfl, e2⟩, t⟩ := bz_vs2 hv
  exact ⟨_ :: ws, ⟨⟨_, rfl, by rw [bz_addl, e1, e2]⟩, t⟩, fun p l e R s m args below meth c H locs cells slots Q ls C kk => lv_ladd C.1.1 C.1.2.2.1 hd (hp ▸ kk)⟩
theorem bz_i_lsub {k : Nat} {N : bz_N} {i len : Nat} {L : List (Option bz_V)} {st : List bz_V} {μ : bz_M} {res : bz_R} {x y : Int} (hd : decode (bz_b k) (bz_pc k i) = .ok (.lsub, 1)) (hp : bz_pc k (i + 1) = bz_pc k i + 1) (h : bz_H k N (i + 1) L (zL (wl (x - y)) :: st) μ res) : bz_H k N i L (zL y :: zL x :: st) μ res := by
  refine bz_pure h fun sv hv => ?_
  obtain ⟨w1, w2, ws, rfl, ⟨n1, rfl, e1⟩, ⟨n2, rfl, e2⟩, t⟩ := bz_vs2 hv
  exact ⟨_ :: ws, ⟨⟨_, rfl, by rw [bz_subl, e1, e2]⟩, t⟩, fun p l e R s m args below meth c H locs cells slots Q ls C kk => lv_lsub C.1.1 C.1.2.2.1 hd (hp ▸ kk)⟩
theorem bz_i_lmul {k : Nat} {N : bz_N} {i len : Nat} {L : List (Option bz_V)} {st : List bz_V} {μ : bz_M} {res : bz_R} {x y : Int} (hd : decode (bz_b k) (bz_pc k i) = .ok (.lmul, 1)) (hp : bz_pc k (i + 1) = bz_pc k i + 1) (h : bz_H k N (i + 1) L (zL (wl (x * y)) :: st) μ res) : bz_H k N i L (zL y :: zL x :: st) μ res := by
  refine bz_pure h fun sv hv => ?_
  obtain ⟨w1, w2, ws, rfl, ⟨n1, rfl, e1⟩, ⟨n2, rfl, e2⟩, t⟩ := bz_vs2 hv
  exact ⟨_ :: ws, ⟨⟨_, rfl, by rw [bz_mull, e1, e2]⟩, t⟩, fun p l e R s m args below meth c H locs cells slots Q ls C kk => lv_lmul C.1.1 C.1.2.2.1 hd (hp ▸ kk)⟩
theorem bz_i_lxor {k : Nat} {N : bz_N} {i len : Nat} {L : List (Option bz_V)} {st : List bz_V} {μ : bz_M} {res : bz_R} {x y : Int} (hd : decode (bz_b k) (bz_pc k i) = .ok (.lxor, 1)) (hp : bz_pc k (i + 1) = bz_pc k i + 1) (h : bz_H k N (i + 1) L (zL (bz_lxor x y) :: st) μ res) : bz_H k N i L (zL y :: zL x :: st) μ res := by
  refine bz_pure h fun sv hv => ?_
  obtain ⟨w1, w2, ws, rfl, ⟨n1, rfl, e1⟩, ⟨n2, rfl, e2⟩, t⟩ := bz_vs2 hv
  exact ⟨_ :: ws, ⟨⟨_, rfl, by rw [bz_bxorl, e1, e2]⟩, t⟩, fun p l e R s m args below meth c H locs cells slots Q ls C kk => lv_lxor C.1.1 C.1.2.2.1 hd (hp ▸ kk)⟩
theorem bz_i_iushr {k : Nat} {N : bz_N} {i len : Nat} {L : List (Option bz_V)} {st : List bz_V} {μ : bz_M} {res : bz_R} {x y : Int} (hd : decode (bz_b k) (bz_pc k i) = .ok (.iushr, 1)) (hp : bz_pc k (i + 1) = bz_pc k i + 1) (h : bz_H k N (i + 1) L (zI (bz_ushr x y) :: st) μ res) : bz_H k N i L (zI y :: zI x :: st) μ res := by
  refine bz_pure h fun sv hv => ?_
  obtain ⟨w1, w2, ws, rfl, ⟨n1, rfl, e1⟩, ⟨n2, rfl, e2⟩, t⟩ := bz_vs2 hv
  exact ⟨_ :: ws, ⟨⟨_, rfl, by rw [bz_bushr, e1, e2]⟩, t⟩, fun p l e R s m args below meth c H locs cells slots Q ls C kk => lv_iushr C.1.1 C.1.2.2.1 hd rfl (hp ▸ kk)⟩
theorem bz_i_lcmp {k : Nat} {N : bz_N} {i len : Nat} {L : List (Option bz_V)} {st : List bz_V} {μ : bz_M} {res : bz_R} {x y : Int} (hd : decode (bz_b k) (bz_pc k i) = .ok (.lcmp, 1)) (hp : bz_pc k (i + 1) = bz_pc k i + 1) (h : bz_H k N (i + 1) L (zI (bz_cmp x y) :: st) μ res) : bz_H k N i L (zL y :: zL x :: st) μ res := by
  refine bz_pure h fun sv hv => ?_
  obtain ⟨w1, w2, ws, rfl, ⟨n1, rfl, e1⟩, ⟨n2, rfl, e2⟩, t⟩ := bz_vs2 hv
  exact ⟨_ :: ws, ⟨⟨_, rfl, by rw [bz_cm, e1, e2]⟩, t⟩, fun p l e R s m args below meth c H locs cells slots Q ls C kk => W.lcmp C.1.1 C.1.2.2.1 hd (hp ▸ kk)⟩
theorem bz_i_idiv {k : Nat} {N : bz_N} {i len : Nat} {L : List (Option bz_V)} {st : List bz_V} {μ : bz_M} {res : bz_R} {x y : Int} (hy : ¬ y = 0) (hd : decode (bz_b k) (bz_pc k i) = .ok (.idiv, 1)) (hp : bz_pc k (i + 1) = bz_pc k i + 1) (h : bz_H k N (i + 1) L (zI (wr (x.tdiv y)) :: st) μ res) : bz_H k N i L (zI y :: zI x :: st) μ res := by
  refine bz_pure h fun sv hv => ?_
  obtain ⟨w1, w2, ws, rfl, ⟨n1, rfl, e1⟩, ⟨n2, rfl, e2⟩, t⟩ := bz_vs2 hv
  exact ⟨_ :: ws, ⟨⟨_, rfl, by rw [bz_div, e1, e2]⟩, t⟩, fun p l e R s m args below meth c H locs cells slots Q ls C kk => lv_idiv C.1.1 C.1.2.2.1 hd (fun q => hy (by rw [← e1, q]; rfl)) (hp ▸ kk)⟩
theorem bz_i_irem {k : Nat} {N : bz_N} {i len : Nat} {L : List (Option bz_V)} {st : List bz_V} {μ : bz_M} {res : bz_R} {x y : Int} (hy : ¬ y = 0) (hd : decode (bz_b k) (bz_pc k i) = .ok (.irem, 1)) (hp : bz_pc k (i + 1) = bz_pc k i + 1) (h : bz_H k N (i + 1) L (zI (x.tmod y) :: st) μ res) : bz_H k N i L (zI y :: zI x :: st) μ res := by
  refine bz_pure h fun sv hv => ?_
  obtain ⟨w1, w2, ws, rfl, ⟨n1, rfl, e1⟩, ⟨n2, rfl, e2⟩, t⟩ := bz_vs2 hv
  exact ⟨_ :: ws, ⟨⟨_, rfl, by rw [bz_rem, e1, e2]⟩, t⟩, fun p l e R s m args below meth c H locs cells slots Q ls C kk => lv_irem C.1.1 C.1.2.2.1 hd (fun q => hy (by rw [← e1, q]; rfl)) (hp ▸ kk)⟩
theorem bz_i_ldiv {k : Nat} {N : bz_N} {i len : Nat} {L : List (Option bz_V)} {st : List bz_V} {μ : bz_M} {res : bz_R} {x y : Int} (hy : ¬ y = 0) (hd : decode (bz_b k) (bz_pc k i) = .ok (.ldiv, 1)) (hp : bz_pc k (i + 1) = bz_pc k i + 1) (h : bz_H k N (i + 1) L (zL (wl (x.tdiv y)) :: st) μ res) : bz_H k N i L (zL y :: zL x :: st) μ res := by
  refine bz_pure h fun sv hv => ?_
  obtain ⟨w1, w2, ws, rfl, ⟨n1, rfl, e1⟩, ⟨n2, rfl, e2⟩, t⟩ := bz_vs2 hv
  exact ⟨_ :: ws, ⟨⟨_, rfl, by rw [bz_divl, e1, e2]⟩, t⟩, fun p l e R s m args below meth c H locs cells slots Q ls C kk => lv_ldiv C.1.1 C.1.2.2.1 hd (fun q => hy (by rw [← e1, q]; rfl)) (hp ▸ kk)⟩
theorem bz_i_ineg {k : Nat} {N : bz_N} {i len : Nat} {L : List (Option bz_V)} {st : List bz_V} {μ : bz_M} {res : bz_R} {x : Int} (hd : decode (bz_b k) (bz_pc k i) = .ok (.ineg, 1)) (hp : bz_pc k (i + 1) = bz_pc k i + 1) (h : bz_H k N (i + 1) L (zI (wr (-x)) :: st) μ res) : bz_H k N i L (zI x :: st) μ res := by
  refine bz_pure h fun sv hv => ?_
  obtain ⟨w1, ws, rfl, ⟨n1, rfl, e1⟩, t⟩ := bz_vs1 hv
  exact ⟨_ :: ws, ⟨⟨_, rfl, by rw [bz_neg, e1]⟩, t⟩, fun p l e R s m args below meth c H locs cells slots Q ls C kk => lv_ineg C.1.1 C.1.2.2.1 hd (hp ▸ kk)⟩
theorem bz_i_i2l {k : Nat} {N : bz_N} {i len : Nat} {L : List (Option bz_V)} {st : List bz_V} {μ : bz_M} {res : bz_R} {x : Int} (hd : decode (bz_b k) (bz_pc k i) = .ok (.i2l, 1)) (hp : bz_pc k (i + 1) = bz_pc k i + 1) (h : bz_H k N (i + 1) L (zL (x) :: st) μ res) : bz_H k N i L (zI x :: st) μ res := by
  refine bz_pure h fun sv hv => ?_
  obtain ⟨w1, ws, rfl, ⟨n1, rfl, e1⟩, t⟩ := bz_vs1 hv
  exact ⟨_ :: ws, ⟨⟨_, rfl, by rw [bz_i2l', e1]⟩, t⟩, fun p l e R s m args below meth c H locs cells slots Q ls C kk => lv_i2l C.1.1 C.1.2.2.1 hd rfl (hp ▸ kk)⟩
theorem bz_i_l2i {k : Nat} {N : bz_N} {i len : Nat} {L : List (Option bz_V)} {st : List bz_V} {μ : bz_M} {res : bz_R} {x : Int} (hd : decode (bz_b k) (bz_pc k i) = .ok (.l2i, 1)) (hp : bz_pc k (i + 1) = bz_pc k i + 1) (h : bz_H k N (i + 1) L (zI (wr x) :: st) μ res) : bz_H k N i L (zL x :: st) μ res := by
  refine bz_pure h fun sv hv => ?_
  obtain ⟨w1, ws, rfl, ⟨n1, rfl, e1⟩, t⟩ := bz_vs1 hv
  exact ⟨_ :: ws, ⟨⟨_, rfl, by rw [bz_l2i', e1]⟩, t⟩, fun p l e R s m args below meth c H locs cells slots Q ls C kk => lv_l2i C.1.1 C.1.2.2.1 hd rfl (hp ▸ kk)⟩
theorem bz_i_i2c {k : Nat} {N : bz_N} {i len : Nat} {L : List (Option bz_V)} {st : List bz_V} {μ : bz_M} {res : bz_R} {x : Int} (hd : decode (bz_b k) (bz_pc k i) = .ok (.i2c, 1)) (hp : bz_pc k (i + 1) = bz_pc k i + 1) (h : bz_H k N (i + 1) L (zI (bz_i2c x) :: st) μ res) : bz_H k N i L (zI x :: st) μ res := by
  refine bz_pure h fun sv hv => ?_
  obtain ⟨w1, ws, rfl, ⟨n1, rfl, e1⟩, t⟩ := bz_vs1 hv
  exact ⟨_ :: ws, ⟨⟨_, rfl, by rw [bz_c2, e1]⟩, t⟩, fun p l e R s m args below meth c H locs cells slots Q ls C kk => lv_i2c C.1.1 C.1.2.2.1 hd rfl (hp ▸ kk)⟩
theorem bz_i_i2b {k : Nat} {N : bz_N} {i len : Nat} {L : List (Option bz_V)} {st : List bz_V} {μ : bz_M} {res : bz_R} {x : Int} (hd : decode (bz_b k) (bz_pc k i) = .ok (.i2b, 1)) (hp : bz_pc k (i + 1) = bz_pc k i + 1) (h : bz_H k N (i + 1) L (zI (bz_i2b x) :: st) μ res) : bz_H k N i L (zI x :: st) μ res := by
  refine bz_pure h fun sv hv => ?_
  obtain ⟨w1, ws, rfl, ⟨n1, rfl, e1⟩, t⟩ := bz_vs1 hv
  exact ⟨_ :: ws, ⟨⟨_, rfl, by rw [bz_b2, e1]⟩, t⟩, fun p l e R s m args below meth c H locs cells slots Q ls C kk => lv_i2b C.1.1 C.1.2.2.1 hd rfl (hp ▸ kk)⟩
theorem bz_i_iconst {k : Nat} {N : bz_N} {i len : Nat} {L : List (Option bz_V)} {st : List bz_V} {μ : bz_M} {res : bz_R} {n : Int} (hd : decode (bz_b k) (bz_pc k i) = .ok (.iconst n, 1)) (hp : bz_pc k (i + 1) = bz_pc k i + 1) (h : bz_H k N (i + 1) L (zI (Int32.ofInt n).toInt :: st) μ res) : bz_H k N i L st μ res := by
  refine bz_pure h fun sv hv => ?_
  exact ⟨_ :: sv, ⟨⟨(Int32.ofInt n), rfl, rfl⟩, hv⟩, fun p l e R s m args below meth c H locs cells slots Q ls C kk => lv_iconst C.1.1 C.1.2.2.1 hd rfl (hp ▸ kk)⟩
theorem bz_i_bipush {k : Nat} {N : bz_N} {i len : Nat} {L : List (Option bz_V)} {st : List bz_V} {μ : bz_M} {res : bz_R} {n : Int} (hd : decode (bz_b k) (bz_pc k i) = .ok (.bipush n, 2)) (hp : bz_pc k (i + 1) = bz_pc k i + 2) (h : bz_H k N (i + 1) L (zI ((Int8.ofInt n).toInt32).toInt :: st) μ res) : bz_H k N i L st μ res := by
  refine bz_pure h fun sv hv => ?_
  exact ⟨_ :: sv, ⟨⟨((Int8.ofInt n).toInt32), rfl, rfl⟩, hv⟩, fun p l e R s m args below meth c H locs cells slots Q ls C kk => lv_bipush C.1.1 C.1.2.2.1 hd rfl (hp ▸ kk)⟩
theorem bz_i_sipush {k : Nat} {N : bz_N} {i len : Nat} {L : List (Option bz_V)} {st : List bz_V} {μ : bz_M} {res : bz_R} {n : Int} (hd : decode (bz_b k) (bz_pc k i) = .ok (.sipush n, 3)) (hp : bz_pc k (i + 1) = bz_pc k i + 3) (h : bz_H k N (i + 1) L (zI ((Int16.ofInt n).toInt32).toInt :: st) μ res) : bz_H k N i L st μ res := by
  refine bz_pure h fun sv hv => ?_
  exact ⟨_ :: sv, ⟨⟨((Int16.ofInt n).toInt32), rfl, rfl⟩, hv⟩, fun p l e R s m args below meth c H locs cells slots Q ls C kk => lv_sipush C.1.1 C.1.2.2.1 hd rfl (hp ▸ kk)⟩
theorem bz_i_lconst {k : Nat} {N : bz_N} {i len : Nat} {L : List (Option bz_V)} {st : List bz_V} {μ : bz_M} {res : bz_R} {n : Fin 2} (hd : decode (bz_b k) (bz_pc k i) = .ok (.lconst n, 1)) (hp : bz_pc k (i + 1) = bz_pc k i + 1) (h : bz_H k N (i + 1) L (zL (Int64.ofNat (n : Nat)).toInt :: st) μ res) : bz_H k N i L st μ res := by
  refine bz_pure h fun sv hv => ?_
  exact ⟨_ :: sv, ⟨⟨Int64.ofNat (n : Nat), rfl, rfl⟩, hv⟩, fun p l e R s m args below meth c H locs cells slots Q ls C kk => lv_lconst C.1.1 C.1.2.2.1 hd rfl (hp ▸ kk)⟩
theorem bz_i_ldcI {k : Nat} {N : bz_N} {i len : Nat} {L : List (Option bz_V)} {st : List bz_V} {μ : bz_M} {res : bz_R} {n : Nat} {v : Int32} (hw : Cond.constant (bz_ow k) n v ∈ bz_W) (hd : decode (bz_b k) (bz_pc k i) = .ok (.ldc n, 2)) (hp : bz_pc k (i + 1) = bz_pc k i + 2) (h : bz_H k N (i + 1) L (zI v.toInt :: st) μ res) : bz_H k N i L st μ res := by
  refine bz_pure h fun sv hv => ?_
  exact ⟨_ :: sv, ⟨⟨v, rfl, rfl⟩, hv⟩, fun p l e R s m args below meth c H locs cells slots Q ls C kk => lv_ldc C.1.1 C.1.2.2.1 C.1.2.2.2.2.2.1 (C.1.2.2.2.2.2.2.2.2.1 _ hw) hd (hp ▸ kk)⟩
theorem bz_i_ldcwI {k : Nat} {N : bz_N} {i len : Nat} {L : List (Option bz_V)} {st : List bz_V} {μ : bz_M} {res : bz_R} {n : Nat} {v : Int32} (hw : Cond.constant (bz_ow k) n v ∈ bz_W) (hd : decode (bz_b k) (bz_pc k i) = .ok (.ldc_w n, 3)) (hp : bz_pc k (i + 1) = bz_pc k i + 3) (h : bz_H k N (i + 1) L (zI v.toInt :: st) μ res) : bz_H k N i L st μ res := by
  refine bz_pure h fun sv hv => ?_
  exact ⟨_ :: sv, ⟨⟨v, rfl, rfl⟩, hv⟩, fun p l e R s m args below meth c H locs cells slots Q ls C kk => lv_ldcw C.1.1 C.1.2.2.1 C.1.2.2.2.2.2.1 (C.1.2.2.2.2.2.2.2.2.1 _ hw) hd (hp ▸ kk)⟩
theorem bz_i_ldc2 {k : Nat} {N : bz_N} {i len : Nat} {L : List (Option bz_V)} {st : List bz_V} {μ : bz_M} {res : bz_R} {n : Nat} {v : Int64} (hw : Cond.constantLong (bz_ow k) n v ∈ bz_W) (hd : decode (bz_b k) (bz_pc k i) = .ok (.ldc2_w n, 3)) (hp : bz_pc k (i + 1) = bz_pc k i + 3) (h : bz_H k N (i + 1) L (zL v.toInt :: st) μ res) : bz_H k N i L st μ res := by
  refine bz_pure h fun sv hv => ?_
  exact ⟨_ :: sv, ⟨⟨v, rfl, rfl⟩, hv⟩, fun p l e R s m args below meth c H locs cells slots Q ls C kk => lv_ldc2 C.1.1 C.1.2.2.1 C.1.2.2.2.2.2.1 (C.1.2.2.2.2.2.2.2.2.1 _ hw) hd (hp ▸ kk)⟩
theorem bz_i_dup {k : Nat} {N : bz_N} {i len : Nat} {L : List (Option bz_V)} {st : List bz_V} {μ : bz_M} {res : bz_R} {v : bz_V} (hc : bz_cat v = 1) (hd : decode (bz_b k) (bz_pc k i) = .ok (.dup, 1)) (hp : bz_pc k (i + 1) = bz_pc k i + 1) (h : bz_H k N (i + 1) L (v :: v :: st) μ res) : bz_H k N i L (v :: st) μ res := by
  refine bz_pure h fun sv hv => ?_
  obtain ⟨w1, ws, rfl, e1, t⟩ := bz_vs1 hv
  exact ⟨w1 :: w1 :: ws, ⟨e1, e1, t⟩, fun p l e R s m args below meth c H locs cells slots Q ls C kk => lv_dup C.1.1 C.1.2.2.1 hd (by rw [bz_vr_cat e1]; exact hc) (hp ▸ kk)⟩
theorem bz_i_pop {k : Nat} {N : bz_N} {i len : Nat} {L : List (Option bz_V)} {st : List bz_V} {μ : bz_M} {res : bz_R} {v : bz_V} (hc : bz_cat v = 1) (hd : decode (bz_b k) (bz_pc k i) = .ok (.pop, 1)) (hp : bz_pc k (i + 1) = bz_pc k i + 1) (h : bz_H k N (i + 1) L st μ res) : bz_H k N i L (v :: st) μ res := by
  refine bz_pure h fun sv hv => ?_
  obtain ⟨w1, ws, rfl, e1, t⟩ := bz_vs1 hv
  exact ⟨ws, t, fun p l e R s m args below meth c H locs cells slots Q ls C kk => lv_pop C.1.1 C.1.2.2.1 hd (by rw [bz_vr_cat e1]; exact hc) (hp ▸ kk)⟩
theorem bz_i_dup2 {k : Nat} {N : bz_N} {i len : Nat} {L : List (Option bz_V)} {st : List bz_V} {μ : bz_M} {res : bz_R} {v u : bz_V} (hc : bz_cat v = 1) (hc2 : bz_cat u = 1) (hd : decode (bz_b k) (bz_pc k i) = .ok (.dup2, 1)) (hp : bz_pc k (i + 1) = bz_pc k i + 1) (h : bz_H k N (i + 1) L (v :: u :: v :: u :: st) μ res) : bz_H k N i L (v :: u :: st) μ res := by
  refine bz_pure h fun sv hv => ?_
  obtain ⟨w1, w2, ws, rfl, e1, e2, t⟩ := bz_vs2 hv
  exact ⟨w1 :: w2 :: w1 :: w2 :: ws, ⟨e1, e2, e1, e2, t⟩, fun p l e R s m args below meth c H locs cells slots Q ls C kk => lv_dup2_11 C.1.1 C.1.2.2.1 hd (by rw [bz_vr_cat e1]; exact hc) (by rw [bz_vr_cat e2]; exact hc2) (hp ▸ kk)⟩
end
section
/-! LOCALS, BRANCHES -/
theorem bz_vr_ref {N : bz_N} {a : Nat} {w : Value} (h : bz_vr N (zR a) w) : w = .null ∨ ∃ q, w = .ref q := by
  unfold bz_vr at h
  dsimp only at h
  split at h
  · exact h
  · exact Or.inr ⟨_, h⟩
theorem bz_vr_in {N : bz_N} {a : Nat} {w : Value} (h : bz_vr N (zR a) w) (ha : a ≠ 15) : w = .ref (bz_ad N a) := by
  unfold bz_vr at h
  dsimp only at h
  rw [if_neg ha] at h
  exact h
theorem bz_i_iload {k : Nat} {N : bz_N} {i : Nat} {L : List (Option bz_V)} {st : List bz_V} {μ : bz_M} {res : bz_R} {x : Int} {j : Nat} (hd : decode (bz_b k) (bz_pc k i) = .ok (.iload j, 2)) (hp : bz_pc k (i + 1) = bz_pc k i + 2) (hl : L[j]? = some (some (zI x))) (h : bz_H k N (i + 1) L (zI x :: st) μ res) : bz_H k N i L st μ res := by
  refine ⟨h.1, ?_⟩
  intro p l e R s m args below meth c H locs ls sv c0 s0 mc ms C a1 a2 a3 a4 a5 a6 hz hS hR hL hv
  obtain ⟨w, hw, n, rfl, e1⟩ := hL.2.2.2.1 j _ hl
  have K := h.2 p l e R s m args below meth c H locs ls (_ :: sv) c0 s0 mc ms C a1 a2 a3 a4 a5 a6 hz hS hR hL ⟨⟨n, rfl, e1⟩, hv⟩
  rw [hp] at K
  exact lv_iload C.1.1 C.1.2.2.1 hd hw K
theorem bz_i_iloadn {k : Nat} {N : bz_N} {i : Nat} {L : List (Option bz_V)} {st : List bz_V} {μ : bz_M} {res : bz_R} {x : Int} {j : Nat} {jj : Fin 4} (hj : (jj : Nat) = j) (hd : decode (bz_b k) (bz_pc k i) = .ok (.iload_n jj, 1)) (hp : bz_pc k (i + 1) = bz_pc k i + 1) (hl : L[j]? = some (some (zI x))) (h : bz_H k N (i + 1) L (zI x :: st) μ res) : bz_H k N i L st μ res := by
  refine ⟨h.1, ?_⟩
  intro p l e R s m args below meth c H locs ls sv c0 s0 mc ms C a1 a2 a3 a4 a5 a6 hz hS hR hL hv
  obtain ⟨w, hw, n, rfl, e1⟩ := hL.2.2.2.1 j _ hl
  have K := h.2 p l e R s m args below meth c H locs ls (_ :: sv) c0 s0 mc ms C a1 a2 a3 a4 a5 a6 hz hS hR hL ⟨⟨n, rfl, e1⟩, hv⟩
  rw [hp] at K
  exact lv_iload_n C.1.1 C.1.2.2.1 hd hj hw K
theorem bz_i_lload {k : Nat} {N : bz_N} {i : Nat} {L : List (Option bz_V)} {st : List bz_V} {μ : bz_M} {res : bz_R} {x : Int} {j : Nat} (hd : decode (bz_b k) (bz_pc k i) = .ok (.lload j, 2)) (hp : bz_pc k (i + 1) = bz_pc k i + 2) (hl : L[j]? = some (some (zL x))) (h : bz_H k N (i + 1) L (zL x :: st) μ res) : bz_H k N i L st μ res := by
  refine ⟨h.1, ?_⟩
  intro p l e R s m args below meth c H locs ls sv c0 s0 mc ms C a1 a2 a3 a4 a5 a6 hz hS hR hL hv
  obtain ⟨w, hw, n, rfl, e1⟩ := hL.2.2.2.1 j _ hl
  have K := h.2 p l e R s m args below meth c H locs ls (_ :: sv) c0 s0 mc ms C a1 a2 a3 a4 a5 a6 hz hS hR hL ⟨⟨n, rfl, e1⟩, hv⟩
  rw [hp] at K
  exact lv_lload C.1.1 C.1.2.2.1 hd hw K
theorem bz_i_lloadn {k : Nat} {N : bz_N} {i : Nat} {L : List (Option bz_V)} {st : List bz_V} {μ : bz_M} {res : bz_R} {x : Int} {j : Nat} {jj : Fin 4} (hj : (jj : Nat) = j) (hd : decode (bz_b k) (bz_pc k i) = .ok (.lload_n jj, 1)) (hp : bz_pc k (i + 1) = bz_pc k i + 1) (hl : L[j]? = some (some (zL x))) (h : bz_H k N (i + 1) L (zL x :: st) μ res) : bz_H k N i L st μ res := by
  refine ⟨h.1, ?_⟩
  intro p l e R s m args below meth c H locs ls sv c0 s0 mc ms C a1 a2 a3 a4 a5 a6 hz hS hR hL hv
  obtain ⟨w, hw, n, rfl, e1⟩ := hL.2.2.2.1 j _ hl
  have K := h.2 p l e R s m args below meth c H locs ls (_ :: sv) c0 s0 mc ms C a1 a2 a3 a4 a5 a6 hz hS hR hL ⟨⟨n, rfl, e1⟩, hv⟩
  rw [hp] at K
  exact lv_lload_n C.1.1 C.1.2.2.1 hd hj hw K
theorem bz_i_aload {k : Nat} {N : bz_N} {i : Nat} {L : List (Option bz_V)} {st : List bz_V} {μ : bz_M} {res : bz_R} {a : Nat} {j : Nat} (hd : decode (bz_b k) (bz_pc k i) = .ok (.aload j, 2)) (hp : bz_pc k (i + 1) = bz_pc k i + 2) (hl : L[j]? = some (some (zR a))) (h : bz_H k N (i + 1) L (zR a :: st) μ res) : bz_H k N i L st μ res := by
  refine ⟨h.1, ?_⟩
  intro p l e R s m args below meth c H locs ls sv c0 s0 mc ms C a1 a2 a3 a4 a5 a6 hz hS hR hL hv
  obtain ⟨w, hw, hvr⟩ := hL.2.2.2.1 j _ hl
  have K := h.2 p l e R s m args below meth c H locs ls (w :: sv) c0 s0 mc ms C a1 a2 a3 a4 a5 a6 hz hS hR hL ⟨hvr, hv⟩
  rw [hp] at K
  rcases bz_vr_ref hvr with rfl | ⟨q, rfl⟩
  · exact lv_aloadN C.1.1 C.1.2.2.1 hd hw K
  · exact lv_aload C.1.1 C.1.2.2.1 hd hw K
theorem bz_i_aloadn {k : Nat} {N : bz_N} {i : Nat} {L : List (Option bz_V)} {st : List bz_V} {μ : bz_M} {res : bz_R} {a : Nat} {j : Nat} {jj : Fin 4} (hj : (jj : Nat) = j) (hd : decode (bz_b k) (bz_pc k i) = .ok (.aload_n jj, 1)) (hp : bz_pc k (i + 1) = bz_pc k i + 1) (hl : L[j]? = some (some (zR a))) (h : bz_H k N (i + 1) L (zR a :: st) μ res) : bz_H k N i L st μ res := by
  refine ⟨h.1, ?_⟩
  intro p l e R s m args below meth c H locs ls sv c0 s0 mc ms C a1 a2 a3 a4 a5 a6 hz hS hR hL hv
  obtain ⟨w, hw, hvr⟩ := hL.2.2.2.1 j _ hl
  have K := h.2 p l e R s m args below meth c H locs ls (w :: sv) c0 s0 mc ms C a1 a2 a3 a4 a5 a6 hz hS hR hL ⟨hvr, hv⟩
  rw [hp] at K
  rcases bz_vr_ref hvr with rfl | ⟨q, rfl⟩
  · exact lv_aload_nN C.1.1 C.1.2.2.1 hd hj hw K
  · exact lv_aload_n C.1.1 C.1.2.2.1 hd hj hw K
theorem bz_i_istore {k : Nat} {N : bz_N} {i : Nat} {L : List (Option bz_V)} {st : List bz_V} {μ : bz_M} {res : bz_R} {x : Int} {j : Nat} (hd : decode (bz_b k) (bz_pc k i) = .ok (.istore j, 2)) (hp : bz_pc k (i + 1) = bz_pc k i + 2) (hj2 : j < bz_ml k) (hg : ∀ q, q + 1 = j → q ∉ bz_lgs k) (h : bz_H k N (i + 1) (L.set j (some (zI x))) st μ res) : bz_H k N i L (zI x :: st) μ res := by
  refine ⟨h.1, ?_⟩
  intro p l e R s m args below meth c H locs ls sv c0 s0 mc ms C a1 a2 a3 a4 a5 a6 hz hS hR hL hv
  obtain ⟨w1, ws, rfl, hvr, t⟩ := bz_vs1 hv
  obtain ⟨n1, rfl, e1⟩ := id hvr
  refine lv_istore C.1.1 C.1.2.2.1 hd (bz_lv_has hL) hj2 rfl fun ls' h' => ?_
  rw [← hp]
  exact h.2 p l e R s m args below meth c H locs ls' ws c0 s0 mc ms C a1 a2 a3 a4 a5 a6 hz hS hR (bz_ll_set hL hvr rfl hg h') t
theorem bz_i_istoren {k : Nat} {N : bz_N} {i : Nat} {L : List (Option bz_V)} {st : List bz_V} {μ : bz_M} {res : bz_R} {x : Int} {j : Nat} {jj : Fin 4} (hj : (jj : Nat) = j) (hd : decode (bz_b k) (bz_pc k i) = .ok (.istore_n jj, 1)) (hp : bz_pc k (i + 1) = bz_pc k i + 1) (hj2 : j < bz_ml k) (hg : ∀ q, q + 1 = j → q ∉ bz_lgs k) (h : bz_H k N (i + 1) (L.set j (some (zI x))) st μ res) : bz_H k N i L (zI x :: st) μ res := by
  refine ⟨h.1, ?_⟩
  intro p l e R s m args below meth c H locs ls sv c0 s0 mc ms C a1 a2 a3 a4 a5 a6 hz hS hR hL hv
  obtain ⟨w1, ws, rfl, hvr, t⟩ := bz_vs1 hv
  obtain ⟨n1, rfl, e1⟩ := id hvr
  refine lv_istore_n C.1.1 C.1.2.2.1 hd hj (bz_lv_has hL) hj2 rfl fun ls' h' => ?_
  rw [← hp]
  exact h.2 p l e R s m args below meth c H locs ls' ws c0 s0 mc ms C a1 a2 a3 a4 a5 a6 hz hS hR (bz_ll_set hL hvr rfl hg h') t
theorem bz_i_astore {k : Nat} {N : bz_N} {i : Nat} {L : List (Option bz_V)} {st : List bz_V} {μ : bz_M} {res : bz_R} {a : Nat} {j : Nat} (hd : decode (bz_b k) (bz_pc k i) = .ok (.astore j, 2)) (hp : bz_pc k (i + 1) = bz_pc k i + 2) (hj2 : j < bz_ml k) (hg : ∀ q, q + 1 = j → q ∉ bz_lgs k) (h : bz_H k N (i + 1) (L.set j (some (zR a))) st μ res) : bz_H k N i L (zR a :: st) μ res := by
  refine ⟨h.1, ?_⟩
  intro p l e R s m args below meth c H locs ls sv c0 s0 mc ms C a1 a2 a3 a4 a5 a6 hz hS hR hL hv
  obtain ⟨w1, ws, rfl, hvr, t⟩ := bz_vs1 hv
  rcases bz_vr_ref hvr with rfl | ⟨q, rfl⟩
  · refine lv_astoreN C.1.1 C.1.2.2.1 hd (bz_lv_has hL) hj2 rfl fun ls' h' => ?_
    rw [← hp]
    exact h.2 p l e R s m args below meth c H locs ls' ws c0 s0 mc ms C a1 a2 a3 a4 a5 a6 hz hS hR (bz_ll_set hL hvr rfl hg h') t
  · refine lv_astore C.1.1 C.1.2.2.1 hd (bz_lv_has hL) hj2 rfl fun ls' h' => ?_
    rw [← hp]
    exact h.2 p l e R s m args below meth c H locs ls' ws c0 s0 mc ms C a1 a2 a3 a4 a5 a6 hz hS hR (bz_ll_set hL hvr rfl hg h') t
theorem bz_i_astoren {k : Nat} {N : bz_N} {i : Nat} {L : List (Option bz_V)} {st : List bz_V} {μ : bz_M} {res : bz_R} {a : Nat} {j : Nat} {jj : Fin 4} (hj : (jj : Nat) = j) (hd : decode (bz_b k) (bz_pc k i) = .ok (.astore_n jj, 1)) (hp : bz_pc k (i + 1) = bz_pc k i + 1) (hj2 : j < bz_ml k) (hg : ∀ q, q + 1 = j → q ∉ bz_lgs k) (h : bz_H k N (i + 1) (L.set j (some (zR a))) st μ res) : bz_H k N i L (zR a :: st) μ res := by
  refine ⟨h.1, ?_⟩
  intro p l e R s m args below meth c H locs ls sv c0 s0 mc ms C a1 a2 a3 a4 a5 a6 hz hS hR hL hv
  obtain ⟨w1, ws, rfl, hvr, t⟩ := bz_vs1 hv
  rcases bz_vr_ref hvr with rfl | ⟨q, rfl⟩
  · refine lv_astore_nN C.1.1 C.1.2.2.1 hd hj (bz_lv_has hL) hj2 rfl fun ls' h' => ?_
    rw [← hp]
    exact h.2 p l e R s m args below meth c H locs ls' ws c0 s0 mc ms C a1 a2 a3 a4 a5 a6 hz hS hR (bz_ll_set hL hvr rfl hg h') t
  · refine lv_astore_n C.1.1 C.1.2.2.1 hd hj (bz_lv_has hL) hj2 rfl fun ls' h' => ?_
    rw [← hp]
    exact h.2 p l e R s m args below meth c H locs ls' ws c0 s0 mc ms C a1 a2 a3 a4 a5 a6 hz hS hR (bz_ll_set hL hvr rfl hg h') t
theorem bz_i_lstore {k : Nat} {N : bz_N} {i : Nat} {L : List (Option bz_V)} {st : List bz_V} {μ : bz_M} {res : bz_R} {x : Int} {j : Nat} (hd : decode (bz_b k) (bz_pc k i) = .ok (.lstore j, 2)) (hp : bz_pc k (i + 1) = bz_pc k i + 2) (hj2 : j + 1 < bz_ml k) (hi : j ∈ bz_lgs k) (hg : ∀ q, q + 1 = j → q ∉ bz_lgs k) (h : bz_H k N (i + 1) ((L.set j (some (zL x))).set (j + 1) none) st μ res) : bz_H k N i L (zL x :: st) μ res := by
  refine ⟨h.1, ?_⟩
  intro p l e R s m args below meth c H locs ls sv c0 s0 mc ms C a1 a2 a3 a4 a5 a6 hz hS hR hL hv
  obtain ⟨w1, ws, rfl, hvr, t⟩ := bz_vs1 hv
  obtain ⟨n1, rfl, e1⟩ := id hvr
  refine lv_lstore C.1.1 C.1.2.2.1 hd (bz_lv_has hL) hj2 rfl fun ls' h' => ?_
  rw [← hp]
  exact h.2 p l e R s m args below meth c H locs ls' ws c0 s0 mc ms C a1 a2 a3 a4 a5 a6 hz hS hR (bz_ll_setl hL hvr hi hg h') t
theorem bz_i_lstoren {k : Nat} {N : bz_N} {i : Nat} {L : List (Option bz_V)} {st : List bz_V} {μ : bz_M} {res : bz_R} {x : Int} {j : Nat} {jj : Fin 4} (hj : (jj : Nat) = j) (hd : decode (bz_b k) (bz_pc k i) = .ok (.lstore_n jj, 1)) (hp : bz_pc k (i + 1) = bz_pc k i + 1) (hj2 : j + 1 < bz_ml k) (hi : j ∈ bz_lgs k) (hg : ∀ q, q + 1 = j → q ∉ bz_lgs k) (h : bz_H k N (i + 1) ((L.set j (some (zL x))).set (j + 1) none) st μ res) : bz_H k N i L (zL x :: st) μ res := by
  refine ⟨h.1, ?_⟩
  intro p l e R s m args below meth c H locs ls sv c0 s0 mc ms C a1 a2 a3 a4 a5 a6 hz hS hR hL hv
  obtain ⟨w1, ws, rfl, hvr, t⟩ := bz_vs1 hv
  obtain ⟨n1, rfl, e1⟩ := id hvr
  refine lv_lstore_n C.1.1 C.1.2.2.1 hd hj (bz_lv_has hL) hj2 rfl fun ls' h' => ?_
  rw [← hp]
  exact h.2 p l e R s m args below meth c H locs ls' ws c0 s0 mc ms C a1 a2 a3 a4 a5 a6 hz hS hR (bz_ll_setl hL hvr hi hg h') t
theorem bz_i_iinc {k : Nat} {N : bz_N} {i : Nat} {L : List (Option bz_V)} {st : List bz_V} {μ : bz_M} {res : bz_R} {x c9 : Int} {j : Nat} (hd : decode (bz_b k) (bz_pc k i) = .ok (.iinc j c9, 3)) (hp : bz_pc k (i + 1) = bz_pc k i + 3) (hc9 : (Int32.ofInt c9).toInt = c9) (hl : L[j]? = some (some (zI x))) (hj2 : j < bz_ml k) (hg : ∀ q, q + 1 = j → q ∉ bz_lgs k) (h : bz_H k N (i + 1) (L.set j (some (zI (wr (x + c9))))) st μ res) : bz_H k N i L st μ res := by
  refine ⟨h.1, ?_⟩
  intro p l e R s m args below meth c H locs ls sv c0 s0 mc ms C a1 a2 a3 a4 a5 a6 hz hS hR hL hv
  obtain ⟨w, hw, n, rfl, e1⟩ := hL.2.2.2.1 j _ hl
  obtain ⟨kk, hkk⟩ := List.getElem?_of_mem ((bz_lv_in (q := (j, Value.int n))).mpr hw)
  refine lv_iinc C.1.1 C.1.2.2.1 hd (bz_lv_has hL) hkk rfl hj2 rfl fun ls' h' => ?_
  rw [← hp]
  exact h.2 p l e R s m args below meth c H locs ls' sv c0 s0 mc ms C a1 a2 a3 a4 a5 a6 hz hS hR (bz_ll_set (v := zI (wr (x + c9))) hL ⟨_, rfl, by rw [bz_add, e1, hc9]⟩ rfl hg h') hv
theorem bz_i_mask {k : Nat} {N : bz_N} {i m9 : Nat} {L : List (Option bz_V)} {st : List bz_V} {μ : bz_M} {res : bz_R} (h : bz_H k N i (bz_mk m9 L) st μ res) : bz_H k N i L st μ res := by
  refine ⟨h.1, ?_⟩
  intro p l e R s m args below meth c H locs ls sv c0 s0 mc ms C a1 a2 a3 a4 a5 a6 hz hS hR hL hv
  exact h.2 p l e R s m args below meth c H locs ls sv c0 s0 mc ms C a1 a2 a3 a4 a5 a6 hz hS hR (bz_ll_mk hL) hv
theorem bz_i_cut {k : Nat} {N : bz_N} {i j : Nat} {L : List (Option bz_V)} {st : List bz_V} {μ : bz_M} {res : bz_R} (hp : bz_pc k j = bz_pc k i) (h : bz_H k N j L st μ res) : bz_H k N i L st μ res := by
  refine ⟨h.1, ?_⟩
  intro p l e R s m args below meth c H locs ls sv c0 s0 mc ms C a1 a2 a3 a4 a5 a6 hz hS hR hL hv
  rw [← hp]
  exact h.2 p l e R s m args below meth c H locs ls sv c0 s0 mc ms C a1 a2 a3 a4 a5 a6 hz hS hR hL hv
theorem bz_i_goto {k : Nat} {N : bz_N} {i : Nat} {L : List (Option bz_V)} {st : List bz_V} {μ : bz_M} {res : bz_R} {t : Nat} {off : Int} (hd : decode (bz_b k) (bz_pc k i) = .ok (.goto off, 3)) (ht : (bz_pc k i : Int) + off = (bz_pc k t : Int)) (h : bz_H k N t L st μ res) : bz_H k N i L st μ res :=
  bz_pure h fun sv hv => ⟨sv, hv, fun p l e R s m args below meth c H locs cells slots Q ls C kk => lv_goto C.1.1 C.1.2.2.1 hd ht kk⟩
theorem bz_i_if {k : Nat} {N : bz_N} {i : Nat} {L : List (Option bz_V)} {st : List bz_V} {μ : bz_M} {res : bz_R} {x : Int} {t : Nat} {off : Int} {cc : ClassFile.Cond} {A B : Option bz_R} (hd : decode (bz_b k) (bz_pc k i) = .ok (.ifCond cc off, 3)) (hp : bz_pc k (i + 1) = bz_pc k i + 3) (ht : (bz_pc k i : Int) + off = (bz_pc k t : Int)) (hh : bz_if cc x 0 A B = some res)
    (hA : A = some res → bz_H k N t L st μ res) (hB : B = some res → bz_H k N (i + 1) L st μ res) : bz_H k N i L (zI x :: st) μ res := by
  unfold bz_if at hh
  cases cc <;> dsimp only at hh <;> split at hh
  · rename_i hq
    have G := hA hh
    refine bz_pure G fun sv hv => ?_
    obtain ⟨w1, ws, rfl, ⟨n1, rfl, e1⟩, t⟩ := bz_vs1 hv
    exact ⟨ws, t, fun p l e R s m args below meth c H locs cells slots Q ls C kk => lv_if_eq C.1.1 C.1.2.2.1 hd ht (fun _ => kk) (fun q => absurd q (by simp only [bz_eq0, bz_lt0, bz_le0, e1, bz_z]; omega))⟩
  · rename_i hq
    have G := hB hh
    refine bz_pure G fun sv hv => ?_
    obtain ⟨w1, ws, rfl, ⟨n1, rfl, e1⟩, t⟩ := bz_vs1 hv
    exact ⟨ws, t, fun p l e R s m args below meth c H locs cells slots Q ls C kk => lv_if_eq C.1.1 C.1.2.2.1 hd ht (fun q => absurd q (by simp only [bz_eq0, bz_lt0, bz_le0, e1, bz_z]; omega)) (fun _ => hp ▸ kk)⟩
  · rename_i hq
    have G := hB hh
    refine bz_pure G fun sv hv => ?_
    obtain ⟨w1, ws, rfl, ⟨n1, rfl, e1⟩, t⟩ := bz_vs1 hv
    exact ⟨ws, t, fun p l e R s m args below meth c H locs cells slots Q ls C kk => lv_if_ne C.1.1 C.1.2.2.1 hd ht (fun q => absurd q (by simp only [bz_eq0, bz_lt0, bz_le0, e1, bz_z]; omega)) (fun _ => hp ▸ kk)⟩
  · rename_i hq
    have G := hA hh
    refine bz_pure G fun sv hv => ?_
    obtain ⟨w1, ws, rfl, ⟨n1, rfl, e1⟩, t⟩ := bz_vs1 hv
    exact ⟨ws, t, fun p l e R s m args below meth c H locs cells slots Q ls C kk => lv_if_ne C.1.1 C.1.2.2.1 hd ht (fun _ => kk) (fun q => absurd q (by simp only [bz_eq0, bz_lt0, bz_le0, e1, bz_z]; omega))⟩
  · rename_i hq
    have G := hA hh
    refine bz_pure G fun sv hv => ?_
    obtain ⟨w1, ws, rfl, ⟨n1, rfl, e1⟩, t⟩ := bz_vs1 hv
    exact ⟨ws, t, fun p l e R s m args below meth c H locs cells slots Q ls C kk => lv_if_lt C.1.1 C.1.2.2.1 hd ht (fun _ => kk) (fun q => absurd q (by simp only [bz_eq0, bz_lt0, bz_le0, e1, bz_z]; omega))⟩
  · rename_i hq
    have G := hB hh
    refine bz_pure G fun sv hv => ?_
    obtain ⟨w1, ws, rfl, ⟨n1, rfl, e1⟩, t⟩ := bz_vs1 hv
    exact ⟨ws, t, fun p l e R s m args below meth c H locs cells slots Q ls C kk => lv_if_lt C.1.1 C.1.2.2.1 hd ht (fun q => absurd q (by simp only [bz_eq0, bz_lt0, bz_le0, e1, bz_z]; omega)) (fun _ => hp ▸ kk)⟩
  · rename_i hq
    have G := hB hh
    refine bz_pure G fun sv hv => ?_
    obtain ⟨w1, ws, rfl, ⟨n1, rfl, e1⟩, t⟩ := bz_vs1 hv
    exact ⟨ws, t, fun p l e R s m args below meth c H locs cells slots Q ls C kk => lv_if_ge C.1.1 C.1.2.2.1 hd ht (fun q => absurd q (by simp only [bz_eq0, bz_lt0, bz_le0, e1, bz_z]; omega)) (fun _ => hp ▸ kk)⟩
  · rename_i hq
    have G := hA hh
    refine bz_pure G fun sv hv => ?_
    obtain ⟨w1, ws, rfl, ⟨n1, rfl, e1⟩, t⟩ := bz_vs1 hv
    exact ⟨ws, t, fun p l e R s m args below meth c H locs cells slots Q ls C kk => lv_if_ge C.1.1 C.1.2.2.1 hd ht (fun _ => kk) (fun q => absurd q (by simp only [bz_eq0, bz_lt0, bz_le0, e1, bz_z]; omega))⟩
  · rename_i hq
    have G := hA hh
    refine bz_pure G fun sv hv => ?_
    obtain ⟨w1, ws, rfl, ⟨n1, rfl, e1⟩, t⟩ := bz_vs1 hv
    exact ⟨ws, t, fun p l e R s m args below meth c H locs cells slots Q ls C kk => lv_if_gt C.1.1 C.1.2.2.1 hd ht (fun _ => kk) (fun q => absurd q (by simp only [bz_eq0, bz_lt0, bz_le0, e1, bz_z]; omega))⟩
  · rename_i hq
    have G := hB hh
    refine bz_pure G fun sv hv => ?_
    obtain ⟨w1, ws, rfl, ⟨n1, rfl, e1⟩, t⟩ := bz_vs1 hv
    exact ⟨ws, t, fun p l e R s m args below meth c H locs cells slots Q ls C kk => lv_if_gt C.1.1 C.1.2.2.1 hd ht (fun q => absurd q (by simp only [bz_eq0, bz_lt0, bz_le0, e1, bz_z]; omega)) (fun _ => hp ▸ kk)⟩
  · rename_i hq
    have G := hB hh
    refine bz_pure G fun sv hv => ?_
    obtain ⟨w1, ws, rfl, ⟨n1, rfl, e1⟩, t⟩ := bz_vs1 hv
    exact ⟨ws, t, fun p l e R s m args below meth c H locs cells slots Q ls C kk => lv_if_le C.1.1 C.1.2.2.1 hd ht (fun q => absurd q (by simp only [bz_eq0, bz_lt0, bz_le0, e1, bz_z]; omega)) (fun _ => hp ▸ kk)⟩
  · rename_i hq
    have G := hA hh
    refine bz_pure G fun sv hv => ?_
    obtain ⟨w1, ws, rfl, ⟨n1, rfl, e1⟩, t⟩ := bz_vs1 hv
    exact ⟨ws, t, fun p l e R s m args below meth c H locs cells slots Q ls C kk => lv_if_le C.1.1 C.1.2.2.1 hd ht (fun _ => kk) (fun q => absurd q (by simp only [bz_eq0, bz_lt0, bz_le0, e1, bz_z]; omega))⟩
theorem bz_i_icmp {k : Nat} {N : bz_N} {i : Nat} {L : List (Option bz_V)} {st : List bz_V} {μ : bz_M} {res : bz_R} {x y : Int} {t : Nat} {off : Int} {cc : ClassFile.Cond} {A B : Option bz_R} (hd : decode (bz_b k) (bz_pc k i) = .ok (.if_icmp cc off, 3)) (hp : bz_pc k (i + 1) = bz_pc k i + 3) (ht : (bz_pc k i : Int) + off = (bz_pc k t : Int)) (hh : bz_if cc x y A B = some res)
    (hA : A = some res → bz_H k N t L st μ res) (hB : B = some res → bz_H k N (i + 1) L st μ res) : bz_H k N i L (zI y :: zI x :: st) μ res := by
  unfold bz_if at hh
  cases cc <;> dsimp only at hh <;> split at hh
  · rename_i hq
    have G := hA hh
    refine bz_pure G fun sv hv => ?_
    obtain ⟨w1, w2, ws, rfl, ⟨n1, rfl, e1⟩, ⟨n2, rfl, e2⟩, t⟩ := bz_vs2 hv
    exact ⟨ws, t, fun p l e R s m args below meth c H locs cells slots Q ls C kk => lv_icmp_eq C.1.1 C.1.2.2.1 hd ht (fun _ => kk) (fun q => absurd q (by simp only [bz_eq0, bz_lt0, bz_le0, e2, e1]; omega))⟩
  · rename_i hq
    have G := hB hh
    refine bz_pure G fun sv hv => ?_
    obtain ⟨w1, w2, ws, rfl, ⟨n1, rfl, e1⟩, ⟨n2, rfl, e2⟩, t⟩ := bz_vs2 hv
    exact ⟨ws, t, fun p l e R s m args below meth c H locs cells slots Q ls C kk => lv_icmp_eq C.1.1 C.1.2.2.1 hd ht (fun q => absurd q (by simp only [bz_eq0, bz_lt0, bz_le0, e2, e1]; omega)) (fun _ => hp ▸ kk)⟩
  · rename_i hq
    have G := hB hh
    refine bz_pure G fun sv hv => ?_
    obtain ⟨w1, w2, ws, rfl, ⟨n1, rfl, e1⟩, ⟨n2, rfl, e2⟩, t⟩ := bz_vs2 hv
    exact ⟨ws, t, fun p l e R s m args below meth c H locs cells slots Q ls C kk => lv_icmp_ne C.1.1 C.1.2.2.1 hd ht (fun q => absurd q (by simp only [bz_eq0, bz_lt0, bz_le0, e2, e1]; omega)) (fun _ => hp ▸ kk)⟩
  · rename_i hq
    have G := hA hh
    refine bz_pure G fun sv hv => ?_
    obtain ⟨w1, w2, ws, rfl, ⟨n1, rfl, e1⟩, ⟨n2, rfl, e2⟩, t⟩ := bz_vs2 hv
    exact ⟨ws, t, fun p l e R s m args below meth c H locs cells slots Q ls C kk => lv_icmp_ne C.1.1 C.1.2.2.1 hd ht (fun _ => kk) (fun q => absurd q (by simp only [bz_eq0, bz_lt0, bz_le0, e2, e1]; omega))⟩
  · rename_i hq
    have G := hA hh
    refine bz_pure G fun sv hv => ?_
    obtain ⟨w1, w2, ws, rfl, ⟨n1, rfl, e1⟩, ⟨n2, rfl, e2⟩, t⟩ := bz_vs2 hv
    exact ⟨ws, t, fun p l e R s m args below meth c H locs cells slots Q ls C kk => lv_icmp_lt C.1.1 C.1.2.2.1 hd ht (fun _ => kk) (fun q => absurd q (by simp only [bz_eq0, bz_lt0, bz_le0, e2, e1]; omega))⟩
  · rename_i hq
    have G := hB hh
    refine bz_pure G fun sv hv => ?_
    obtain ⟨w1, w2, ws, rfl, ⟨n1, rfl, e1⟩, ⟨n2, rfl, e2⟩, t⟩ := bz_vs2 hv
    exact ⟨ws, t, fun p l e R s m args below meth c H locs cells slots Q ls C kk => lv_icmp_lt C.1.1 C.1.2.2.1 hd ht (fun q => absurd q (by simp only [bz_eq0, bz_lt0, bz_le0, e2, e1]; omega)) (fun _ => hp ▸ kk)⟩
  · rename_i hq
    have G := hB hh
    refine bz_pure G fun sv hv => ?_
    obtain ⟨w1, w2, ws, rfl, ⟨n1, rfl, e1⟩, ⟨n2, rfl, e2⟩, t⟩ := bz_vs2 hv
    exact ⟨ws, t, fun p l e R s m args below meth c H locs cells slots Q ls C kk => lv_icmp_ge C.1.1 C.1.2.2.1 hd ht (fun q => absurd q (by simp only [bz_eq0, bz_lt0, bz_le0, e2, e1]; omega)) (fun _ => hp ▸ kk)⟩
  · rename_i hq
    have G := hA hh
    refine bz_pure G fun sv hv => ?_
    obtain ⟨w1, w2, ws, rfl, ⟨n1, rfl, e1⟩, ⟨n2, rfl, e2⟩, t⟩ := bz_vs2 hv
    exact ⟨ws, t, fun p l e R s m args below meth c H locs cells slots Q ls C kk => lv_icmp_ge C.1.1 C.1.2.2.1 hd ht (fun _ => kk) (fun q => absurd q (by simp only [bz_eq0, bz_lt0, bz_le0, e2, e1]; omega))⟩
  · rename_i hq
    have G := hA hh
    refine bz_pure G fun sv hv => ?_
    obtain ⟨w1, w2, ws, rfl, ⟨n1, rfl, e1⟩, ⟨n2, rfl, e2⟩, t⟩ := bz_vs2 hv
    exact ⟨ws, t, fun p l e R s m args below meth c H locs cells slots Q ls C kk => lv_icmp_gt C.1.1 C.1.2.2.1 hd ht (fun _ => kk) (fun q => absurd q (by simp only [bz_eq0, bz_lt0, bz_le0, e2, e1]; omega))⟩
  · rename_i hq
    have G := hB hh
    refine bz_pure G fun sv hv => ?_
    obtain ⟨w1, w2, ws, rfl, ⟨n1, rfl, e1⟩, ⟨n2, rfl, e2⟩, t⟩ := bz_vs2 hv
    exact ⟨ws, t, fun p l e R s m args below meth c H locs cells slots Q ls C kk => lv_icmp_gt C.1.1 C.1.2.2.1 hd ht (fun q => absurd q (by simp only [bz_eq0, bz_lt0, bz_le0, e2, e1]; omega)) (fun _ => hp ▸ kk)⟩
  · rename_i hq
    have G := hB hh
    refine bz_pure G fun sv hv => ?_
    obtain ⟨w1, w2, ws, rfl, ⟨n1, rfl, e1⟩, ⟨n2, rfl, e2⟩, t⟩ := bz_vs2 hv
    exact ⟨ws, t, fun p l e R s m args below meth c H locs cells slots Q ls C kk => lv_icmp_le C.1.1 C.1.2.2.1 hd ht (fun q => absurd q (by simp only [bz_eq0, bz_lt0, bz_le0, e2, e1]; omega)) (fun _ => hp ▸ kk)⟩
  · rename_i hq
    have G := hA hh
    refine bz_pure G fun sv hv => ?_
    obtain ⟨w1, w2, ws, rfl, ⟨n1, rfl, e1⟩, ⟨n2, rfl, e2⟩, t⟩ := bz_vs2 hv
    exact ⟨ws, t, fun p l e R s m args below meth c H locs cells slots Q ls C kk => lv_icmp_le C.1.1 C.1.2.2.1 hd ht (fun _ => kk) (fun q => absurd q (by simp only [bz_eq0, bz_lt0, bz_le0, e2, e1]; omega))⟩
end
section
/-! FIELDS AND ARRAYS -/
def bz_tyf (c : Nat) : Nat → FieldType := [fun _ => FieldType.int, tyX0, tyX1, tyX2, tyX3, tyX4, tyX5, tyX6, tyX8, tyX9, tyX10].getD c (fun _ => .int)
theorem bz_lay_all : (List.range 11).all (fun c => (List.range (bz_ns c)).all fun j => decide ((c, j) ∈ bz_lay)) = true := by decide +kernel
theorem bz_lay_W {c : Nat} {q : vw_C} (hq : vwCl[c - 1]? = some q) (hn : q.2.2 = bz_ns c) (hc : c < 11) : ∀ w ∈ u_ws q.1 q.2.1 q.2.2, w ∈ bz_W := by
  intro w hw
  obtain ⟨j, hj, rfl⟩ := List.mem_map.mp hw
  have hj2 : j < bz_ns c := by rw [← hn]; exact List.mem_range.mp hj
  have h1 := List.all_eq_true.mp (List.all_eq_true.mp bz_lay_all c (List.mem_range.mpr hc)) j (List.mem_range.mpr hj2)
  have h2 := bz_lay_in (c, j) (by simpa using h1)
  have h3 : bz_layw (c, j) = u_lay q.1 q.2.1 j := by unfold bz_layw; dsimp only; rw [hq]
  rw [h3] at h2
  refine List.mem_filter.mpr ⟨h2, ?_⟩
  unfold u_lay
  split <;> rfl
theorem bz_cls {c : Nat} (h1 : 1 ≤ c) (h2 : c ≤ 10) : ∃ (C : String) (F : u_T), vwCl[c - 1]? = some (C, F, bz_ns c) ∧ (∀ j, j < bz_ns c → parseFieldDescriptor (F j).2.2.1 = some (bz_tyf c j)) ∧ (∀ a, a < bz_ns c → ∀ b, b < bz_ns c → a ≠ b → (F a).2.1 ≠ (F b).2.1) ∧ C = bz_cn1 c ∧ (∀ w ∈ u_ws C F (bz_ns c), w ∈ bz_W) ∧ ∀ j, j < 100 → bz_fnd (c * 100 + j) = F j := by
  have key : ∀ (C : String) (F : u_T), vwCl[c - 1]? = some (C, F, bz_ns c) → (∀ w ∈ u_ws C F (bz_ns c), w ∈ bz_W) ∧ C = bz_cn1 c ∧ ∀ j, j < 100 → bz_fnd (c * 100 + j) = F j := by
    intro C F hq
    refine ⟨bz_lay_W hq rfl (by omega), ?_, fun j hj => ?_⟩
    · unfold bz_cn1
      rw [if_neg (by omega), hq]
    · unfold bz_fnd
      have e1 : (c * 100 + j) / 100 = c := by omega
      have e2 : (c * 100 + j) % 100 = j := by omega
      rw [e1, e2, if_neg (by omega), if_neg (by omega), hq]
  have go : ∀ (C : String) (F : u_T), vwCl[c - 1]? = some (C, F, bz_ns c) → (∀ j, j < bz_ns c → parseFieldDescriptor (F j).2.2.1 = some (bz_tyf c j)) → (∀ a, a < bz_ns c → ∀ b, b < bz_ns c → a ≠ b → (F a).2.1 ≠ (F b).2.1) → ∃ (C : String) (F : u_T), vwCl[c - 1]? = some (C, F, bz_ns c) ∧ (∀ j, j < bz_ns c → parseFieldDescriptor (F j).2.2.1 = some (bz_tyf c j)) ∧ (∀ a, a < bz_ns c → ∀ b, b < bz_ns c → a ≠ b → (F a).2.1 ≠ (F b).2.1) ∧ C = bz_cn1 c ∧ (∀ w ∈ u_ws C F (bz_ns c), w ∈ bz_W) ∧ ∀ j, j < 100 → bz_fnd (c * 100 + j) = F j :=
    fun C F hq ht hn => ⟨C, F, hq, ht, hn, (key C F hq).2.1, (key C F hq).1, (key C F hq).2.2⟩
  rcases (show c = 1 ∨ c = 2 ∨ c = 3 ∨ c = 4 ∨ c = 5 ∨ c = 6 ∨ c = 7 ∨ c = 8 ∨ c = 9 ∨ c = 10 by omega) with rfl | rfl | rfl | rfl | rfl | rfl | rfl | rfl | rfl | rfl
  · exact go RX0 TX0 rfl tyX0_ok nmX0
  · exact go RX1 TX1 rfl tyX1_ok nmX1
  · exact go RX2 TX2 rfl tyX2_ok nmX2
  · exact go RX3 TX3 rfl tyX3_ok nmX3
  · exact go RX4 TX4 rfl tyX4_ok nmX4
  · exact go RX5 TX5 rfl tyX5_ok nmX5
  · exact go RX6 TX6 rfl tyX6_ok nmX6
  · exact go RX8 TX8 rfl tyX8_ok nmX8
  · exact go RX9 TX9 rfl tyX9_ok nmX9
  · exact go RX10 TX10 rfl tyX10_ok nmX10
theorem bz_ce_obj {N : bz_N} {μ : bz_M} {a c : Nat} (hT : gT μ a = c) (h2 : c ≤ 10) : bz_ce N μ a = .inr (c - 1, (List.range (bz_ns c)).map fun j => bz_fv N μ a (bz_fk c j) (j : Int)) := by
  unfold bz_ce
  rw [hT, if_pos (by omega)]
theorem bz_fs_get {N : bz_N} {μ : bz_M} {a c j : Nat} (hj : j < bz_ns c) : ((List.range (bz_ns c)).map fun j => bz_fv N μ a (bz_fk c j) (j : Int))[j]? = some (bz_fv N μ a (bz_fk c j) (j : Int)) := by
  rw [List.getElem?_map, List.getElem?_range hj]
  rfl
theorem bz_vr_mk {N : bz_N} {b : Nat} : bz_vr N (zR b) (.ref (bz_ad N b)) := by
  unfold bz_vr
  dsimp only
  split
  · exact Or.inr ⟨_, rfl⟩
  · rfl
theorem bz_rep_tag {N : bz_N} {μ : bz_M} {H : Heap} {U : State} {H0 : Heap} (hR : bz_Rep N μ H) (hE : bz_E N U H0) {a : Nat} (h : bz_tg1 (gT μ a)) : 16 ≤ a ∧ a < μ.1.length := by
  obtain ⟨-, -, -, -, -, -, -, -, -, hx, -⟩ := hE
  exact bz_in hR.1 (fun a t q1 q2 => hx a t q1 q2) h
def bz_same1 (ref : String) (f : String × String × String × Bool) : Prop := ref = f.1 ∨ Cond.sameField ref f.1 f.2.1 f.2.2.1 ∈ bz_W
theorem bz_same_use {ref : String} {f : String × String × String × Bool} {args : Array Value} {s : State} (hts : ∀ w ∈ bz_W, w.before args s = true) (h : bz_same1 ref f) : ∀ x, s.fieldFound? f.1 f.2.1 f.2.2.1 = some x → s.fieldFound? ref f.2.1 f.2.2.1 = some x := by
  rcases h with rfl | h
  · exact fun _ h => h
  · exact u_same (hts _ h)
/-- a field is read -/
theorem bz_i_get {k : Nat} {N : bz_N} {i : Nat} {L : List (Option bz_V)} {st : List bz_V} {μ : bz_M} {res : bz_R} {a c j idx : Nat} {ref : String} {v : bz_V} (hT : gT μ a = c) (hc : 1 ≤ c ∧ c ≤ 10) (hj : j < bz_ns c) (hd : decode (bz_b k) (bz_pc k i) = .ok (.getfield idx, 3)) (hp : bz_pc k (i + 1) = bz_pc k i + 3)
    (hw : Cond.fieldLink (bz_ow k) idx ref (bz_fnd (c * 100 + j)).2.1 (bz_fnd (c * 100 + j)).2.2.1 ∈ bz_W) (hsm : bz_same1 ref (bz_fnd (c * 100 + j))) (hvr : (∀ a i, r32 (gM μ a i)) → (∀ a i, r64 (gG μ a i)) → bz_vr N v (bz_fv N μ a (bz_fk c j) (j : Int))) (h : bz_H k N (i + 1) L (v :: st) μ res) : bz_H k N i L (zR a :: st) μ res := by
  refine ⟨h.1, ?_⟩
  intro p l e R s m args below meth c' H locs ls sv c0 s0 mc ms C a1 a2 a3 a4 a5 a6 hz hS hR hL hv
  have hts := C.1.2.2.2.2.2.2.2.2.1
  obtain ⟨F0', F, hq, hty, hnm, -, hin, hfd⟩ := bz_cls hc.1 hc.2
  have hns : bz_ns c ≤ 33 := by
    rcases (show c = 1 ∨ c = 2 ∨ c = 3 ∨ c = 4 ∨ c = 5 ∨ c = 6 ∨ c = 7 ∨ c = 8 ∨ c = 9 ∨ c = 10 by omega) with rfl | rfl | rfl | rfl | rfl | rfl | rfl | rfl | rfl | rfl <;> decide
  have hfd' := hfd j (by omega)
  rw [hfd'] at hw hsm
  have ha := bz_rep_tag hR C.2.2.2.2 (a := a) (by rw [hT]; exact Or.inl hc)
  obtain ⟨w1, ws, rfl, hv1, t⟩ := bz_vs1 hv
  have e1 := bz_vr_in hv1 (by omega)
  subst e1
  have he := bz_ws_get (N := N) ha
  rw [bz_ce_obj hT hc.2] at he
  have K := h.2 p l e R s m args below meth c' H locs ls (_ :: ws) c0 s0 mc ms C a1 a2 a3 a4 a5 a6 hz hS hR hL ⟨hvr hR.1.2.1 hR.1.2.2.1, t⟩
  rw [hp] at K
  exact va_get (D := nD N) C.1.1 C.1.2.2.1 hts hin C.1.2.2.2.2.2.1 C.2.2.2.2.1 hR.2 (a - 16) he hq j hj (hts _ hw) (bz_same_use hts hsm) (bz_fs_get hj) hd K
end
section
/-! FIELDS AND ARRAYS WRITTEN, ARRAYS READ -/
theorem bz_ce_congr {N : bz_N} {μ μ' : bz_M} {b : Nat} (h0 : μ'.1 = μ.1) (h1 : ∀ i, gM μ' b i = gM μ b i) (h2 : ∀ i, gP μ' b i = gP μ b i) (h3 : ∀ i, gG μ' b i = gG μ b i) : bz_ce N μ' b = bz_ce N μ b := by
  have e1 : gT μ' b = gT μ b := by unfold gT; rw [h0]
  have e2 : bz_nn μ' b = bz_nn μ b := by unfold bz_nn; rw [h0]
  unfold bz_ce bz_da bz_fv
  simp only [e1, e2, h1, h2, h3]
theorem bz_list_set {f g : Nat → Value} {n j : Nat} {v : Value} (h1 : g j = v) (h2 : ∀ i, i ≠ j → g i = f i) : ((List.range n).map f).set j v = (List.range n).map g := by
  apply List.ext_getElem?
  intro q
  rw [List.getElem?_set]
  by_cases hq : q < n
  · rw [List.getElem?_map, List.getElem?_range hq, List.getElem?_map, List.getElem?_range hq]
    split
    · rename_i e
      subst e
      simp [hq, h1]
    · rename_i e
      simp [h2 q (fun z => e z.symm)]
  · rw [List.getElem?_eq_none (by simp; omega), List.getElem?_eq_none (by simp; omega)]
    split
    · rename_i e
      subst e
      simp; omega
    · rfl
theorem bz_OK_sM {N : bz_N} {μ : bz_M} {a : Nat} {j x : Int} (h : bz_OK N μ) (ha : 16 ≤ a ∧ a < μ.1.length) (hx : r32 x) : bz_OK N (sM μ a j x) := by
  obtain ⟨h1, h2, h3, h4, h5, h6, h7, h8⟩ := h
  refine ⟨h1, fun b i => ?_, h3, fun b i hb => ?_, h5, h6, fun b hb i => ?_, h8⟩
  · show r32 (if b = a ∧ i = j then x else gM μ b i)
    split
    · exact hx
    · exact h2 b i
  · have hb' : μ.1.length ≤ b := hb
    refine ⟨(h4 b i hb).1, ?_, (h4 b i hb).2.2⟩
    show (if b = a ∧ i = j then x else gM μ b i) = 0
    rw [if_neg (by omega)]
    exact (h4 b i hb).2.1
  · refine ⟨?_, (h7 b hb i).2⟩
    show (if b = a ∧ i = j then x else gM μ b i) = _
    rw [if_neg (by omega)]
    exact (h7 b hb i).1
theorem bz_OK_sG {N : bz_N} {μ : bz_M} {a : Nat} {j x : Int} (h : bz_OK N μ) (ha : 16 ≤ a ∧ a < μ.1.length) (hx : r64 x) : bz_OK N (sG μ a j x) := by
  obtain ⟨h1, h2, h3, h4, h5, h6, h7, h8⟩ := h
  refine ⟨h1, h2, fun b i => ?_, fun b i hb => ?_, h5, h6, h7, h8⟩
  · show r64 (if b = a ∧ i = j then x else gG μ b i)
    split
    · exact hx
    · exact h3 b i
  · have hb' : μ.1.length ≤ b := hb
    refine ⟨(h4 b i hb).1, (h4 b i hb).2.1, ?_⟩
    show (if b = a ∧ i = j then x else gG μ b i) = 0
    rw [if_neg (by omega)]
    exact (h4 b i hb).2.2
theorem bz_OK_sP {N : bz_N} {μ : bz_M} {a v : Nat} {j : Int} (h : bz_OK N μ) (ha : 16 ≤ a ∧ a < μ.1.length) : bz_OK N (sP μ a j v) := by
  obtain ⟨h1, h2, h3, h4, h5, h6, h7, h8⟩ := h
  refine ⟨h1, h2, h3, fun b i hb => ?_, h5, h6, fun b hb i => ?_, h8⟩
  · have hb' : μ.1.length ≤ b := hb
    refine ⟨?_, (h4 b i hb).2⟩
    show (if b = a ∧ i = j then v else gP μ b i) = 0
    rw [if_neg (by omega)]
    exact (h4 b i hb).1
  · refine ⟨(h7 b hb i).1, ?_⟩
    show (if b = a ∧ i = j then v else gP μ b i) = _
    rw [if_neg (by omega)]
    exact (h7 b hb i).2
/-- a field is written -/
theorem bz_i_put {k : Nat} {N : bz_N} {i : Nat} {L : List (Option bz_V)} {st : List bz_V} {μ μ' : bz_M} {res : bz_R} {a c j idx : Nat} {ref : String} {v : bz_V} (hT : gT μ a = c) (hc : 1 ≤ c ∧ c ≤ 10) (hj : j < bz_ns c) (hd : decode (bz_b k) (bz_pc k i) = .ok (.putfield idx, 3)) (hp : bz_pc k (i + 1) = bz_pc k i + 3)
    (hw : Cond.fieldLink (bz_ow k) idx ref (bz_fnd (c * 100 + j)).2.1 (bz_fnd (c * 100 + j)).2.2.1 ∈ bz_W) (hsm : bz_same1 ref (bz_fnd (c * 100 + j))) (hfin : (bz_fnd (c * 100 + j)).2.2.2 = false ∨ ((bz_fnd (c * 100 + j)).2.2.2 = true ∧ (bz_y k).name = "<init>" ∧ (bz_fnd (c * 100 + j)).1 = bz_ow k))
    (hC : C1 μ' = C1 μ ∧ C2 μ' = C2 μ) (hl : μ'.1 = μ.1) (ho : ∀ b, b ≠ a → bz_ce N μ' b = bz_ce N μ b) (hs : ∀ q, q ≠ j → bz_fv N μ' a (bz_fk c q) (q : Int) = bz_fv N μ a (bz_fk c q) (q : Int))
    (hval : ∀ w, bz_vr N v w → bz_fv N μ' a (bz_fk c j) (j : Int) = w ∧ narrow (bz_tyf c j) w = w ∧ fits (bz_tyf c j) w = true ∧ (16 ≤ a ∧ a < μ.1.length → bz_OK N μ → bz_OK N μ'))
    (h : bz_H k N (i + 1) L st μ' res) : bz_H k N i L (v :: zR a :: st) μ res := by
  refine ⟨by rw [← hC.1, ← hC.2]; exact h.1, ?_⟩
  intro p l e R s m args below meth c' H locs ls sv c0 s0 mc ms C a1 a2 a3 a4 a5 a6 hz hS hR hL hv
  have hts := C.1.2.2.2.2.2.2.2.2.1
  obtain ⟨F0', F, hq, hty, hnm, -, hin, hfd⟩ := bz_cls hc.1 hc.2
  have hns : bz_ns c ≤ 33 := by
    rcases (show c = 1 ∨ c = 2 ∨ c = 3 ∨ c = 4 ∨ c = 5 ∨ c = 6 ∨ c = 7 ∨ c = 8 ∨ c = 9 ∨ c = 10 by omega) with rfl | rfl | rfl | rfl | rfl | rfl | rfl | rfl | rfl | rfl <;> decide
  have hfd' := hfd j (by omega)
  rw [hfd'] at hw hsm hfin
  have ha := bz_rep_tag hR C.2.2.2.2 (a := a) (by rw [hT]; exact Or.inl hc)
  obtain ⟨w0, w1, ws, rfl, hv0, hv1, t⟩ := bz_vs2 hv
  have e1 := bz_vr_in hv1 (by omega)
  subst e1
  obtain ⟨g1, g2, g3, g4⟩ := hval w0 hv0
  have he := bz_ws_get (N := N) ha
  rw [bz_ce_obj hT hc.2] at he
  have hT' : gT μ' a = c := by rw [← hT]; unfold gT; rw [hl]
  have hset : (bz_ws N μ).set (a - 16) (bz_ad N a, .inr (c - 1, ((List.range (bz_ns c)).map fun j => bz_fv N μ a (bz_fk c j) (j : Int)).set j w0)) = bz_ws N μ' := by
    rw [bz_list_set (g := fun q => bz_fv N μ' a (bz_fk c q) (q : Int)) g1 hs, ← bz_ce_obj hT' hc.2]
    exact bz_ws_set ha hl ho
  have hlen : j < ((List.range (bz_ns c)).map fun j => bz_fv N μ a (bz_fk c j) (j : Int)).length := by simp; exact hj
  have KK : ∀ (H1 : Heap) (locs1 : List Loc), va_P (nD N) vwCl ((bz_ws N μ).set (a - 16) (bz_ad N a, .inr (c - 1, ((List.range (bz_ns c)).map fun j => bz_fv N μ a (bz_fk c j) (j : Int)).set j w0))) H1 → va_D (bz_A N) ((bz_ws N μ).set (a - 16) (bz_ad N a, .inr (c - 1, ((List.range (bz_ns c)).map fun j => bz_fv N μ a (bz_fk c j) (j : Int)).set j w0))) → va_S (bz_A N) s.heap H1 locs1 → W p l e R s m args below meth c' H1 locs1 (C1 μ - c0) (C2 μ - s0) (vx_MQ below (bz_Qc k N res) (bz_XC N res) args s mc ms (bz_A N)) (F0 m (bz_pc k i + 3) ls ws) := by
    intro H1 locs1 hP1 hD1 hS1
    rw [hset] at hP1
    have K := h.2 p l e R s m args below meth c' H1 locs1 ls ws c0 s0 mc ms C (by rw [hC.1]; exact a1) (by rw [hC.2]; exact a2) a3 a4 a5 a6 hz hS1 ⟨g4 ha hR.1, hP1⟩ hL t
    rw [hp, hC.1, hC.2] at K
    exact K
  rcases hfin with hfin | ⟨hfin, hini, hdecl⟩
  · exact va_put (D := nD N) C.1.1 C.1.2.2.1 hts hin (bz_tyf c) hty hnm C.1.2.2.2.2.2.1 C.2.2.2.2.1 hR.2 bz_ws_D hS (a - 16) he hq j hj (hts _ hw) (bz_same_use hts hsm) hfin (hty j hj) g2 g3 hlen hd KK
  · exact va_putF (D := nD N) C.1.1 C.1.2.2.1 hts hin (bz_tyf c) hty hnm C.1.2.2.2.2.2.1 C.2.2.2.2.1 hR.2 bz_ws_D hS (a - 16) he hq j hj (hts _ hw) (bz_same_use hts hsm) hfin (C.1.2.2.2.2.2.2.1.trans hini) hdecl (hty j hj) g2 g3 hlen hd KK
theorem bz_arr {N : bz_N} {μ : bz_M} {a t : Nat} (hT : gT μ a = t) (h : 20 ≤ t) : bz_ce N μ a = .inl (nC N t, bz_nn μ a, bz_da N μ a t) := by
  unfold bz_ce
  rw [hT, if_neg (by omega)]
theorem bz_gN_eq (μ : bz_M) (a : Nat) : gN μ a = (bz_nn μ a : Int) := rfl
/-- an outside cell's tag -/
theorem bz_out {N : bz_N} {μ : bz_M} {U : State} {H0 : Heap} (hO : bz_OK N μ) (hE : bz_E N U H0) {a t : Nat} (hT : gT μ a = t) (ht : t = 21 ∨ t = 28 ∨ t = 29) : a < 16 ∧ a ≠ 15 ∧ (nT N)[a]? = some (t, bz_nn μ a) := by
  have hl : a < μ.1.length := bz_gT_len (by omega)
  have ha : a < 16 := by
    rcases Nat.lt_or_ge a 16 with q | q
    · exact q
    · have := hO.2.2.2.2.1 a q hl
      rw [hT] at this
      rcases this with q | q | q <;> omega
  have e2 : μ.1[a]? = some μ.1[a] := List.getElem?_eq_getElem hl
  have e3 : μ.1[a] = (t, bz_nn μ a) := by
    have f1 : gT μ a = (μ.1[a]).1 := by unfold gT; rw [List.getD_eq_getElem?_getD, e2]; rfl
    have f2 : bz_nn μ a = (μ.1[a]).2 := by unfold bz_nn; rw [List.getD_eq_getElem?_getD, e2]; rfl
    rw [f2, ← hT, f1]
  have e4 : (nT N)[a]? = some (t, bz_nn μ a) := by rw [← hO.2.2.2.2.2.1 a ha, e2, e3]
  refine ⟨ha, ?_, e4⟩
  rintro rfl
  obtain ⟨-, -, -, -, -, -, -, -, -, -, -, -, -, -, -, -, -, h20⟩ := hE
  have := h20 _ e4
  dsimp only at this
  omega
end
section
/-! ARRAYS READ AND WRITTEN -/
theorem bz_i_iald {k : Nat} {N : bz_N} {i : Nat} {L : List (Option bz_V)} {st : List bz_V} {μ : bz_M} {res : bz_R} {a : Nat} {x : Int} (hT : gT μ a = 20) (h0 : 0 ≤ x) (h1 : x < gN μ a) (hd : decode (bz_b k) (bz_pc k i) = .ok (.iaload, 1)) (hp : bz_pc k (i + 1) = bz_pc k i + 1) (h : bz_H k N (i + 1) L (zI (gM μ a x) :: st) μ res) : bz_H k N i L (zI x :: zR a :: st) μ res := by
  refine ⟨h.1, ?_⟩
  intro p l e R s m args below meth c' H locs ls sv c0 s0 mc ms C a1 a2 a3 a4 a5 a6 hz hS hR hL hv
  have hE := C.2.2.2.2
  obtain ⟨w0, w1, ws, rfl, ⟨n0, rfl, e0⟩, hv1, t⟩ := bz_vs2 hv
  have ha := bz_rep_tag hR hE (a := a) (by rw [hT]; unfold bz_tg1; omega)
  have e1 := bz_vr_in hv1 (by omega)
  subst e1
  have hin : vp_in n0 (bz_nn μ a) := bz_vpin (by omega) (by rw [e0, ← bz_gN_eq]; exact h1)
  have hcl : ((n0.toNatClampNeg : Nat) : Int) = x := by rw [bz_clamp (by omega), e0]
  have he := bz_ws_get (N := N) ha
  rw [bz_arr hT (by omega)] at he
  refine va_iald (D := nD N) C.1.1 C.1.2.2.1 hE.1 hR.2 (a - 16) 0 he rfl hin hd ?_
  rw [← hp]
  exact h.2 p l e R s m args below meth c' H locs ls (_ :: ws) c0 s0 mc ms C a1 a2 a3 a4 a5 a6 hz hS hR hL ⟨⟨_, rfl, by rw [hcl]; exact bz_to (hR.1.2.1 a x)⟩, t⟩
theorem bz_i_zald {k : Nat} {N : bz_N} {i : Nat} {L : List (Option bz_V)} {st : List bz_V} {μ : bz_M} {res : bz_R} {a : Nat} {x : Int} (hT : gT μ a = 22) (h0 : 0 ≤ x) (h1 : x < gN μ a) (hd : decode (bz_b k) (bz_pc k i) = .ok (.baload, 1)) (hp : bz_pc k (i + 1) = bz_pc k i + 1) (h : bz_H k N (i + 1) L (zI (gM μ a x) :: st) μ res) : bz_H k N i L (zI x :: zR a :: st) μ res := by
  refine ⟨h.1, ?_⟩
  intro p l e R s m args below meth c' H locs ls sv c0 s0 mc ms C a1 a2 a3 a4 a5 a6 hz hS hR hL hv
  have hE := C.2.2.2.2
  obtain ⟨w0, w1, ws, rfl, ⟨n0, rfl, e0⟩, hv1, t⟩ := bz_vs2 hv
  have ha := bz_rep_tag hR hE (a := a) (by rw [hT]; unfold bz_tg1; omega)
  have e1 := bz_vr_in hv1 (by omega)
  subst e1
  have hin : vp_in n0 (bz_nn μ a) := bz_vpin (by omega) (by rw [e0, ← bz_gN_eq]; exact h1)
  have hcl : ((n0.toNatClampNeg : Nat) : Int) = x := by rw [bz_clamp (by omega), e0]
  have he := bz_ws_get (N := N) ha
  rw [bz_arr hT (by omega)] at he
  refine va_zald (D := nD N) C.1.1 C.1.2.2.1 hE.1 hR.2 (a - 16) 1 he rfl hin hd ?_
  rw [← hp]
  exact h.2 p l e R s m args below meth c' H locs ls (_ :: ws) c0 s0 mc ms C a1 a2 a3 a4 a5 a6 hz hS hR hL ⟨⟨_, rfl, by rw [hcl]; exact bz_to (hR.1.2.1 a x)⟩, t⟩
theorem bz_i_lald {k : Nat} {N : bz_N} {i : Nat} {L : List (Option bz_V)} {st : List bz_V} {μ : bz_M} {res : bz_R} {a : Nat} {x : Int} (hT : gT μ a = 23) (h0 : 0 ≤ x) (h1 : x < gN μ a) (hd : decode (bz_b k) (bz_pc k i) = .ok (.laload, 1)) (hp : bz_pc k (i + 1) = bz_pc k i + 1) (h : bz_H k N (i + 1) L (zL (gG μ a x) :: st) μ res) : bz_H k N i L (zI x :: zR a :: st) μ res := by
  refine ⟨h.1, ?_⟩
  intro p l e R s m args below meth c' H locs ls sv c0 s0 mc ms C a1 a2 a3 a4 a5 a6 hz hS hR hL hv
  have hE := C.2.2.2.2
  obtain ⟨w0, w1, ws, rfl, ⟨n0, rfl, e0⟩, hv1, t⟩ := bz_vs2 hv
  have ha := bz_rep_tag hR hE (a := a) (by rw [hT]; unfold bz_tg1; omega)
  have e1 := bz_vr_in hv1 (by omega)
  subst e1
  have hin : vp_in n0 (bz_nn μ a) := bz_vpin (by omega) (by rw [e0, ← bz_gN_eq]; exact h1)
  have hcl : ((n0.toNatClampNeg : Nat) : Int) = x := by rw [bz_clamp (by omega), e0]
  have he := bz_ws_get (N := N) ha
  rw [bz_arr hT (by omega)] at he
  refine va_lald (D := nD N) C.1.1 C.1.2.2.1 hE.1 hR.2 (a - 16) 2 he rfl hin hd ?_
  rw [← hp]
  exact h.2 p l e R s m args below meth c' H locs ls (_ :: ws) c0 s0 mc ms C a1 a2 a3 a4 a5 a6 hz hS hR hL ⟨⟨_, rfl, by rw [hcl]; exact bz_tol (hR.1.2.2.1 a x)⟩, t⟩
theorem bz_i_iald2 {k : Nat} {N : bz_N} {i : Nat} {L : List (Option bz_V)} {st : List bz_V} {μ : bz_M} {res : bz_R} {a : Nat} {x : Int} (hT : gT μ a = 21) (h0 : 0 ≤ x) (h1 : x < gN μ a) (hd : decode (bz_b k) (bz_pc k i) = .ok (.iaload, 1)) (hp : bz_pc k (i + 1) = bz_pc k i + 1) (h : bz_H k N (i + 1) L (zI (gM μ a x) :: st) μ res) : bz_H k N i L (zI x :: zR a :: st) μ res := by
  refine ⟨h.1, ?_⟩
  intro p l e R s m args below meth c' H locs ls sv c0 s0 mc ms C a1 a2 a3 a4 a5 a6 hz hS hR hL hv
  have hE := C.2.2.2.2
  obtain ⟨w0, w1, ws, rfl, ⟨n0, rfl, e0⟩, hv1, t⟩ := bz_vs2 hv
  obtain ⟨ha, ha2, hnT⟩ := bz_out hR.1 hE hT (by omega)
  have e1 := bz_vr_in hv1 ha2
  subst e1
  have hin : vp_in n0 (bz_nn μ a) := bz_vpin (by omega) (by rw [e0, ← bz_gN_eq]; exact h1)
  have hcl : ((n0.toNatClampNeg : Nat) : Int) = x := by rw [bz_clamp (by omega), e0]
  have e2 : bz_ad N a = nX N a := by unfold bz_ad; rw [if_pos ha]
  rw [e2]
  refine va_ti C.1.1 C.1.2.2.1 (hE.2.2.2.2.2.2.1 a _ ha hnT) hS hin rfl hd ?_
  rw [← hp]
  exact h.2 p l e R s m args below meth c' H locs ls (_ :: ws) c0 s0 mc ms C a1 a2 a3 a4 a5 a6 hz hS hR hL ⟨⟨_, rfl, by rw [hcl, ← (hR.1.2.2.2.2.2.2.1 a ha x).1]; exact bz_to (hR.1.2.1 a x)⟩, t⟩
theorem bz_i_bald2 {k : Nat} {N : bz_N} {i : Nat} {L : List (Option bz_V)} {st : List bz_V} {μ : bz_M} {res : bz_R} {a : Nat} {x : Int} (hT : gT μ a = 29) (h0 : 0 ≤ x) (h1 : x < gN μ a) (hd : decode (bz_b k) (bz_pc k i) = .ok (.baload, 1)) (hp : bz_pc k (i + 1) = bz_pc k i + 1) (h : bz_H k N (i + 1) L (zI (gM μ a x) :: st) μ res) : bz_H k N i L (zI x :: zR a :: st) μ res := by
  refine ⟨h.1, ?_⟩
  intro p l e R s m args below meth c' H locs ls sv c0 s0 mc ms C a1 a2 a3 a4 a5 a6 hz hS hR hL hv
  have hE := C.2.2.2.2
  obtain ⟨w0, w1, ws, rfl, ⟨n0, rfl, e0⟩, hv1, t⟩ := bz_vs2 hv
  obtain ⟨ha, ha2, hnT⟩ := bz_out hR.1 hE hT (by omega)
  have e1 := bz_vr_in hv1 ha2
  subst e1
  have hin : vp_in n0 (bz_nn μ a) := bz_vpin (by omega) (by rw [e0, ← bz_gN_eq]; exact h1)
  have hcl : ((n0.toNatClampNeg : Nat) : Int) = x := by rw [bz_clamp (by omega), e0]
  have e2 : bz_ad N a = nX N a := by unfold bz_ad; rw [if_pos ha]
  rw [e2]
  refine va_tb C.1.1 C.1.2.2.1 (hE.2.2.2.2.2.2.2.1 a _ ha hnT) hS hin rfl hd ?_
  rw [← hp]
  exact h.2 p l e R s m args below meth c' H locs ls (_ :: ws) c0 s0 mc ms C a1 a2 a3 a4 a5 a6 hz hS hR hL ⟨⟨_, rfl, by rw [hcl, ← (hR.1.2.2.2.2.2.2.1 a ha x).1]; exact bz_to (hR.1.2.1 a x)⟩, t⟩
theorem bz_i_aald {k : Nat} {N : bz_N} {i : Nat} {L : List (Option bz_V)} {st : List bz_V} {μ : bz_M} {res : bz_R} {a tt : Nat} {x : Int} (hT : gT μ a = tt) (htt : 24 ≤ tt ∧ tt ≤ 27) (h0 : 0 ≤ x) (h1 : x < gN μ a) (hnz : gP μ a x ≠ 0) (hd : decode (bz_b k) (bz_pc k i) = .ok (.aaload, 1)) (hp : bz_pc k (i + 1) = bz_pc k i + 1) (h : bz_H k N (i + 1) L (zR (gP μ a x) :: st) μ res) : bz_H k N i L (zI x :: zR a :: st) μ res := by
  refine ⟨h.1, ?_⟩
  intro p l e R s m args below meth c' H locs ls sv c0 s0 mc ms C a1 a2 a3 a4 a5 a6 hz hS hR hL hv
  have hE := C.2.2.2.2
  obtain ⟨w0, w1, ws, rfl, ⟨n0, rfl, e0⟩, hv1, t⟩ := bz_vs2 hv
  have ha := bz_rep_tag hR hE (a := a) (by rw [hT]; unfold bz_tg1; omega)
  have e1 := bz_vr_in hv1 (by omega)
  subst e1
  have hin : vp_in n0 (bz_nn μ a) := bz_vpin (by omega) (by rw [e0, ← bz_gN_eq]; exact h1)
  have hcl : ((n0.toNatClampNeg : Nat) : Int) = x := by rw [bz_clamp (by omega), e0]
  have he := bz_ws_get (N := N) ha
  rw [bz_arr hT (by omega)] at he
  have hda : bz_da N μ a tt = .inr (.inr (.inr (.inr (fun j => bz_rf N (gP μ a j))))) := by unfold bz_da; rw [if_neg (by omega), if_neg (by omega)]
  rw [hda] at he
  have hval : va_rf (bz_rf N (gP μ a ((n0.toNatClampNeg : Nat) : Int))) = .ref (bz_ad N (gP μ a x)) := by rw [hcl]; unfold bz_rf; rw [if_neg hnz]; rfl
  have K := h.2 p l e R s m args below meth c' H locs ls (_ :: ws) c0 s0 mc ms C a1 a2 a3 a4 a5 a6 hz hS hR hL ⟨bz_vr_mk, t⟩
  rw [hp, ← hval] at K
  rcases (show tt = 24 ∨ tt = 25 ∨ tt = 26 ∨ tt = 27 by omega) with rfl | rfl | rfl | rfl
  · exact va_aldq (D := nD N) C.1.1 C.1.2.2.1 hE.1 hR.2 (a - 16) 3 he rfl hin hd K
  · exact va_aldq (D := nD N) C.1.1 C.1.2.2.1 hE.1 hR.2 (a - 16) 4 he rfl hin hd K
  · exact va_aldq (D := nD N) C.1.1 C.1.2.2.1 hE.1 hR.2 (a - 16) 5 he rfl hin hd K
  · exact va_aldq (D := nD N) C.1.1 C.1.2.2.1 hE.1 hR.2 (a - 16) 6 he rfl hin hd K
theorem bz_i_alen {k : Nat} {N : bz_N} {i : Nat} {L : List (Option bz_V)} {st : List bz_V} {μ : bz_M} {res : bz_R} {a : Nat} (hT : 20 ≤ gT μ a ∧ gT μ a ≠ 28) (hd : decode (bz_b k) (bz_pc k i) = .ok (.arraylength, 1)) (hp : bz_pc k (i + 1) = bz_pc k i + 1) (h : bz_H k N (i + 1) L (zI (gN μ a) :: st) μ res) : bz_H k N i L (zR a :: st) μ res := by
  refine ⟨h.1, ?_⟩
  intro p l e R s m args below meth c' H locs ls sv c0 s0 mc ms C a1 a2 a3 a4 a5 a6 hz hS hR hL hv
  have hE := C.2.2.2.2
  obtain ⟨w1, ws, rfl, hv1, t⟩ := bz_vs1 hv
  have hn := hR.1.2.2.2.2.2.2.2 a
  have hval : (Int32.ofNat (bz_nn μ a)).toInt = gN μ a := by rw [Int32.toInt_ofNat_of_lt (by omega)]; rfl
  have K := h.2 p l e R s m args below meth c' H locs ls (.int (Int32.ofNat (bz_nn μ a)) :: ws) c0 s0 mc ms C a1 a2 a3 a4 a5 a6 hz hS hR hL ⟨⟨_, rfl, hval⟩, t⟩
  rw [hp] at K
  by_cases hx : gT μ a = 21 ∨ gT μ a = 29
  · obtain ⟨ha, ha2, hnT⟩ := bz_out hR.1 hE (a := a) rfl (by omega)
    have e1 := bz_vr_in hv1 ha2
    subst e1
    have e2 : bz_ad N a = nX N a := by unfold bz_ad; rw [if_pos ha]
    rw [e2]
    rcases hx with hx | hx
    · rw [hx] at hnT
      exact va_tlen C.1.1 C.1.2.2.1 (hE.2.2.2.2.2.2.1 a _ ha hnT) hS rfl hd K
    · rw [hx] at hnT
      exact va_tlen C.1.1 C.1.2.2.1 (hE.2.2.2.2.2.2.2.1 a _ ha hnT) hS rfl hd K
  · have hlt : a < μ.1.length := bz_gT_len (by omega)
    have ha : 16 ≤ a ∧ a < μ.1.length := by
      refine ⟨?_, hlt⟩
      rcases Nat.lt_or_ge a 16 with q | q
      · have e2 : μ.1[a]? = some μ.1[a] := List.getElem?_eq_getElem hlt
        have f1 : gT μ a = (μ.1[a]).1 := by unfold gT; rw [List.getD_eq_getElem?_getD, e2]; rfl
        obtain ⟨-, -, -, -, -, -, -, -, -, h13, -⟩ := hE
        have := h13 a _ q ((hR.1.2.2.2.2.2.1 a q).symm.trans e2)
        omega
      · exact q
    have e1 := bz_vr_in hv1 (by omega)
    subst e1
    have he := bz_ws_get (N := N) ha
    rw [bz_arr rfl hT.1] at he
    have ht := hR.1.2.2.2.2.1 a ha.1 ha.2
    have ht2 : gT μ a = 20 ∨ gT μ a = 22 ∨ gT μ a = 23 ∨ gT μ a = 24 ∨ gT μ a = 25 ∨ gT μ a = 26 ∨ gT μ a = 27 := by
      rcases ht with q | q | q <;> omega
    rcases ht2 with q | q | q | q | q | q | q <;> rw [q] at he
    · exact va_alen (D := nD N) C.1.1 C.1.2.2.1 hE.1 hR.2 (a - 16) 0 he rfl rfl hd K
    · exact va_alen (D := nD N) C.1.1 C.1.2.2.1 hE.1 hR.2 (a - 16) 1 he rfl rfl hd K
    · exact va_alen (D := nD N) C.1.1 C.1.2.2.1 hE.1 hR.2 (a - 16) 2 he rfl rfl hd K
    · exact va_alen (D := nD N) C.1.1 C.1.2.2.1 hE.1 hR.2 (a - 16) 3 he rfl rfl hd K
    · exact va_alen (D := nD N) C.1.1 C.1.2.2.1 hE.1 hR.2 (a - 16) 4 he rfl rfl hd K
    · exact va_alen (D := nD N) C.1.1 C.1.2.2.1 hE.1 hR.2 (a - 16) 5 he rfl rfl hd K
    · exact va_alen (D := nD N) C.1.1 C.1.2.2.1 hE.1 hR.2 (a - 16) 6 he rfl rfl hd K
theorem bz_i_iast {k : Nat} {N : bz_N} {i : Nat} {L : List (Option bz_V)} {st : List bz_V} {μ : bz_M} {res : bz_R} {a : Nat} {x v : Int} (hT : gT μ a = 20) (h0 : 0 ≤ x) (h1 : x < gN μ a) (hd : decode (bz_b k) (bz_pc k i) = .ok (.iastore, 1)) (hp : bz_pc k (i + 1) = bz_pc k i + 1) (h : bz_H k N (i + 1) L st (sM μ a x v) res) : bz_H k N i L (zI v :: zI x :: zR a :: st) μ res := by
  refine ⟨h.1, ?_⟩
  intro p l e R s m args below meth c' H locs ls sv c0 s0 mc ms C a1 a2 a3 a4 a5 a6 hz hS hR hL hv
  have hE := C.2.2.2.2
  obtain ⟨wv, w0, w1, ws, rfl, hvv, ⟨n0, rfl, e0⟩, hv1, t⟩ := bz_vs3 hv
  have ha := bz_rep_tag hR hE (a := a) (by rw [hT]; unfold bz_tg1; omega)
  have e1 := bz_vr_in hv1 (by omega)
  subst e1
  obtain ⟨nv, rfl, ev⟩ := hvv
  have hin : vp_in n0 (bz_nn μ a) := bz_vpin (by omega) (by rw [e0, ← bz_gN_eq]; exact h1)
  have hcl : ((n0.toNatClampNeg : Nat) : Int) = x := by rw [bz_clamp (by omega), e0]
  have he := bz_ws_get (N := N) ha
  rw [bz_arr hT (by omega)] at he
  have hT' : gT (sM μ a x v) a = 20 := hT
  have hset : ∀ f9 : Nat → Int32, (∀ j : Nat, f9 j = Int32.ofInt (gM (sM μ a x v) a (j : Int))) → (bz_ws N μ).set (a - 16) (bz_ad N a, .inl (nC N 20, bz_nn μ a, .inl f9)) = bz_ws N (sM μ a x v) := by
    intro f9 hf9
    have hc : bz_ce N (sM μ a x v) a = .inl (nC N 20, bz_nn μ a, .inl f9) := by
      rw [bz_arr hT' (by omega)]
      have : f9 = fun j : Nat => Int32.ofInt (gM (sM μ a x v) a (j : Int)) := funext hf9
      rw [this]
      rfl
    rw [← hc]
    exact bz_ws_set ha rfl fun b hb => bz_ce_congr rfl (fun q => by simp [sM, gM, hb]) (fun q => by simp [sM, gP, hb]) (fun q => by simp [sM, gG, hb])
  refine va_iast (D := nD N) C.1.1 C.1.2.2.1 hE.1 hR.2 bz_ws_D hS (a - 16) 0 he rfl hin hd fun H1 locs1 hP1 hD1 hS1 => ?_
  rw [hset _ fun j => ?_] at hP1
  · rw [← hp]
    exact h.2 p l e R s m args below meth c' H1 locs1 ls ws c0 s0 mc ms C a1 a2 a3 a4 a5 a6 hz hS1 ⟨bz_OK_sM hR.1 ha (by rw [← ev]; exact r32_of nv), hP1⟩ hL t
  · show (if j = n0.toNatClampNeg then nv else Int32.ofInt (gM μ a (j : Int))) = Int32.ofInt (if a = a ∧ (j : Int) = x then v else gM μ a (j : Int))
    by_cases hj : j = n0.toNatClampNeg
    · rw [if_pos hj, if_pos ⟨rfl, by rw [hj]; exact hcl⟩, ← ev, Int32.ofInt_toInt]
    · rw [if_neg hj, if_neg (by omega)]
theorem bz_i_zast {k : Nat} {N : bz_N} {i : Nat} {L : List (Option bz_V)} {st : List bz_V} {μ : bz_M} {res : bz_R} {a : Nat} {x v : Int} (hT : gT μ a = 22) (h0 : 0 ≤ x) (h1 : x < gN μ a) (hv01 : v = 0 ∨ v = 1) (hd : decode (bz_b k) (bz_pc k i) = .ok (.bastore, 1)) (hp : bz_pc k (i + 1) = bz_pc k i + 1) (h : bz_H k N (i + 1) L st (sM μ a x v) res) : bz_H k N i L (zI v :: zI x :: zR a :: st) μ res := by
  refine ⟨h.1, ?_⟩
  intro p l e R s m args below meth c' H locs ls sv c0 s0 mc ms C a1 a2 a3 a4 a5 a6 hz hS hR hL hv
  have hE := C.2.2.2.2
  obtain ⟨wv, w0, w1, ws, rfl, hvv, ⟨n0, rfl, e0⟩, hv1, t⟩ := bz_vs3 hv
  have ha := bz_rep_tag hR hE (a := a) (by rw [hT]; unfold bz_tg1; omega)
  have e1 := bz_vr_in hv1 (by omega)
  subst e1
  obtain ⟨nv, rfl, ev⟩ := hvv
  have hin : vp_in n0 (bz_nn μ a) := bz_vpin (by omega) (by rw [e0, ← bz_gN_eq]; exact h1)
  have hcl : ((n0.toNatClampNeg : Nat) : Int) = x := by rw [bz_clamp (by omega), e0]
  have he := bz_ws_get (N := N) ha
  rw [bz_arr hT (by omega)] at he
  have hT' : gT (sM μ a x v) a = 22 := hT
  have hset : ∀ f9 : Nat → Int32, (∀ j : Nat, f9 j = Int32.ofInt (gM (sM μ a x v) a (j : Int))) → (bz_ws N μ).set (a - 16) (bz_ad N a, .inl (nC N 22, bz_nn μ a, .inl f9)) = bz_ws N (sM μ a x v) := by
    intro f9 hf9
    have hc : bz_ce N (sM μ a x v) a = .inl (nC N 22, bz_nn μ a, .inl f9) := by
      rw [bz_arr hT' (by omega)]
      have : f9 = fun j : Nat => Int32.ofInt (gM (sM μ a x v) a (j : Int)) := funext hf9
      rw [this]
      rfl
    rw [← hc]
    exact bz_ws_set ha rfl fun b hb => bz_ce_congr rfl (fun q => by simp [sM, gM, hb]) (fun q => by simp [sM, gP, hb]) (fun q => by simp [sM, gG, hb])
  refine va_zast (D := nD N) C.1.1 C.1.2.2.1 hE.1 hR.2 bz_ws_D hS (a - 16) 1 he rfl hin hd fun H1 locs1 hP1 hD1 hS1 => ?_
  rw [hset _ fun j => ?_] at hP1
  · rw [← hp]
    exact h.2 p l e R s m args below meth c' H1 locs1 ls ws c0 s0 mc ms C a1 a2 a3 a4 a5 a6 hz hS1 ⟨bz_OK_sM hR.1 ha (by rw [← ev]; exact r32_of nv), hP1⟩ hL t
  · show (if j = n0.toNatClampNeg then vp_nar .boolean nv else Int32.ofInt (gM μ a (j : Int))) = Int32.ofInt (if a = a ∧ (j : Int) = x then v else gM μ a (j : Int))
    by_cases hj : j = n0.toNatClampNeg
    · rw [if_pos hj, if_pos ⟨rfl, by rw [hj]; exact hcl⟩, ← ev, Int32.ofInt_toInt]
      rcases hv01 with q | q
      · rw [(bz_eq0 nv 0).mpr (by rw [ev, q]; rfl)]; rfl
      · rw [(bz_eq0 nv 1).mpr (by rw [ev, q]; rfl)]; rfl
    · rw [if_neg hj, if_neg (by omega)]
theorem bz_i_last {k : Nat} {N : bz_N} {i : Nat} {L : List (Option bz_V)} {st : List bz_V} {μ : bz_M} {res : bz_R} {a : Nat} {x v : Int} (hT : gT μ a = 23) (h0 : 0 ≤ x) (h1 : x < gN μ a) (hd : decode (bz_b k) (bz_pc k i) = .ok (.lastore, 1)) (hp : bz_pc k (i + 1) = bz_pc k i + 1) (h : bz_H k N (i + 1) L st (sG μ a x v) res) : bz_H k N i L (zL v :: zI x :: zR a :: st) μ res := by
  refine ⟨h.1, ?_⟩
  intro p l e R s m args below meth c' H locs ls sv c0 s0 mc ms C a1 a2 a3 a4 a5 a6 hz hS hR hL hv
  have hE := C.2.2.2.2
  obtain ⟨wv, w0, w1, ws, rfl, hvv, ⟨n0, rfl, e0⟩, hv1, t⟩ := bz_vs3 hv
  have ha := bz_rep_tag hR hE (a := a) (by rw [hT]; unfold bz_tg1; omega)
  have e1 := bz_vr_in hv1 (by omega)
  subst e1
  obtain ⟨nv, rfl, ev⟩ := hvv
  have hin : vp_in n0 (bz_nn μ a) := bz_vpin (by omega) (by rw [e0, ← bz_gN_eq]; exact h1)
  have hcl : ((n0.toNatClampNeg : Nat) : Int) = x := by rw [bz_clamp (by omega), e0]
  have he := bz_ws_get (N := N) ha
  rw [bz_arr hT (by omega)] at he
  have hT' : gT (sG μ a x v) a = 23 := hT
  have hset : ∀ f9 : Nat → Int64, (∀ j : Nat, f9 j = Int64.ofInt (gG (sG μ a x v) a (j : Int))) → (bz_ws N μ).set (a - 16) (bz_ad N a, .inl (nC N 23, bz_nn μ a, .inr (.inl f9))) = bz_ws N (sG μ a x v) := by
    intro f9 hf9
    have hc : bz_ce N (sG μ a x v) a = .inl (nC N 23, bz_nn μ a, .inr (.inl f9)) := by
      rw [bz_arr hT' (by omega)]
      have : f9 = fun j : Nat => Int64.ofInt (gG (sG μ a x v) a (j : Int)) := funext hf9
      rw [this]
      rfl
    rw [← hc]
    exact bz_ws_set ha rfl fun b hb => bz_ce_congr rfl (fun q => by simp [sG, gM, hb]) (fun q => by simp [sG, gP, hb]) (fun q => by simp [sG, gG, hb])
  refine va_last (D := nD N) C.1.1 C.1.2.2.1 hE.1 hR.2 bz_ws_D hS (a - 16) 2 he rfl hin hd fun H1 locs1 hP1 hD1 hS1 => ?_
  rw [hset _ fun j => ?_] at hP1
  · rw [← hp]
    exact h.2 p l e R s m args below meth c' H1 locs1 ls ws c0 s0 mc ms C a1 a2 a3 a4 a5 a6 hz hS1 ⟨bz_OK_sG hR.1 ha (by rw [← ev]; exact r64_of nv), hP1⟩ hL t
  · show (if j = n0.toNatClampNeg then nv else Int64.ofInt (gG μ a (j : Int))) = Int64.ofInt (if a = a ∧ (j : Int) = x then v else gG μ a (j : Int))
    by_cases hj : j = n0.toNatClampNeg
    · rw [if_pos hj, if_pos ⟨rfl, by rw [hj]; exact hcl⟩, ← ev, Int64.ofInt_toInt]
    · rw [if_neg hj, if_neg (by omega)]
end
section
/-! CELLS MADE; REFERENCES STORED; ENDS -/
theorem bz_low {N : bz_N} {μ : bz_M} {H : Heap} {H0 : Heap} {locs : List Loc} (hR : bz_Rep N μ H) (hb : nB N ≤ H0.size) (hS : va_S (bz_A N) H0 H locs) : nB N + (μ.1.length - 16) ≤ H.size := by
  have h16 := hR.1.1
  rcases Nat.lt_or_ge 16 μ.1.length with q | q
  · have h := bz_ws_get (N := N) (μ := μ) (a := μ.1.length - 1) (by omega)
    have h2 := (hR.2 _ _ h).lt
    dsimp only at h2
    unfold bz_ad at h2
    rw [if_neg (by omega)] at h2
    omega
  · have := hS.1
    omega
theorem bz_ws_push {N : bz_N} {μ : bz_M} {t n : Nat} (h : 16 ≤ μ.1.length) : bz_ws N (sA μ t n) = bz_ws N μ ++ [(nB N + (μ.1.length - 16), bz_ce N (sA μ t n) μ.1.length)] := by
  have hl : (sA μ t n).1.length = μ.1.length + 1 := by simp [sA]
  unfold bz_ws
  rw [hl, show μ.1.length + 1 - 16 = (μ.1.length - 16) + 1 by omega, List.range_succ, List.map_append]
  congr 1
  · apply List.map_congr_left
    intro i hi
    have hi := List.mem_range.mp hi
    have e : (sA μ t n).1.getD (i + 16) (0, 0) = μ.1.getD (i + 16) (0, 0) := by
      show (μ.1 ++ _).getD _ _ = _
      rw [List.getD_eq_getElem?_getD, List.getD_eq_getElem?_getD, List.getElem?_append_left (by omega)]
    have e1 : gT (sA μ t n) (i + 16) = gT μ (i + 16) := by unfold gT; rw [e]
    have e2 : bz_nn (sA μ t n) (i + 16) = bz_nn μ (i + 16) := by unfold bz_nn; rw [e]
    have e3 : bz_ce N (sA μ t n) (i + 16) = bz_ce N μ (i + 16) := by
      unfold bz_ce bz_da bz_fv
      simp only [e1, e2]
      rfl
    rw [e3]
  · simp only [List.map_cons, List.map_nil]
    rw [show μ.1.length - 16 + 16 = μ.1.length by omega]
theorem bz_sA_at {μ : bz_M} {t n : Nat} : (sA μ t n).1.getD μ.1.length (0, 0) = (t, if 20 ≤ t then n else 0) := by
  show (μ.1 ++ _).getD _ _ = _
  rw [List.getD_eq_getElem?_getD, List.getElem?_append_right (Nat.le_refl _)]
  simp
theorem bz_OK_sA {N : bz_N} {μ : bz_M} {t n : Nat} (h : bz_OK N μ) (ht : bz_tg1 t) (hn : n ≤ 10000) : bz_OK N (sA μ t n) := by
  obtain ⟨h1, h2, h3, h4, h5, h6, h7, h8⟩ := h
  have hl : (sA μ t n).1.length = μ.1.length + 1 := by simp [sA]
  have old : ∀ b, b < μ.1.length → (sA μ t n).1.getD b (0, 0) = μ.1.getD b (0, 0) := fun b hb => by
    show (μ.1 ++ _).getD _ _ = _
    rw [List.getD_eq_getElem?_getD, List.getD_eq_getElem?_getD, List.getElem?_append_left hb]
  refine ⟨by rw [hl]; omega, h2, h3, fun b i hb => h4 b i (by rw [hl] at hb; omega), fun b hb hb2 => ?_, fun b hb => ?_, h7, fun b => ?_⟩
  · rw [hl] at hb2
    by_cases q : b < μ.1.length
    · have := h5 b hb q
      unfold gT at this ⊢
      rw [old b q]
      exact this
    · have e : b = μ.1.length := by omega
      subst e
      unfold gT
      rw [bz_sA_at]
      exact ht
  · show (μ.1 ++ _)[b]? = _
    rw [List.getElem?_append_left (by omega)]
    exact h6 b hb
  · by_cases q : b < μ.1.length
    · have := h8 b
      unfold bz_nn at this ⊢
      rw [old b q]
      exact this
    · by_cases e : b = μ.1.length
      · subst e
        unfold bz_nn
        rw [bz_sA_at]
        dsimp only
        split <;> omega
      · unfold bz_nn
        rw [List.getD_eq_getElem?_getD, List.getElem?_eq_none (by rw [hl]; omega)]
        simp
def bz_kty (κ : Nat) (ty : FieldType) : Bool := match κ, ty with
  | 0, .int => true
  | 0, .boolean => true
  | 1, .long => true
  | 2, .object _ => true
  | 2, .array _ => true
  | _, _ => false
theorem bz_kty_all : (List.range 11).all (fun c => (List.range (bz_ns c)).all fun j => bz_kty (bz_fk c j) (bz_tyf c j)) = true := by decide +kernel
theorem bz_dflt {N : bz_N} {μ : bz_M} {a c j : Nat} (hc : c < 11) (hj : j < bz_ns c) (h0 : ∀ i, gP μ a i = 0 ∧ gM μ a i = 0 ∧ gG μ a i = 0) : defaultValue (bz_tyf c j) = bz_fv N μ a (bz_fk c j) (j : Int) := by
  have h1 := List.all_eq_true.mp (List.all_eq_true.mp bz_kty_all c (List.mem_range.mpr hc)) j (List.mem_range.mpr hj)
  revert h1
  unfold bz_fv
  generalize bz_fk c j = κ
  generalize bz_tyf c j = ty
  intro h1
  unfold bz_kty at h1
  split at h1
  · rw [(h0 _).2.1]; rfl
  · rw [(h0 _).2.1]; rfl
  · rw [(h0 _).2.2]; rfl
  · rw [(h0 _).1]; rfl
  · rw [(h0 _).1]; rfl
  · cases h1
/-- behind a cell made -/
theorem bz_made {N : bz_N} {μ : bz_M} {H H1 : Heap} {t n : Nat} (hR : bz_Rep N μ H) (ht : bz_tg1 t) (hn : n ≤ 10000) (ho : ∀ q, q < H.size → H1[q]? = H[q]?) (hnew : va_at (nD N) vwCl (nB N + (μ.1.length - 16), bz_ce N (sA μ t n) μ.1.length) H1) : bz_Rep N (sA μ t n) H1 := by
  refine ⟨bz_OK_sA hR.1 ht hn, ?_⟩
  rw [bz_ws_push hR.1.1]
  refine va_P.app (fun k x hx => (hR.2 k x hx).kept (ho x.1 ((hR.2 k x hx).lt))) (fun k x hx => ?_)
  have hz : k < 1 := (List.getElem?_eq_some_iff.mp hx).1
  rw [show k = 0 by omega] at hx
  cases hx
  exact hnew
theorem bz_S_push {N : bz_N} {H0 H H1 : Heap} {locs : List Loc} (hS : va_S (bz_A N) H0 H locs) (hz : H1.size = H.size + 1) (ho : ∀ q, q < H.size → H1[q]? = H[q]?) : va_S (bz_A N) H0 H1 locs :=
  ⟨Nat.le_trans hS.1 (by omega), fun x h1 h2 => (ho x (Nat.lt_of_lt_of_le h1 hS.1)).trans (hS.2.1 x h1 h2), hS.2.2⟩
theorem bz_i_new {k : Nat} {N : bz_N} {i : Nat} {L : List (Option bz_V)} {st : List bz_V} {μ : bz_M} {res : bz_R} {c idx : Nat} (hc : 1 ≤ c ∧ c ≤ 10) (hcl : bz_cl μ) (hd : decode (bz_b k) (bz_pc k i) = .ok (.new idx, 3)) (hp : bz_pc k (i + 1) = bz_pc k i + 3)
    (hw1 : Cond.classLink (bz_ow k) idx (bz_cn1 c) ∈ bz_W) (hw2 : Cond.instantiable (bz_cn1 c) (bz_ns c) ∈ bz_W) (hw3 : Cond.initialized (bz_cn1 c) ∈ bz_W) (h : bz_H k N (i + 1) L (zR μ.1.length :: st) (sA μ c (bz_ns c)) res) : bz_H k N i L st μ res := by
  have hC1 : C1 (sA μ c (bz_ns c)) = C1 μ + 1 := rfl
  have hC2 : C2 (sA μ c (bz_ns c)) = C2 μ + bz_ns c := rfl
  refine ⟨⟨by have := h.1.1; omega, by have := h.1.2; omega⟩, ?_⟩
  intro p l e R s m args below meth c' H locs ls sv c0 s0 mc ms C a1 a2 a3 a4 a5 a6 hz hS hR hL hv
  intro T hT X
  have hup := X.heapSize
  have hlo := bz_low hR C.2.2.2.1 hS
  have hts := C.1.2.2.2.2.2.2.2.2.1
  have hE := C.2.2.2.2
  have h16 := hR.1.1
  have hcl' : C1 μ + 16 = μ.1.length := hcl
  have hsz : H.size = nB N + (μ.1.length - 16) := by rw [hT] at hup; omega
  obtain ⟨F0', F, hq, hty, hnm, hcn, hin, hfd⟩ := bz_cls hc.1 hc.2
  have hns : bz_ns c ≤ 33 := by
    rcases (show c = 1 ∨ c = 2 ∨ c = 3 ∨ c = 4 ∨ c = 5 ∨ c = 6 ∨ c = 7 ∨ c = 8 ∨ c = 9 ∨ c = 10 by omega) with rfl | rfl | rfl | rfl | rfl | rfl | rfl | rfl | rfl | rfl <;> decide
  have hKn := hE.1.1 _ _ hq
  dsimp only at hKn
  have m1 := h.1.1
  have m2 := h.1.2
  have g : W p l e R s m args below meth c' H locs (C1 μ - c0) (C2 μ - s0) (vx_MQ below (bz_Qc k N res) (bz_XC N res) args s mc ms (bz_A N)) (F0 m (bz_pc k i) ls sv) := by
    refine W.newcK C.1.1 C.1.2.2.1 C.1.2.2.2.2.2.1 (hts _ hw1) (hts _ hw2) (hts _ hw3) rfl hd (by omega) (by omega) (by rw [← hcn]; exact hKn.2.1) rfl fun H1 kC hkC e1 z1 o1 => ?_
    have K := h.2 p l e R s m args below meth c' H1 locs ls (.ref H.size :: sv) c0 s0 mc ms C (by omega) (by omega) a3 a4 a5 a6 hz (bz_S_push hS z1 o1) (bz_made hR (Or.inl hc) (by omega) o1 ?_) hL ⟨?_, hv⟩
    · rw [hp, hC1, hC2, show C1 μ + 1 - c0 = C1 μ - c0 + 1 by omega, show C2 μ + bz_ns c - s0 = C2 μ - s0 + bz_ns c by omega] at K
      exact K
    · have hce : bz_ce N (sA μ c (bz_ns c)) μ.1.length = .inr (c - 1, (List.range (bz_ns c)).map fun j => bz_fv N (sA μ c (bz_ns c)) μ.1.length (bz_fk c j) (j : Int)) := bz_ce_obj (by unfold gT; rw [bz_sA_at]) hc.2
      rw [hce]
      refine ⟨_, hq, ?_⟩
      dsimp only
      rw [← hsz]
      refine (u_born (bz_tyf c) hts hin hKn hkC e1 hty).to fun j hj => ?_
      rw [bz_dflt (N := N) (μ := sA μ c (bz_ns c)) (a := μ.1.length) (by omega) hj (fun q => hR.1.2.2.2.1 _ q (Nat.le_refl _))]
      unfold vp_V
      rw [List.getD_eq_getElem?_getD, bz_fs_get hj]
      rfl
    · rw [hsz]
      have : bz_ad N μ.1.length = nB N + (μ.1.length - 16) := by unfold bz_ad; rw [if_neg (by omega)]
      rw [← this]
      exact bz_vr_mk
  exact g T hT X
end
section
/-! ARRAYS MADE -/
theorem bz_mkarr {N : bz_N} {μ : bz_M} {H H1 : Heap} {t n : Nat} {cA : ClassId} {ty : FieldType} (hR : bz_Rep N μ H) (ht : t = 20 ∨ (22 ≤ t ∧ t ≤ 27)) (hn : n ≤ 10000) (hsz : H.size = nB N + (μ.1.length - 16)) (o1 : ∀ q, q < H.size → H1[q]? = H[q]?) (hcA : cA = nC N t)
    (e1 : H1[H.size]? = some (arrV cA n (fun _ => defaultValue ty))) (hty : (t < 23 ∧ (ty = .int ∨ ty = .boolean)) ∨ (t = 23 ∧ ty = .long) ∨ (24 ≤ t ∧ ∃ C, ty = .object C)) : bz_Rep N (sA μ t n) H1 := by
  refine bz_made hR (by rcases ht with rfl | ht; exact Or.inr (Or.inl rfl); exact Or.inr (Or.inr ht)) hn o1 ?_
  have h0 : ∀ q, gP (sA μ t n) μ.1.length q = 0 ∧ gM (sA μ t n) μ.1.length q = 0 ∧ gG (sA μ t n) μ.1.length q = 0 := fun q => hR.1.2.2.2.1 _ q (Nat.le_refl _)
  have hce : bz_ce N (sA μ t n) μ.1.length = .inl (nC N t, n, bz_da N (sA μ t n) μ.1.length t) := by
    rw [bz_arr (t := t) (by unfold gT; rw [bz_sA_at]) (by omega)]
    have : bz_nn (sA μ t n) μ.1.length = n := by unfold bz_nn; rw [bz_sA_at]; dsimp only; rw [if_pos (by omega)]
    rw [this]
  rw [hce, ← hsz, ← hcA]
  show H1[H.size]? = some (vp_cell cA (n, bz_da N (sA μ t n) μ.1.length t))
  rw [e1]
  congr 1
  rcases hty with ⟨q, hty⟩ | ⟨q, hty⟩ | ⟨q, C, hty⟩
  · have hda : bz_da N (sA μ t n) μ.1.length t = .inl (fun _ => 0) := by
      unfold bz_da
      rw [if_pos q]
      congr 1
      funext j
      rw [(h0 _).2.1]
      rfl
    rw [hda, vp_cell_i]
    rcases hty with rfl | rfl <;> rfl
  · have hda : bz_da N (sA μ t n) μ.1.length t = .inr (.inl (fun _ => 0)) := by
      unfold bz_da
      rw [if_neg (by omega), if_pos q]
      congr 2
      funext j
      rw [(h0 _).2.2]
      rfl
    rw [hda, vp_cell_l, hty]
    rfl
  · have hda : bz_da N (sA μ t n) μ.1.length t = .inr (.inr (.inr (.inr (fun _ => none)))) := by
      unfold bz_da
      rw [if_neg (by omega), if_neg (by omega)]
      congr 4
      funext j
      rw [(h0 _).1]
      rfl
    rw [hda, vp_cell_q, hty]
    rfl
theorem bz_i_newarr {k : Nat} {N : bz_N} {i : Nat} {L : List (Option bz_V)} {st : List bz_V} {μ : bz_M} {res : bz_R} {x : Int} {t : Nat} {atype : ArrayType} {ty : FieldType} (hty : newarray.typeOf atype = ty) (ht : (t = 20 ∧ ty = .int) ∨ (t = 22 ∧ ty = .boolean) ∨ (t = 23 ∧ ty = .long)) (hcl : bz_cl μ) (h0 : 0 ≤ x) (hx : x ≤ 10000)
    (hd : decode (bz_b k) (bz_pc k i) = .ok (.newarray atype, 2)) (hp : bz_pc k (i + 1) = bz_pc k i + 2) (hw : Cond.arrayClass ty ∈ bz_W) (h : bz_H k N (i + 1) L (zR μ.1.length :: st) (sA μ t x.toNat) res) : bz_H k N i L (zI x :: st) μ res := by
  have hC1 : C1 (sA μ t x.toNat) = C1 μ + 1 := rfl
  have hC2 : C2 (sA μ t x.toNat) = C2 μ + x.toNat := rfl
  refine ⟨⟨by have := h.1.1; omega, by have := h.1.2; omega⟩, ?_⟩
  intro p l e R s m args below meth c' H locs ls sv c0 s0 mc ms C a1 a2 a3 a4 a5 a6 hz hS hR hL hv
  intro T hT X
  have hup := X.heapSize
  have hlo := bz_low hR C.2.2.2.1 hS
  have hts := C.1.2.2.2.2.2.2.2.2.1
  have hE := C.2.2.2.2
  have h16 := hR.1.1
  have hcl' : C1 μ + 16 = μ.1.length := hcl
  have hsz : H.size = nB N + (μ.1.length - 16) := by rw [hT] at hup; omega
  obtain ⟨w1, ws, rfl, ⟨n0, rfl, e0⟩, t9⟩ := bz_vs1 hv
  have m1 := h.1.1
  have m2 := h.1.2
  have hnn : n0.toNatClampNeg = x.toNat := by
    have := bz_clamp (a := n0) (by omega)
    omega
  have hneg : ¬ n0 < 0 := fun q => by
    have := (bz_lt0 n0 0).mp q
    rw [e0, bz_z] at this
    omega
  have g : W p l e R s m args below meth c' H locs (C1 μ - c0) (C2 μ - s0) (vx_MQ below (bz_Qc k N res) (bz_XC N res) args s mc ms (bz_A N)) (F0 m (bz_pc k i) ls (.int n0 :: ws)) := by
    have hb4 : ∀ ty' : FieldType, (ty' = .int ∨ ty' = .boolean ∨ ty' = .long) → x.toNat * componentBytes ty' ≤ 536870912 := by
      intro ty' hq
      have hcb : componentBytes ty' ≤ 8 := by rcases hq with rfl | rfl | rfl <;> decide
      have : x.toNat * componentBytes ty' ≤ x.toNat * 8 := Nat.mul_le_mul_left _ hcb
      omega
    refine va_newaK C.1.1 C.1.2.2.1 (atype := atype) (hts _ (by rw [hty]; exact hw)) rfl hd rfl hneg hnn (by rw [hty]; exact hb4 ty (by rcases ht with ⟨-, q⟩ | ⟨-, q⟩ | ⟨-, q⟩ <;> simp [q])) (by omega) (by omega) rfl fun H1 cA e1 z1 o1 hAr hNm => ?_
    rw [hty] at e1 hNm
    have K := h.2 p l e R s m args below meth c' H1 locs ls (.ref H.size :: ws) c0 s0 mc ms C (by omega) (by omega) a3 a4 a5 a6 hz (bz_S_push hS z1 o1) (bz_mkarr hR (by omega) (by omega) hsz o1 ?_ e1 (by rcases ht with ⟨q1, q2⟩ | ⟨q1, q2⟩ | ⟨q1, q2⟩ <;> simp [q1, q2])) hL ⟨?_, t9⟩
    · rw [hp, hC1, hC2, show C1 μ + 1 - c0 = C1 μ - c0 + 1 by omega, show C2 μ + x.toNat - s0 = C2 μ - s0 + x.toNat by omega] at K
      exact K
    · rcases ht with ⟨rfl, rfl⟩ | ⟨rfl, rfl⟩ | ⟨rfl, rfl⟩
      · exact Option.some.inj (hNm.symm.trans (hE.1.2 0 _ rfl).2)
      · exact Option.some.inj (hNm.symm.trans (hE.1.2 1 _ rfl).2)
      · exact Option.some.inj (hNm.symm.trans (hE.1.2 2 _ rfl).2)
    · rw [hsz]
      have : bz_ad N μ.1.length = nB N + (μ.1.length - 16) := by unfold bz_ad; rw [if_neg (by omega)]
      rw [← this]
      exact bz_vr_mk
  exact g T hT X
def bz_ec (t : Nat) : String := ["BarcodeEngine$Scan", "BarcodeEngine$Reading", "BarcodeEngine$Symbology", "BarcodeEngine$Tally"].getD (t - 24) ""
theorem bz_ec_in {N0 : bz_N} {t : Nat} (h : 24 ≤ t ∧ t ≤ 27) : bz_ec t ∈ bz_ao ∧ (bz_tys N0)[t - 21]? = some (nC N0 t, .object (bz_ec t)) := by
  rcases (show t = 24 ∨ t = 25 ∨ t = 26 ∨ t = 27 by omega) with rfl | rfl | rfl | rfl
  · exact ⟨by decide +kernel, rfl⟩
  · exact ⟨by decide +kernel, rfl⟩
  · exact ⟨by decide +kernel, rfl⟩
  · exact ⟨by decide +kernel, rfl⟩
theorem bz_i_anew {k : Nat} {N : bz_N} {i : Nat} {L : List (Option bz_V)} {st : List bz_V} {μ : bz_M} {res : bz_R} {x : Int} {t idx : Nat} (ht : 24 ≤ t ∧ t ≤ 27) (hcl : bz_cl μ) (h0 : 0 ≤ x) (hx : x ≤ 10000)
    (hd : decode (bz_b k) (bz_pc k i) = .ok (.anewarray idx, 3)) (hp : bz_pc k (i + 1) = bz_pc k i + 3) (hw : Cond.classLink (bz_ow k) idx (bz_ec t) ∈ bz_W) (h : bz_H k N (i + 1) L (zR μ.1.length :: st) (sA μ t x.toNat) res) : bz_H k N i L (zI x :: st) μ res := by
  have hC1 : C1 (sA μ t x.toNat) = C1 μ + 1 := rfl
  have hC2 : C2 (sA μ t x.toNat) = C2 μ + x.toNat := rfl
  refine ⟨⟨by have := h.1.1; omega, by have := h.1.2; omega⟩, ?_⟩
  intro p l e R s m args below meth c' H locs ls sv c0 s0 mc ms C a1 a2 a3 a4 a5 a6 hz hS hR hL hv
  intro T hT X
  have hup := X.heapSize
  have hlo := bz_low hR C.2.2.2.1 hS
  have hts := C.1.2.2.2.2.2.2.2.2.1
  have hE := C.2.2.2.2
  have h16 := hR.1.1
  have hcl' : C1 μ + 16 = μ.1.length := hcl
  have hsz : H.size = nB N + (μ.1.length - 16) := by rw [hT] at hup; omega
  obtain ⟨w1, ws, rfl, ⟨n0, rfl, e0⟩, t9⟩ := bz_vs1 hv
  have m1 := h.1.1
  have m2 := h.1.2
  have hnn : n0.toNatClampNeg = x.toNat := by
    have := bz_clamp (a := n0) (by omega)
    omega
  have hneg : ¬ n0 < 0 := fun q => by
    have := (bz_lt0 n0 0).mp q
    rw [e0, bz_z] at this
    omega
  obtain ⟨hec, hty⟩ := bz_ec_in (N0 := N) ht
  have hao : va_AO (bz_ec t) s := by
    obtain ⟨-, -, -, -, -, -, -, -, -, -, -, -, -, -, h18, -⟩ := hE
    exact h18 _ hec
  have g : W p l e R s m args below meth c' H locs (C1 μ - c0) (C2 μ - s0) (vx_MQ below (bz_Qc k N res) (bz_XC N res) args s mc ms (bz_A N)) (F0 m (bz_pc k i) ls (.int n0 :: ws)) := by
    refine W.anew C.1.1 C.1.2.2.1 C.1.2.2.2.2.2.1 (hts _ hw) (va_AO.use hao) rfl hd rfl hneg (by omega) (by omega) (by omega) fun cA kA comp f1 f2 f3 f4 => ?_
    generalize hH1 : H.push ({ cls := cA, slots := Array.replicate n0.toNatClampNeg .null, vm := .none } : Cell) = H1
    have z1 : H1.size = H.size + 1 := by rw [← hH1, Array.size_push]
    have e1 : H1[H.size]? = some (arrV cA n0.toNatClampNeg (fun _ => .null)) := by rw [← hH1, Array.getElem?_push_size, ← arrV_new]
    have o1 : ∀ q : Nat, q < H.size → H1[q]? = H[q]? := fun q hq => by rw [← hH1, Array.getElem?_push, if_neg (Nat.ne_of_lt hq)]
    rw [hnn] at e1 ⊢
    have K := h.2 p l e R s m args below meth c' H1 locs ls (.ref H.size :: ws) c0 s0 mc ms C (by omega) (by omega) a3 a4 a5 a6 hz (bz_S_push hS z1 o1) (bz_mkarr (ty := .object (bz_ec t)) hR (by omega) (by omega) hsz o1 ?_ e1 (Or.inr (Or.inr ⟨ht.1, _, rfl⟩))) hL ⟨?_, t9⟩
    · rw [hp, hC1, hC2, show C1 μ + 1 - c0 = C1 μ - c0 + 1 by omega, show C2 μ + x.toNat - s0 = C2 μ - s0 + x.toNat by omega] at K
      exact K
    · obtain ⟨kA', comp', g1, g2, g3, g4⟩ := (hE.1.2 _ _ hty).2
      exact Option.some.inj (f1.symm.trans g4)
    · rw [hsz]
      have : bz_ad N μ.1.length = nB N + (μ.1.length - 16) := by unfold bz_ad; rw [if_neg (by omega)]
      rw [← this]
      exact bz_vr_mk
  exact g T hT X
/-- a reference is stored -/
theorem bz_i_aast {k : Nat} {N : bz_N} {i : Nat} {L : List (Option bz_V)} {st : List bz_V} {μ : bz_M} {res : bz_R} {a b t : Nat} {x : Int} (hT : gT μ a = t) (ht : (t = 24 ∧ gT μ b = 6) ∨ (t = 25 ∧ gT μ b = 4) ∨ (t = 26 ∧ (gT μ b = 1 ∨ gT μ b = 2 ∨ gT μ b = 3)) ∨ (t = 27 ∧ gT μ b = 8)) (h0 : 0 ≤ x) (h1 : x < gN μ a)
    (hd : decode (bz_b k) (bz_pc k i) = .ok (.aastore, 1)) (hp : bz_pc k (i + 1) = bz_pc k i + 1) (h : bz_H k N (i + 1) L st (sP μ a x b) res) : bz_H k N i L (zR b :: zI x :: zR a :: st) μ res := by
  refine ⟨h.1, ?_⟩
  intro p l e R s m args below meth c' H locs ls sv c0 s0 mc ms C a1 a2 a3 a4 a5 a6 hz hS hR hL hv
  have hE := C.2.2.2.2
  obtain ⟨wv, w0, w1, ws, rfl, hvv, ⟨n0, rfl, e0⟩, hv1, t9⟩ := bz_vs3 hv
  have ha := bz_rep_tag hR hE (a := a) (by rw [hT]; unfold bz_tg1; omega)
  have hb := bz_rep_tag hR hE (a := b) (by unfold bz_tg1; omega)
  have e1 := bz_vr_in hv1 (by omega)
  have e2 := bz_vr_in hvv (by omega)
  subst e1 e2
  have hin : vp_in n0 (bz_nn μ a) := bz_vpin (by omega) (by rw [e0, ← bz_gN_eq]; exact h1)
  have hcl : ((n0.toNatClampNeg : Nat) : Int) = x := by rw [bz_clamp (by omega), e0]
  have he := bz_ws_get (N := N) ha
  rw [bz_arr hT (by omega)] at he
  have hda : ∀ ν : bz_M, bz_da N ν a t = .inr (.inr (.inr (.inr (fun j => bz_rf N (gP ν a j))))) := fun ν => by unfold bz_da; rw [if_neg (by omega), if_neg (by omega)]
  rw [hda] at he
  have hbT : 1 ≤ gT μ b ∧ gT μ b ≤ 10 := by omega
  obtain ⟨Cn, F, hq, -, -, hcn, -⟩ := bz_cls hbT.1 hbT.2
  have heb := bz_ws_get (N := N) hb
  rw [bz_ce_obj rfl hbT.2] at heb
  obtain ⟨hec, hty⟩ := bz_ec_in (N0 := N) (t := t) (by omega)
  have hcls := (hE.1.1 _ _ hq).2
  dsimp only at hcls
  have hany : va_Any (bz_ec t) s H (bz_ad N b) := by
    refine va_rAny (q0 := b - 16) hE.1 hR.2 heb hq fun comp c0 f1 f2 => ?_
    dsimp only at f2
    by_cases hs : Cn = bz_ec t
    · have e4 : c0 = (nD N).1 (gT μ b - 1) := Option.some.inj (f2.symm.trans hcls.1)
      have e3 : comp = (nD N).1 (gT μ b - 1) := (Option.some.inj (f1.symm.trans (by rw [← hs]; exact f2))).trans e4
      rw [e4, e3]
      exact va_assign hcls
    · have hcas : (Cn, bz_ec t) ∈ bz_cas := by
        rw [hcn] at hs ⊢
        rcases ht with ⟨rfl, q⟩ | ⟨rfl, q⟩ | ⟨rfl, q | q | q⟩ | ⟨rfl, q⟩ <;> rw [q] at hs ⊢
        · exact absurd (by decide +kernel) hs
        · exact absurd (by decide +kernel) hs
        · decide +kernel
        · decide +kernel
        · decide +kernel
        · exact absurd (by decide +kernel) hs
      obtain ⟨-, -, -, -, -, -, -, -, -, -, -, -, -, h17, -⟩ := hE
      obtain ⟨c1, t1, g1, g2, g3⟩ := Cond.castable_spec (h17 _ hcas)
      cases g1.symm.trans f2
      cases g2.symm.trans f1
      exact g3
  refine va_astqM (D := nD N) C.1.1 C.1.2.2.1 hE.1 hR.2 bz_ws_D hS (a - 16) (t - 21) he hty hany hin hd fun H1 locs1 hP1 hD1 hS1 => ?_
  have hT' : gT (sP μ a x b) a = t := hT
  have hset : (bz_ws N μ).set (a - 16) (bz_ad N a, .inl (nC N t, bz_nn μ a, .inr (.inr (.inr (.inr (va_up (fun j : Nat => bz_rf N (gP μ a (j : Int))) n0.toNatClampNeg (some (bz_ad N b)))))))) = bz_ws N (sP μ a x b) := by
    have hc : bz_ce N (sP μ a x b) a = .inl (nC N t, bz_nn μ a, .inr (.inr (.inr (.inr (va_up (fun j : Nat => bz_rf N (gP μ a (j : Int))) n0.toNatClampNeg (some (bz_ad N b))))))) := by
      have hfn : (fun j : Nat => bz_rf N (gP (sP μ a x b) a (j : Int))) = va_up (fun j : Nat => bz_rf N (gP μ a (j : Int))) n0.toNatClampNeg (some (bz_ad N b)) := by
        funext j
        unfold va_up
        show bz_rf N (if a = a ∧ (j : Int) = x then b else gP μ a (j : Int)) = _
        by_cases hj : j = n0.toNatClampNeg
        · rw [if_pos hj, if_pos ⟨rfl, by rw [hj]; exact hcl⟩]
          unfold bz_rf
          rw [if_neg (by omega)]
        · rw [if_neg hj, if_neg (by omega)]
      rw [bz_arr hT' (by omega), hda, hfn]
      rfl
    rw [← hc]
    exact bz_ws_set ha rfl fun b' hb' => bz_ce_congr rfl (fun q => by simp [sP, gM]) (fun q => by simp [sP, gP, hb']) (fun q => by simp [sP, gG])
  rw [hset] at hP1
  rw [← hp]
  exact h.2 p l e R s m args below meth c' H1 locs1 ls ws c0 s0 mc ms C a1 a2 a3 a4 a5 a6 hz hS1 ⟨bz_OK_sP hR.1 ha, hP1⟩ hL t9
end
section
/-! FIELDS BY KIND; STRINGS, STATICS, ENDS -/
theorem bz_kty_at {c j : Nat} (hc : 1 ≤ c ∧ c ≤ 10) (hj : j < bz_ns c) : bz_kty (bz_fk c j) (bz_tyf c j) = true :=
  List.all_eq_true.mp (List.all_eq_true.mp bz_kty_all c (List.mem_range.mpr (by omega))) j (List.mem_range.mpr hj)
theorem bz_kty1 {ty : FieldType} (h : bz_kty 1 ty = true) : ty = .long := by
  cases ty <;> first | rfl | (simp [bz_kty] at h)
theorem bz_kty2 {ty : FieldType} (h : bz_kty 2 ty = true) : (∃ n, ty = .object n) ∨ ∃ t, ty = .array t := by
  cases ty <;> first | exact Or.inl ⟨_, rfl⟩ | exact Or.inr ⟨_, rfl⟩ | (simp [bz_kty] at h)
theorem bz_i_getI {k : Nat} {N : bz_N} {i : Nat} {L : List (Option bz_V)} {st : List bz_V} {μ : bz_M} {res : bz_R} {a c j idx : Nat} {ref : String} (hT : gT μ a = c) (hc : 1 ≤ c ∧ c ≤ 10) (hj : j < bz_ns c) (hd : decode (bz_b k) (bz_pc k i) = .ok (.getfield idx, 3)) (hp : bz_pc k (i + 1) = bz_pc k i + 3) (hw : Cond.fieldLink (bz_ow k) idx ref (bz_fnd (c * 100 + j)).2.1 (bz_fnd (c * 100 + j)).2.2.1 ∈ bz_W) (hsm : bz_same1 ref (bz_fnd (c * 100 + j))) (hk : bz_fk c j = 0) (h : bz_H k N (i + 1) L (zI (gM μ a (j : Int)) :: st) μ res) : bz_H k N i L (zR a :: st) μ res :=
  bz_i_get hT hc hj hd hp hw hsm (fun h1 h2 => by rw [hk]; exact ⟨_, rfl, bz_to (h1 a _)⟩) h
theorem bz_i_getL {k : Nat} {N : bz_N} {i : Nat} {L : List (Option bz_V)} {st : List bz_V} {μ : bz_M} {res : bz_R} {a c j idx : Nat} {ref : String} (hT : gT μ a = c) (hc : 1 ≤ c ∧ c ≤ 10) (hj : j < bz_ns c) (hd : decode (bz_b k) (bz_pc k i) = .ok (.getfield idx, 3)) (hp : bz_pc k (i + 1) = bz_pc k i + 3) (hw : Cond.fieldLink (bz_ow k) idx ref (bz_fnd (c * 100 + j)).2.1 (bz_fnd (c * 100 + j)).2.2.1 ∈ bz_W) (hsm : bz_same1 ref (bz_fnd (c * 100 + j))) (hk : bz_fk c j = 1) (h : bz_H k N (i + 1) L (zL (gG μ a (j : Int)) :: st) μ res) : bz_H k N i L (zR a :: st) μ res :=
  bz_i_get hT hc hj hd hp hw hsm (fun h1 h2 => by rw [hk]; exact ⟨_, rfl, bz_tol (h2 a _)⟩) h
theorem bz_i_getR {k : Nat} {N : bz_N} {i : Nat} {L : List (Option bz_V)} {st : List bz_V} {μ : bz_M} {res : bz_R} {a c j idx : Nat} {ref : String} (hT : gT μ a = c) (hc : 1 ≤ c ∧ c ≤ 10) (hj : j < bz_ns c) (hd : decode (bz_b k) (bz_pc k i) = .ok (.getfield idx, 3)) (hp : bz_pc k (i + 1) = bz_pc k i + 3) (hw : Cond.fieldLink (bz_ow k) idx ref (bz_fnd (c * 100 + j)).2.1 (bz_fnd (c * 100 + j)).2.2.1 ∈ bz_W) (hsm : bz_same1 ref (bz_fnd (c * 100 + j))) (hk : bz_fk c j = 2) (hnz : gP μ a (j : Int) ≠ 0) (h : bz_H k N (i + 1) L (zR (gP μ a (j : Int)) :: st) μ res) : bz_H k N i L (zR a :: st) μ res :=
  bz_i_get hT hc hj hd hp hw hsm (fun h1 h2 => by
    rw [hk]
    show bz_vr N _ (va_rf (bz_rf N (gP μ a (j : Int))))
    unfold bz_rf
    rw [if_neg hnz]
    exact bz_vr_mk) h
theorem bz_fvM {N : bz_N} {μ : bz_M} {a κ j q : Nat} {x : Int} (h : q ≠ j) : bz_fv N (sM μ a (j : Int) x) a κ (q : Int) = bz_fv N μ a κ (q : Int) := by
  unfold bz_fv
  split
  · show Value.int (Int32.ofInt (if a = a ∧ (q : Int) = (j : Int) then x else gM μ a (q : Int))) = _
    rw [if_neg (by omega)]
  · rfl
  · rfl
theorem bz_fvG {N : bz_N} {μ : bz_M} {a κ j q : Nat} {x : Int} (h : q ≠ j) : bz_fv N (sG μ a (j : Int) x) a κ (q : Int) = bz_fv N μ a κ (q : Int) := by
  unfold bz_fv
  split
  · rfl
  · show Value.long (Int64.ofInt (if a = a ∧ (q : Int) = (j : Int) then x else gG μ a (q : Int))) = _
    rw [if_neg (by omega)]
  · rfl
theorem bz_fvP {N : bz_N} {μ : bz_M} {a κ j q : Nat} {x : Nat} (h : q ≠ j) : bz_fv N (sP μ a (j : Int) x) a κ (q : Int) = bz_fv N μ a κ (q : Int) := by
  unfold bz_fv
  split
  · rfl
  · rfl
  · show va_rf (bz_rf N (if a = a ∧ (q : Int) = (j : Int) then x else gP μ a (q : Int))) = _
    rw [if_neg (by omega)]
theorem bz_01 {n : Int32} (h : n.toInt = 0 ∨ n.toInt = 1) : n = 0 ∨ n = 1 := by
  rcases h with h | h
  · exact Or.inl ((bz_eq0 n 0).mpr h)
  · exact Or.inr ((bz_eq0 n 1).mpr h)
theorem bz_i_putI {k : Nat} {N : bz_N} {i : Nat} {L : List (Option bz_V)} {st : List bz_V} {μ : bz_M} {res : bz_R} {a c j idx : Nat} {ref : String} {x : Int} (hT : gT μ a = c) (hc : 1 ≤ c ∧ c ≤ 10) (hj : j < bz_ns c) (hd : decode (bz_b k) (bz_pc k i) = .ok (.putfield idx, 3)) (hp : bz_pc k (i + 1) = bz_pc k i + 3) (hw : Cond.fieldLink (bz_ow k) idx ref (bz_fnd (c * 100 + j)).2.1 (bz_fnd (c * 100 + j)).2.2.1 ∈ bz_W) (hsm : bz_same1 ref (bz_fnd (c * 100 + j))) (hfin : (bz_fnd (c * 100 + j)).2.2.2 = false ∨ ((bz_fnd (c * 100 + j)).2.2.2 = true ∧ (bz_y k).name = "<init>" ∧ (bz_fnd (c * 100 + j)).1 = bz_ow k)) (hk : bz_fk c j = 0) (hty : bz_tyf c j = .int ∨ (bz_tyf c j = .boolean ∧ (x = 0 ∨ x = 1))) (h : bz_H k N (i + 1) L st (sM μ a (j : Int) x) res) : bz_H k N i L (zI x :: zR a :: st) μ res := by
  refine bz_i_put (μ' := sM μ a (j : Int) x) hT hc hj hd hp hw hsm hfin ⟨rfl, rfl⟩ rfl (fun b hb => bz_ce_congr rfl (fun q => by simp [sM, gM, hb]) (fun q => by simp [sM, gP]) (fun q => by simp [sM, gG])) (fun q hq => bz_fvM hq) (fun w hw => ?_) h
  obtain ⟨n, rfl, e0⟩ := hw
  refine ⟨?_, ?_, ?_, fun ha hO => bz_OK_sM hO ha (by rw [← e0]; exact r32_of n)⟩
  · rw [hk]
    show Value.int (Int32.ofInt (if a = a ∧ (j : Int) = (j : Int) then x else gM μ a (j : Int))) = _
    rw [if_pos ⟨rfl, rfl⟩, ← e0, Int32.ofInt_toInt]
  · rcases hty with q | ⟨q, q2⟩
    · rw [q]; rfl
    · rw [q]
      rcases bz_01 (n := n) (by rw [e0]; exact q2) with rfl | rfl <;> rfl
  · rcases hty with q | ⟨q, q2⟩
    · rw [q]; rfl
    · rw [q]
      rcases bz_01 (n := n) (by rw [e0]; exact q2) with rfl | rfl <;> rfl
theorem bz_i_putL {k : Nat} {N : bz_N} {i : Nat} {L : List (Option bz_V)} {st : List bz_V} {μ : bz_M} {res : bz_R} {a c j idx : Nat} {ref : String} {x : Int} (hT : gT μ a = c) (hc : 1 ≤ c ∧ c ≤ 10) (hj : j < bz_ns c) (hd : decode (bz_b k) (bz_pc k i) = .ok (.putfield idx, 3)) (hp : bz_pc k (i + 1) = bz_pc k i + 3) (hw : Cond.fieldLink (bz_ow k) idx ref (bz_fnd (c * 100 + j)).2.1 (bz_fnd (c * 100 + j)).2.2.1 ∈ bz_W) (hsm : bz_same1 ref (bz_fnd (c * 100 + j))) (hfin : (bz_fnd (c * 100 + j)).2.2.2 = false ∨ ((bz_fnd (c * 100 + j)).2.2.2 = true ∧ (bz_y k).name = "<init>" ∧ (bz_fnd (c * 100 + j)).1 = bz_ow k)) (hk : bz_fk c j = 1) (h : bz_H k N (i + 1) L st (sG μ a (j : Int) x) res) : bz_H k N i L (zL x :: zR a :: st) μ res := by
  refine bz_i_put (μ' := sG μ a (j : Int) x) hT hc hj hd hp hw hsm hfin ⟨rfl, rfl⟩ rfl (fun b hb => bz_ce_congr rfl (fun q => by simp [sG, gM]) (fun q => by simp [sG, gP]) (fun q => by simp [sG, gG, hb])) (fun q hq => bz_fvG hq) (fun w hw => ?_) h
  obtain ⟨n, rfl, e0⟩ := hw
  have hty := bz_kty_at hc hj
  rw [hk] at hty
  refine ⟨?_, ?_, ?_, fun ha hO => bz_OK_sG hO ha (by rw [← e0]; exact r64_of n)⟩
  · rw [hk]
    show Value.long (Int64.ofInt (if a = a ∧ (j : Int) = (j : Int) then x else gG μ a (j : Int))) = _
    rw [if_pos ⟨rfl, rfl⟩, ← e0, Int64.ofInt_toInt]
  · rw [bz_kty1 hty]; rfl
  · rw [bz_kty1 hty]; rfl
theorem bz_i_putR {k : Nat} {N : bz_N} {i : Nat} {L : List (Option bz_V)} {st : List bz_V} {μ : bz_M} {res : bz_R} {a c j idx : Nat} {ref : String} {b : Nat} (hT : gT μ a = c) (hc : 1 ≤ c ∧ c ≤ 10) (hj : j < bz_ns c) (hd : decode (bz_b k) (bz_pc k i) = .ok (.putfield idx, 3)) (hp : bz_pc k (i + 1) = bz_pc k i + 3) (hw : Cond.fieldLink (bz_ow k) idx ref (bz_fnd (c * 100 + j)).2.1 (bz_fnd (c * 100 + j)).2.2.1 ∈ bz_W) (hsm : bz_same1 ref (bz_fnd (c * 100 + j))) (hfin : (bz_fnd (c * 100 + j)).2.2.2 = false ∨ ((bz_fnd (c * 100 + j)).2.2.2 = true ∧ (bz_y k).name = "<init>" ∧ (bz_fnd (c * 100 + j)).1 = bz_ow k)) (hk : bz_fk c j = 2) (hb : 16 ≤ b) (h : bz_H k N (i + 1) L st (sP μ a (j : Int) b) res) : bz_H k N i L (zR b :: zR a :: st) μ res := by
  refine bz_i_put (μ' := sP μ a (j : Int) b) hT hc hj hd hp hw hsm hfin ⟨rfl, rfl⟩ rfl (fun b hb => bz_ce_congr rfl (fun q => by simp [sP, gM]) (fun q => by simp [sP, gP, hb]) (fun q => by simp [sP, gG])) (fun q hq => bz_fvP hq) (fun w hw => ?_) h
  have e0 := bz_vr_in hw (by omega)
  subst e0
  have hty := bz_kty_at hc hj
  rw [hk] at hty
  refine ⟨?_, ?_, ?_, fun ha hO => bz_OK_sP hO ha⟩
  · rw [hk]
    show va_rf (bz_rf N (if a = a ∧ (j : Int) = (j : Int) then b else gP μ a (j : Int))) = _
    rw [if_pos ⟨rfl, rfl⟩]
    unfold bz_rf
    rw [if_neg (by omega)]
    rfl
  · rcases bz_kty2 hty with ⟨n, q⟩ | ⟨t, q⟩ <;> (rw [q]; rfl)
  · rcases bz_kty2 hty with ⟨n, q⟩ | ⟨t, q⟩ <;> (rw [q]; rfl)
theorem bz_sy {c j : Nat} (hc : c = 1 ∨ c = 2 ∨ c = 3) (hj : j < 4) : bz_fnd (c * 100 + j) = bz_fnd (5000 + j) ∧ bz_fk c j = 0 ∧ bz_ns c = 4 ∧ bz_tyf c j = .int := by
  have h : j = 0 ∨ j = 1 ∨ j = 2 ∨ j = 3 := by omega
  rcases hc with rfl | rfl | rfl <;> rcases h with rfl | rfl | rfl | rfl <;> exact ⟨rfl, rfl, rfl, rfl⟩
theorem bz_i_getS {k : Nat} {N : bz_N} {i : Nat} {L : List (Option bz_V)} {st : List bz_V} {μ : bz_M} {res : bz_R} {a j idx : Nat} {ref : String} (hT : gT μ a = 1 ∨ gT μ a = 2 ∨ gT μ a = 3) (hj : j < 4) (hd : decode (bz_b k) (bz_pc k i) = .ok (.getfield idx, 3)) (hp : bz_pc k (i + 1) = bz_pc k i + 3) (hw : Cond.fieldLink (bz_ow k) idx ref (bz_fnd (5000 + j)).2.1 (bz_fnd (5000 + j)).2.2.1 ∈ bz_W) (hsm : bz_same1 ref (bz_fnd (5000 + j))) (h : bz_H k N (i + 1) L (zI (gM μ a (j : Int)) :: st) μ res) : bz_H k N i L (zR a :: st) μ res := by
  obtain ⟨e1, e2, e3, e4⟩ := bz_sy hT hj
  rw [← e1] at hw hsm
  exact bz_i_getI rfl (by omega) (by rw [e3]; exact hj) hd hp hw hsm e2 h
theorem bz_i_putS {k : Nat} {N : bz_N} {i : Nat} {L : List (Option bz_V)} {st : List bz_V} {μ : bz_M} {res : bz_R} {a j idx : Nat} {ref : String} {x : Int} (hT : gT μ a = 1 ∨ gT μ a = 2 ∨ gT μ a = 3) (hj : j < 4) (hd : decode (bz_b k) (bz_pc k i) = .ok (.putfield idx, 3)) (hp : bz_pc k (i + 1) = bz_pc k i + 3) (hw : Cond.fieldLink (bz_ow k) idx ref (bz_fnd (5000 + j)).2.1 (bz_fnd (5000 + j)).2.2.1 ∈ bz_W) (hsm : bz_same1 ref (bz_fnd (5000 + j))) (hfin : (bz_fnd (5000 + j)).2.2.2 = false ∨ ((bz_fnd (5000 + j)).2.2.2 = true ∧ (bz_y k).name = "<init>" ∧ (bz_fnd (5000 + j)).1 = bz_ow k)) (h : bz_H k N (i + 1) L st (sM μ a (j : Int) x) res) : bz_H k N i L (zI x :: zR a :: st) μ res := by
  obtain ⟨e1, e2, e3, e4⟩ := bz_sy hT hj
  rw [← e1] at hw hsm hfin
  exact bz_i_putI rfl (by omega) (by rw [e3]; exact hj) hd hp hw hsm hfin e2 (Or.inl e4) h
theorem bz_i_strV {k : Nat} {N : bz_N} {i : Nat} {L : List (Option bz_V)} {st : List bz_V} {μ : bz_M} {res : bz_R} {a idx : Nat} (hT : gT μ a = 28) (hnz : gP μ a 0 ≠ 0) (hd : decode (bz_b k) (bz_pc k i) = .ok (.getfield idx, 3)) (hp : bz_pc k (i + 1) = bz_pc k i + 3) (hw : Cond.fieldLink (bz_ow k) idx "java/lang/String" "value" "[B" ∈ bz_W) (h : bz_H k N (i + 1) L (zR (gP μ a 0) :: st) μ res) : bz_H k N i L (zR a :: st) μ res := by
  refine ⟨h.1, ?_⟩
  intro p l e R s m args below meth c' H locs ls sv c0 s0 mc ms C a1 a2 a3 a4 a5 a6 hz hS hR hL hv
  have hE := C.2.2.2.2
  have hts := C.1.2.2.2.2.2.2.2.2.1
  obtain ⟨w1, ws, rfl, hv1, t⟩ := bz_vs1 hv
  obtain ⟨ha, ha2, hnT⟩ := bz_out hR.1 hE hT (by omega)
  have e1 := bz_vr_in hv1 ha2
  subst e1
  have e2 : bz_ad N a = nX N a := by unfold bz_ad; rw [if_pos ha]
  rw [e2]
  obtain ⟨g1, g2, g3⟩ := hE.2.2.2.2.2.2.2.2.1 a _ ha hnT
  obtain ⟨hM0, hP0⟩ := hR.1.2.2.2.2.2.2.1 a ha 0
  obtain ⟨q1, q2⟩ := g3 (by rw [← hP0]; exact hnz)
  refine vk_getf C.1.1 C.1.2.2.1 q2 hS C.1.2.2.2.2.2.1 (hts _ hw) (fun _ h => h) hd ?_
  rw [← hp]
  refine h.2 p l e R s m args below meth c' H locs ls (_ :: ws) c0 s0 mc ms C a1 a2 a3 a4 a5 a6 hz hS hR hL ⟨?_, t⟩
  have e3 : nX N (nP N a 0) = bz_ad N (nP N a 0) := by unfold bz_ad; rw [if_pos (by omega)]
  rw [hP0, e3]
  exact bz_vr_mk
theorem bz_i_strC {k : Nat} {N : bz_N} {i : Nat} {L : List (Option bz_V)} {st : List bz_V} {μ : bz_M} {res : bz_R} {a idx : Nat} (hT : gT μ a = 28) (hd : decode (bz_b k) (bz_pc k i) = .ok (.getfield idx, 3)) (hp : bz_pc k (i + 1) = bz_pc k i + 3) (hw : Cond.fieldLink (bz_ow k) idx "java/lang/String" "coder" "B" ∈ bz_W) (h : bz_H k N (i + 1) L (zI (gM μ a 1) :: st) μ res) : bz_H k N i L (zR a :: st) μ res := by
  refine ⟨h.1, ?_⟩
  intro p l e R s m args below meth c' H locs ls sv c0 s0 mc ms C a1 a2 a3 a4 a5 a6 hz hS hR hL hv
  have hE := C.2.2.2.2
  have hts := C.1.2.2.2.2.2.2.2.2.1
  obtain ⟨w1, ws, rfl, hv1, t⟩ := bz_vs1 hv
  obtain ⟨ha, ha2, hnT⟩ := bz_out hR.1 hE hT (by omega)
  have e1 := bz_vr_in hv1 ha2
  subst e1
  have e2 : bz_ad N a = nX N a := by unfold bz_ad; rw [if_pos ha]
  rw [e2]
  obtain ⟨g1, g2, g3⟩ := hE.2.2.2.2.2.2.2.2.1 a _ ha hnT
  obtain ⟨hM0, hP0⟩ := hR.1.2.2.2.2.2.2.1 a ha 1
  refine vk_getf C.1.1 C.1.2.2.1 g2 hS C.1.2.2.2.2.2.1 (hts _ hw) (fun _ h => h) hd ?_
  rw [← hp]
  refine h.2 p l e R s m args below meth c' H locs ls (_ :: ws) c0 s0 mc ms C a1 a2 a3 a4 a5 a6 hz hS hR hL ⟨⟨_, rfl, ?_⟩, t⟩
  rw [← hM0]
  exact bz_to (hR.1.2.1 a 1)
theorem bz_i_getA {k : Nat} {N : bz_N} {i : Nat} {L : List (Option bz_V)} {st : List bz_V} {μ : bz_M} {res : bz_R} {q idx : Nat} (hq : (q = 2 ∧ bz_ow k = "BarcodeEngine$Ean8" ∧ idx = 25) ∨ (q = 3 ∧ bz_ow k = "BarcodeEngine$Interleaved" ∧ idx = 31) ∨ (q = 4 ∧ bz_ow k = "BarcodeEngine$Codabar" ∧ idx = 25)) (hd : decode (bz_b k) (bz_pc k i) = .ok (.getstatic idx, 3)) (hp : bz_pc k (i + 1) = bz_pc k i + 3) (h : bz_H k N (i + 1) L (zR q :: st) μ res) : bz_H k N i L st μ res := by
  refine ⟨h.1, ?_⟩
  intro p l e R s m args below meth c' H locs ls sv c0 s0 mc ms C a1 a2 a3 a4 a5 a6 hz hS hR hL hv
  have hE := C.2.2.2.2
  have K : ∀ q9 : Nat, q9 = q → q9 < 15 → W p l e R s m args below meth c' H locs (C1 μ - c0) (C2 μ - s0) (vx_MQ below (bz_Qc k N res) (bz_XC N res) args s mc ms (bz_A N)) (F0 m (bz_pc k i + 3) ls (.ref (nX N q9) :: sv)) := by
    intro q9 e9 hq9
    subst e9
    rw [← hp]
    refine h.2 p l e R s m args below meth c' H locs ls (_ :: sv) c0 s0 mc ms C a1 a2 a3 a4 a5 a6 hz hS hR hL ⟨?_, hv⟩
    have e3 : nX N q9 = bz_ad N q9 := by unfold bz_ad; rw [if_pos (by omega)]
    rw [e3]
    exact bz_vr_mk
  obtain ⟨-, -, -, -, ⟨z2, z3, z4⟩, -, -, -, -, -, -, -, -, -, -, h19, -⟩ := hE
  have own := C.1.2.2.2.2.2.1
  rcases hq with ⟨rfl, q1, rfl⟩ | ⟨rfl, q1, rfl⟩ | ⟨rfl, q1, rfl⟩
  · rw [q1] at own
    exact va_getsN C.1.1 C.1.2.2.1 z2 hS own (va_Nw.use rfl (h19 ("BarcodeEngine$Ean8", 25, "EAN_WIDTHS") (by simp [bz_nst]))) (fun _ h => h) hd (K 2 rfl (by omega))
  · rw [q1] at own
    exact va_getsN C.1.1 C.1.2.2.1 z3 hS own (va_Nw.use rfl (h19 ("BarcodeEngine$Interleaved", 31, "INTERLEAVED_PATTERNS") (by simp [bz_nst]))) (fun _ h => h) hd (K 3 rfl (by omega))
  · rw [q1] at own
    exact va_getsN C.1.1 C.1.2.2.1 z4 hS own (va_Nw.use rfl (h19 ("BarcodeEngine$Codabar", 25, "CODABAR_PATTERNS") (by simp [bz_nst]))) (fun _ h => h) hd (K 4 rfl (by omega))
theorem bz_i_compact {k : Nat} {N : bz_N} {i : Nat} {L : List (Option bz_V)} {st : List bz_V} {μ : bz_M} {res : bz_R} {idx : Nat} (hw : Cond.fieldLink (bz_ow k) idx "java/lang/String" "COMPACT_STRINGS" "Z" ∈ bz_W) (hd : decode (bz_b k) (bz_pc k i) = .ok (.getstatic idx, 3)) (hp : bz_pc k (i + 1) = bz_pc k i + 3) (h : bz_H k N (i + 1) L (zI 1 :: st) μ res) : bz_H k N i L st μ res := by
  refine ⟨h.1, ?_⟩
  intro p l e R s m args below meth c' H locs ls sv c0 s0 mc ms C a1 a2 a3 a4 a5 a6 hz hS hR hL hv
  have hE := C.2.2.2.2
  have hts := C.1.2.2.2.2.2.2.2.2.1
  refine va_gets C.1.1 C.1.2.2.1 hE.2.2.2.2.2.1.1 hS C.1.2.2.2.2.2.1 (hts _ hw) (fun _ h => h) hd ?_
  rw [← hp]
  exact h.2 p l e R s m args below meth c' H locs ls (_ :: sv) c0 s0 mc ms C a1 a2 a3 a4 a5 a6 hz hS hR hL ⟨⟨_, rfl, rfl⟩, hv⟩
theorem bz_i_siobe {k : Nat} {N : bz_N} {i : Nat} {L : List (Option bz_V)} {st : List bz_V} {μ : bz_M} {res : bz_R} {idx : Nat} (hw : Cond.fieldLink (bz_ow k) idx "jdk/internal/util/Preconditions" "SIOOBE_FORMATTER" "Ljava/util/function/BiFunction;" ∈ bz_W) (hd : decode (bz_b k) (bz_pc k i) = .ok (.getstatic idx, 3)) (hp : bz_pc k (i + 1) = bz_pc k i + 3) (h : bz_H k N (i + 1) L (zR 15 :: st) μ res) : bz_H k N i L st μ res := by
  refine ⟨h.1, ?_⟩
  intro p l e R s m args below meth c' H locs ls sv c0 s0 mc ms C a1 a2 a3 a4 a5 a6 hz hS hR hL hv
  have hE := C.2.2.2.2
  have hts := C.1.2.2.2.2.2.2.2.2.1
  rcases hE.2.2.2.2.2.1.2 with z | ⟨t, z⟩
  · refine va_gets C.1.1 C.1.2.2.1 z hS C.1.2.2.2.2.2.1 (hts _ hw) (fun _ h => h) hd ?_
    rw [← hp]
    exact h.2 p l e R s m args below meth c' H locs ls (_ :: sv) c0 s0 mc ms C a1 a2 a3 a4 a5 a6 hz hS hR hL ⟨by unfold bz_vr; dsimp only; rw [if_pos rfl]; exact Or.inl rfl, hv⟩
  · refine va_gets C.1.1 C.1.2.2.1 z hS C.1.2.2.2.2.2.1 (hts _ hw) (fun _ h => h) hd ?_
    rw [← hp]
    exact h.2 p l e R s m args below meth c' H locs ls (_ :: sv) c0 s0 mc ms C a1 a2 a3 a4 a5 a6 hz hS hR hL ⟨by unfold bz_vr; dsimp only; rw [if_pos rfl]; exact Or.inr ⟨_, rfl⟩, hv⟩
theorem bz_i_ldc5 {k : Nat} {N : bz_N} {i : Nat} {L : List (Option bz_V)} {st : List bz_V} {μ : bz_M} {res : bz_R} (hk : bz_ow k = "BarcodeEngine") (hd : decode (bz_b k) (bz_pc k i) = .ok (.ldc_w 337, 3)) (hp : bz_pc k (i + 1) = bz_pc k i + 3) (h : bz_H k N (i + 1) L (zR 5 :: st) μ res) : bz_H k N i L st μ res := by
  refine ⟨h.1, ?_⟩
  intro p l e R s m args below meth c' H locs ls sv c0 s0 mc ms C a1 a2 a3 a4 a5 a6 hz hS hR hL hv
  have hZ := C.2.2.2.2.2.2.1.1
  have own := C.1.2.2.2.2.2.1
  rw [hk] at own
  have K := h.2 p l e R s m args below meth c' H locs ls (.ref (nX N 5) :: sv) c0 s0 mc ms C a1 a2 a3 a4 a5 a6 hz hS hR hL ⟨(bz_vr_mk : bz_vr N (zR 5) (.ref (bz_ad N 5))), hv⟩
  rw [hp] at K
  intro T hT X
  obtain ⟨t, b1, b2⟩ := K T hT X
  exact ⟨t, X.ldcStringW C.1.1 own (text := "0123456789-$:/.+ABCD") (a := nX N 5) hZ.1 hZ.2 (g := F0 m (bz_pc k i) ls sv) rfl (by rw [C.1.2.2.1]; exact hd) t b1, b2⟩
theorem bz_i_ldc6 {k : Nat} {N : bz_N} {i : Nat} {L : List (Option bz_V)} {st : List bz_V} {μ : bz_M} {res : bz_R} (hk : bz_ow k = "BarcodeEngineModel") (hd : decode (bz_b k) (bz_pc k i) = .ok (.ldc 84, 2)) (hp : bz_pc k (i + 1) = bz_pc k i + 2) (h : bz_H k N (i + 1) L (zR 6 :: st) μ res) : bz_H k N i L st μ res := by
  refine ⟨h.1, ?_⟩
  intro p l e R s m args below meth c' H locs ls sv c0 s0 mc ms C a1 a2 a3 a4 a5 a6 hz hS hR hL hv
  have hZ := C.2.2.2.2.2.2.1.2
  have own := C.1.2.2.2.2.2.1
  rw [hk] at own
  have K := h.2 p l e R s m args below meth c' H locs ls (.ref (nX N 6) :: sv) c0 s0 mc ms C a1 a2 a3 a4 a5 a6 hz hS hR hL ⟨(bz_vr_mk : bz_vr N (zR 6) (.ref (bz_ad N 6))), hv⟩
  rw [hp] at K
  exact va_ldcS C.1.1 C.1.2.2.1 own hZ hd K
theorem bz_oi_i : Cond.instanceMethod Lib.objectInit ∈ bz_W := List.mem_filter.mpr ⟨List.mem_of_getElem? (i := 122) (by decide +kernel), rfl⟩
theorem bz_oi_c : Cond.code Lib.objectInit ⟨#[0xb1]⟩ 1 none ∈ bz_W := List.mem_filter.mpr ⟨List.mem_of_getElem? (i := 123) (by decide +kernel), rfl⟩
def bz_ois : List (String × Nat × Nat) := [("BarcodeEngine", 1, 121), ("BarcodeEngine$Row", 3, 129), ("BarcodeEngine$Symbology", 3, 160), ("BarcodeEngine$Tally", 3, 208), ("BarcodeEngine$Sequence", 3, 237), ("BarcodeEngine$Scan", 1, 268), ("BarcodeEngine$Reading", 1, 277), ("BarcodeEngineModel", 1, 1262)]
theorem bz_ois_all : bz_ois.all (fun e => decide (bz_T[e.2.2]? = some (Cond.methodLink e.1 e.2.1 Lib.objectInit))) = true := by decide +kernel
theorem bz_ois_in : ∀ e ∈ bz_ois, Cond.methodLink e.1 e.2.1 Lib.objectInit ∈ bz_W := fun e he => List.mem_filter.mpr ⟨List.mem_of_getElem? (of_decide_eq_true (List.all_eq_true.mp bz_ois_all e he)), rfl⟩
theorem bz_i_oinit {k : Nat} {N : bz_N} {i : Nat} {L : List (Option bz_V)} {st : List bz_V} {μ : bz_M} {res : bz_R} {a idx n9 : Nat} (he : (bz_ow k, idx, n9) ∈ bz_ois) (hfr : 1 ≤ bz_fr k) (hlo : 20 ≤ bz_lo0 k) (hsum : bz_sum st ≤ 8) (hd : decode (bz_b k) (bz_pc k i) = .ok (.invokespecial idx, 3)) (hp : bz_pc k (i + 1) = bz_pc k i + 3) (ha : a ≠ 15) (h : bz_H k N (i + 1) L st μ res) : bz_H k N i L (zR a :: st) μ res := by
  refine ⟨h.1, ?_⟩
  intro p l e R s m args below meth c' H locs ls sv c0 s0 mc ms C a1 a2 a3 a4 a5 a6 hz hS hR hL hv
  have hts := C.1.2.2.2.2.2.2.2.2.1
  obtain ⟨w1, ws, rfl, hv1, t⟩ := bz_vs1 hv
  have e1 := bz_vr_in hv1 ha
  subst e1
  have K := h.2 p l e R s m args below meth c' H locs ls ws c0 s0 mc ms C a1 a2 a3 a4 a5 a6 hz hS hR hL t
  rw [hp] at K
  refine W.objInit C.1.1 C.1.2.2.1 C.1.2.2.2.2.2.1 (hts _ (bz_ois_in _ he)) (hts _ bz_oi_i) (hts _ bz_oi_c) rfl (by rw [C.1.2.2.2.1]; exact hL.1) rfl hd (by have := C.2.1; omega) ?_ K
  have := C.2.2.1
  rw [bz_vs_sum t]
  show 2 * 0 + bz_sum st + 12 ≤ R.locals
  omega
theorem bz_sm {n : Int32} (h : 0 ≤ n.toInt ∧ n.toInt < 128) : n = Int32.ofNat n.toInt.toNat := by
  apply (bz_eq0 _ _).mpr
  rw [Int32.toInt_ofNat_of_lt (by omega)]
  omega
theorem bz_nars : (List.range 128).all (fun q => decide (narrow .char (.int (Int32.ofNat q)) = .int (Int32.ofNat q) ∧ narrow .byte (.int (Int32.ofNat q)) = .int (Int32.ofNat q))) = true := by decide +kernel
theorem bz_narC {q : Nat} (h : q < 128) : narrow .char (.int (Int32.ofNat q)) = .int (Int32.ofNat q) := (of_decide_eq_true (List.all_eq_true.mp bz_nars q (List.mem_range.mpr h))).1
theorem bz_narB {q : Nat} (h : q < 128) : narrow .byte (.int (Int32.ofNat q)) = .int (Int32.ofNat q) := (of_decide_eq_true (List.all_eq_true.mp bz_nars q (List.mem_range.mpr h))).2
theorem bz_i_iret {k : Nat} {N : bz_N} {i : Nat} {L : List (Option bz_V)} {st : List bz_V} {μ : bz_M} {x : Int} (hr : bz_rt k = some .int) (hd : decode (bz_b k) (bz_pc k i) = .ok (.ireturn, 1)) : bz_H k N i L [zI x] μ (.inl (zI x), μ) := by
  refine ⟨⟨Nat.le_refl _, Nat.le_refl _⟩, ?_⟩
  intro p l e R s m args below meth c' H locs ls sv c0 s0 mc ms C a1 a2 a3 a4 a5 a6 hz hS hR hL hv
  obtain ⟨w1, ws, rfl, ⟨n0, rfl, e0⟩, t⟩ := bz_vs1 hv
  have := bz_vs0 t
  subst this
  refine W.widen (k := mc) (n := ms) (by show C1 μ - c0 ≤ mc; have : C1 μ ≤ c0 + mc := a3; omega) (by have : C2 μ ≤ s0 + ms := a4; omega) (vx_ret (W.iret C.1.1 C.1.2.2.1 (C.1.2.2.2.2.2.2.2.1.trans hr) (fun t ht hW => ⟨⟨_, rfl, Or.inr ⟨_, _, hr, rfl, n0, rfl, e0⟩⟩, by rw [ht]; exact hR, hS.F ht⟩) hS.2.2 hd C.1.2.2.2.2.1))
theorem bz_i_zret {k : Nat} {N : bz_N} {i : Nat} {L : List (Option bz_V)} {st : List bz_V} {μ : bz_M} {x : Int} (hr : bz_rt k = some .boolean) (hx : x = 0 ∨ x = 1) (hd : decode (bz_b k) (bz_pc k i) = .ok (.ireturn, 1)) : bz_H k N i L [zI x] μ (.inl (zI x), μ) := by
  refine ⟨⟨Nat.le_refl _, Nat.le_refl _⟩, ?_⟩
  intro p l e R s m args below meth c' H locs ls sv c0 s0 mc ms C a1 a2 a3 a4 a5 a6 hz hS hR hL hv
  obtain ⟨w1, ws, rfl, ⟨n0, rfl, e0⟩, t⟩ := bz_vs1 hv
  have := bz_vs0 t
  subst this
  refine W.widen (k := mc) (n := ms) (by show C1 μ - c0 ≤ mc; have : C1 μ ≤ c0 + mc := a3; omega) (by have : C2 μ ≤ s0 + ms := a4; omega) (vx_ret (W.zret C.1.1 C.1.2.2.1 (C.1.2.2.2.2.2.2.2.1.trans hr) (by rcases bz_01 (n := n0) (by rw [e0]; exact hx) with rfl | rfl <;> rfl) (fun t ht hW => ⟨⟨_, rfl, Or.inr ⟨_, _, hr, rfl, n0, rfl, e0⟩⟩, by rw [ht]; exact hR, hS.F ht⟩) hS.2.2 hd C.1.2.2.2.2.1))
theorem bz_i_cret {k : Nat} {N : bz_N} {i : Nat} {L : List (Option bz_V)} {st : List bz_V} {μ : bz_M} {x : Int} (hr : bz_rt k = some .char) (hx : 0 ≤ x ∧ x < 128) (hd : decode (bz_b k) (bz_pc k i) = .ok (.ireturn, 1)) : bz_H k N i L [zI x] μ (.inl (zI x), μ) := by
  refine ⟨⟨Nat.le_refl _, Nat.le_refl _⟩, ?_⟩
  intro p l e R s m args below meth c' H locs ls sv c0 s0 mc ms C a1 a2 a3 a4 a5 a6 hz hS hR hL hv
  obtain ⟨w1, ws, rfl, ⟨n0, rfl, e0⟩, t⟩ := bz_vs1 hv
  have := bz_vs0 t
  subst this
  refine W.widen (k := mc) (n := ms) (by show C1 μ - c0 ≤ mc; have : C1 μ ≤ c0 + mc := a3; omega) (by have : C2 μ ≤ s0 + ms := a4; omega) (vx_ret (W.zret C.1.1 C.1.2.2.1 (C.1.2.2.2.2.2.2.2.1.trans hr) (by rw [bz_sm (n := n0) (by rw [e0]; exact hx)]; exact bz_narC (by have := hx; omega)) (fun t ht hW => ⟨⟨_, rfl, Or.inr ⟨_, _, hr, rfl, n0, rfl, e0⟩⟩, by rw [ht]; exact hR, hS.F ht⟩) hS.2.2 hd C.1.2.2.2.2.1))
theorem bz_i_bret {k : Nat} {N : bz_N} {i : Nat} {L : List (Option bz_V)} {st : List bz_V} {μ : bz_M} {x : Int} (hr : bz_rt k = some .byte) (hx : 0 ≤ x ∧ x < 128) (hd : decode (bz_b k) (bz_pc k i) = .ok (.ireturn, 1)) : bz_H k N i L [zI x] μ (.inl (zI x), μ) := by
  refine ⟨⟨Nat.le_refl _, Nat.le_refl _⟩, ?_⟩
  intro p l e R s m args below meth c' H locs ls sv c0 s0 mc ms C a1 a2 a3 a4 a5 a6 hz hS hR hL hv
  obtain ⟨w1, ws, rfl, ⟨n0, rfl, e0⟩, t⟩ := bz_vs1 hv
  have := bz_vs0 t
  subst this
  refine W.widen (k := mc) (n := ms) (by show C1 μ - c0 ≤ mc; have : C1 μ ≤ c0 + mc := a3; omega) (by have : C2 μ ≤ s0 + ms := a4; omega) (vx_ret (W.zret C.1.1 C.1.2.2.1 (C.1.2.2.2.2.2.2.2.1.trans hr) (by rw [bz_sm (n := n0) (by rw [e0]; exact hx)]; exact bz_narB (by have := hx; omega)) (fun t ht hW => ⟨⟨_, rfl, Or.inr ⟨_, _, hr, rfl, n0, rfl, e0⟩⟩, by rw [ht]; exact hR, hS.F ht⟩) hS.2.2 hd C.1.2.2.2.2.1))
theorem bz_i_lret {k : Nat} {N : bz_N} {i : Nat} {L : List (Option bz_V)} {st : List bz_V} {μ : bz_M} {x : Int} (hr : bz_rt k = some .long) (hd : decode (bz_b k) (bz_pc k i) = .ok (.lreturn, 1)) : bz_H k N i L [zL x] μ (.inl (zL x), μ) := by
  refine ⟨⟨Nat.le_refl _, Nat.le_refl _⟩, ?_⟩
  intro p l e R s m args below meth c' H locs ls sv c0 s0 mc ms C a1 a2 a3 a4 a5 a6 hz hS hR hL hv
  obtain ⟨w1, ws, rfl, ⟨n0, rfl, e0⟩, t⟩ := bz_vs1 hv
  have := bz_vs0 t
  subst this
  refine W.widen (k := mc) (n := ms) (by show C1 μ - c0 ≤ mc; have : C1 μ ≤ c0 + mc := a3; omega) (by have : C2 μ ≤ s0 + ms := a4; omega) (vx_ret (W.lret C.1.1 C.1.2.2.1 (C.1.2.2.2.2.2.2.2.1.trans hr) (fun t ht hW => ⟨⟨_, rfl, Or.inr ⟨_, _, hr, rfl, n0, rfl, e0⟩⟩, by rw [ht]; exact hR, hS.F ht⟩) hS.2.2 hd C.1.2.2.2.2.1))
theorem bz_i_aret {k : Nat} {N : bz_N} {i : Nat} {L : List (Option bz_V)} {st : List bz_V} {μ : bz_M} {b : Nat} (hr : bz_kty 2 ((bz_rt k).getD .int) = true) (hd : decode (bz_b k) (bz_pc k i) = .ok (.areturn, 1)) : bz_H k N i L [zR b] μ (.inl (zR b), μ) := by
  refine ⟨⟨Nat.le_refl _, Nat.le_refl _⟩, ?_⟩
  intro p l e R s m args below meth c' H locs ls sv c0 s0 mc ms C a1 a2 a3 a4 a5 a6 hz hS hR hL hv
  obtain ⟨w1, ws, rfl, hv1, t⟩ := bz_vs1 hv
  have := bz_vs0 t
  subst this
  cases hq : bz_rt k with
  | none => rw [hq] at hr; cases hr
  | some rt =>
    rw [hq] at hr
    exact W.widen (k := mc) (n := ms) (by show C1 μ - c0 ≤ mc; have : C1 μ ≤ c0 + mc := a3; omega) (by have : C2 μ ≤ s0 + ms := a4; omega) (vx_ret (W.aret C.1.1 C.1.2.2.1 (C.1.2.2.2.2.2.2.2.1.trans hq) (bz_kty2 hr) (bz_vr_ref hv1) (fun t ht hW => ⟨⟨_, rfl, Or.inr ⟨_, _, hq, rfl, hv1⟩⟩, by rw [ht]; exact hR, hS.F ht⟩) hS.2.2 hd C.1.2.2.2.2.1))
theorem bz_i_vret {k : Nat} {N : bz_N} {i : Nat} {L : List (Option bz_V)} {st : List bz_V} {μ : bz_M} (hr : bz_rt k = none) (hd : decode (bz_b k) (bz_pc k i) = .ok (.return_, 1)) : bz_H k N i L [] μ (.inl (zI 0), μ) := by
  refine ⟨⟨Nat.le_refl _, Nat.le_refl _⟩, ?_⟩
  intro p l e R s m args below meth c' H locs ls sv c0 s0 mc ms C a1 a2 a3 a4 a5 a6 hz hS hR hL hv
  have := bz_vs0 hv
  subst this
  exact W.widen (k := mc) (n := ms) (by show C1 μ - c0 ≤ mc; have : C1 μ ≤ c0 + mc := a3; omega) (by have : C2 μ ≤ s0 + ms := a4; omega) (vx_ret (W.vret C.1.1 C.1.2.2.1 (C.1.2.2.2.2.2.2.2.1.trans hr) (fun t ht hW => ⟨⟨_, rfl, Or.inl ⟨hr, rfl⟩⟩, by rw [ht]; exact hR, hS.F ht⟩) hS.2.2 hd C.1.2.2.2.2.1))
end
section
/-! EXCEPTIONS MADE -/
def bz_tn : List String := ["java/lang/RuntimeException", "java/lang/Exception"]
theorem bz_tn_ok : ∀ n ∈ bz_tn, Bundle.fit n = true := by decide +kernel
def bz_tng (X : String) : List Cond := .castable X X :: bz_dc3.map Cond.declares
def bz_ik (c : Nat) : Nat := [0, 73, 324, 90, 269].getD c 0
def bz_ic (c : Nat) : Nat := [0, 77, 328, 94, 273].getD c 0
theorem bz_xk_1 : Cond.classLink "BarcodeEngine" 73 "java/lang/IllegalStateException" ∈ bz_W := List.mem_filter.mpr ⟨List.mem_of_getElem? (i := 687) (by decide +kernel), rfl⟩
theorem bz_xi_1 : Cond.initialized "java/lang/IllegalStateException" ∈ bz_W := List.mem_filter.mpr ⟨List.mem_of_getElem? (i := 106) (by decide +kernel), rfl⟩
theorem bz_xn_1 : ∀ w ∈ (vx_atS "BarcodeEngine" 77 "java/lang/IllegalStateException" ["java/lang/RuntimeException", "java/lang/Exception"]).filter (fun w => !goodWord w), w ∈ bz_tng "java/lang/IllegalStateException" := by decide +kernel
theorem bz_xo_1 : ∀ w ∈ Cond.classLink "BarcodeEngine" 73 "java/lang/IllegalStateException" :: Cond.initialized "java/lang/IllegalStateException" :: vx_atS "BarcodeEngine" 77 "java/lang/IllegalStateException" ["java/lang/RuntimeException", "java/lang/Exception"], vx_ot w = true := by decide +kernel
theorem bz_xk_2 : Cond.classLink "BarcodeEngine" 324 "java/lang/IndexOutOfBoundsException" ∈ bz_W := List.mem_filter.mpr ⟨List.mem_of_getElem? (i := 384) (by decide +kernel), rfl⟩
theorem bz_xi_2 : Cond.initialized "java/lang/IndexOutOfBoundsException" ∈ bz_W := List.mem_filter.mpr ⟨List.mem_of_getElem? (i := 107) (by decide +kernel), rfl⟩
theorem bz_xn_2 : ∀ w ∈ (vx_atS "BarcodeEngine" 328 "java/lang/IndexOutOfBoundsException" ["java/lang/RuntimeException", "java/lang/Exception"]).filter (fun w => !goodWord w), w ∈ bz_tng "java/lang/IndexOutOfBoundsException" := by decide +kernel
theorem bz_xo_2 : ∀ w ∈ Cond.classLink "BarcodeEngine" 324 "java/lang/IndexOutOfBoundsException" :: Cond.initialized "java/lang/IndexOutOfBoundsException" :: vx_atS "BarcodeEngine" 328 "java/lang/IndexOutOfBoundsException" ["java/lang/RuntimeException", "java/lang/Exception"], vx_ot w = true := by decide +kernel
theorem bz_xk_3 : Cond.classLink "BarcodeEngine" 90 "java/lang/IllegalArgumentException" ∈ bz_W := List.mem_filter.mpr ⟨List.mem_of_getElem? (i := 720) (by decide +kernel), rfl⟩
theorem bz_xi_3 : Cond.initialized "java/lang/IllegalArgumentException" ∈ bz_W := List.mem_filter.mpr ⟨List.mem_of_getElem? (i := 108) (by decide +kernel), rfl⟩
theorem bz_xn_3 : ∀ w ∈ (vx_atS "BarcodeEngine" 94 "java/lang/IllegalArgumentException" ["java/lang/RuntimeException", "java/lang/Exception"]).filter (fun w => !goodWord w), w ∈ bz_tng "java/lang/IllegalArgumentException" := by decide +kernel
theorem bz_xo_3 : ∀ w ∈ Cond.classLink "BarcodeEngine" 90 "java/lang/IllegalArgumentException" :: Cond.initialized "java/lang/IllegalArgumentException" :: vx_atS "BarcodeEngine" 94 "java/lang/IllegalArgumentException" ["java/lang/RuntimeException", "java/lang/Exception"], vx_ot w = true := by decide +kernel
theorem bz_xk_4 : Cond.classLink "BarcodeEngine" 269 "java/util/NoSuchElementException" ∈ bz_W := List.mem_filter.mpr ⟨List.mem_of_getElem? (i := 1124) (by decide +kernel), rfl⟩
theorem bz_xi_4 : Cond.initialized "java/util/NoSuchElementException" ∈ bz_W := List.mem_filter.mpr ⟨List.mem_of_getElem? (i := 115) (by decide +kernel), rfl⟩
theorem bz_xall {c : Nat} (hc : c = 1 ∨ c = 2 ∨ c = 3) : Bundle.fit (bz_exn c) = true ∧ Cond.classLink "BarcodeEngine" (bz_ik c) (bz_exn c) ∈ bz_W ∧ Cond.initialized (bz_exn c) ∈ bz_W ∧ (∀ w ∈ (vx_atS "BarcodeEngine" (bz_ic c) (bz_exn c) bz_tn).filter goodWord, w ∈ bz_T) ∧ (∀ w ∈ (vx_atS "BarcodeEngine" (bz_ic c) (bz_exn c) bz_tn).filter (fun w => !goodWord w), w ∈ bz_tng (bz_exn c)) ∧ (∀ w ∈ Cond.classLink "BarcodeEngine" (bz_ik c) (bz_exn c) :: Cond.initialized (bz_exn c) :: vx_atS "BarcodeEngine" (bz_ic c) (bz_exn c) bz_tn, vx_ot w = true) := by
  rcases hc with rfl | rfl | rfl
  · exact ⟨by decide +kernel, bz_xk_1, bz_xi_1, bz_at_77, bz_xn_1, bz_xo_1⟩
  · exact ⟨by decide +kernel, bz_xk_2, bz_xi_2, bz_at_328, bz_xn_2, bz_xo_2⟩
  · exact ⟨by decide +kernel, bz_xk_3, bz_xi_3, bz_at_94, bz_xn_3, bz_xo_3⟩
theorem bz_tng_ok {N : bz_N} {s : State} {args : Array Value} {c : Nat} (hc : 1 ≤ c ∧ c ≤ 4) (hE : bz_E N s s.heap) : ∀ w ∈ bz_tng (bz_exn c), w.before args s = true := by
  obtain ⟨-, -, -, -, -, -, -, -, -, -, -, -, -, h17, -, -, h20, -⟩ := hE
  intro w hw
  rcases List.mem_cons.mp hw with rfl | hw
  · refine va_Nw.use rfl (h17 (bz_exn c, bz_exn c) ?_)
    rcases (show c = 1 ∨ c = 2 ∨ c = 3 ∨ c = 4 by omega) with rfl | rfl | rfl | rfl <;> decide +kernel
  · obtain ⟨x, hx, rfl⟩ := List.mem_map.mp hw
    exact va_Nw.use rfl (h20 x hx)
theorem bz_hatX {N : bz_N} {s : State} {args : Array Value} {c : Nat} {L : List Cond} (hc : 1 ≤ c ∧ c ≤ 4) (hE : bz_E N s s.heap) (hts : ∀ w ∈ bz_W, w.before args s = true) (h1 : ∀ w ∈ L.filter goodWord, w ∈ bz_T) (h2 : ∀ w ∈ L.filter (fun w => !goodWord w), w ∈ bz_tng (bz_exn c)) : ∀ w ∈ L, w.before args s = true :=
  vx_hat (fun w hw => hts w (List.mem_filter.mpr ⟨h1 w hw, (List.mem_filter.mp hw).2⟩)) h2 (bz_tng_ok hc hE)
theorem bz_xend {N : bz_N} {μ : bz_M} {c : Nat} {s : State} {H : Heap} {locs : List Loc} (hc : 1 ≤ c ∧ c ≤ 4) (hR : bz_Rep N μ H) (hS : va_S (bz_A N) s.heap H locs) : ∀ t : State, s.vm.Alike t.vm → H.size ≤ t.heap.size → (∀ q : Nat, q < H.size → t.heap[q]? = H[q]?) → bz_XC N (.inr c, sX μ) (bz_exn c) s t := by
  intro t _ h1 h2
  have e : bz_ws N (sX μ) = bz_ws N μ := rfl
  refine ⟨⟨c, rfl, rfl, hc.1, hc.2⟩, ⟨hR.1, ?_⟩, Nat.le_trans hS.1 h1, fun q q1 q2 => (h2 q (Nat.lt_of_lt_of_le q1 hS.1)).trans (hS.2.1 q q1 q2)⟩
  show va_P (nD N) vwCl (bz_ws N (sX μ)) t.heap
  rw [e]
  exact fun k x hx => (hR.2 k x hx).kept (h2 x.1 (hR.2 k x hx).lt)
theorem bz_i_throw {k : Nat} {N : bz_N} {i : Nat} {L : List (Option bz_V)} {st : List bz_V} {μ : bz_M} {c is : Nat} {tx : String} (hc : c = 1 ∨ c = 2 ∨ c = 3) (hk : bz_ow k = "BarcodeEngine") (hh : bz_hh0 k = []) (hstr : ("BarcodeEngine", is, tx) ∈ bz_strs) (hfr : 6 ≤ bz_fr k) (hlo : 90 ≤ bz_lo0 k) (hsum : bz_sum st ≤ 8)
    (d0 : decode (bz_b k) (bz_pc k i) = .ok (.new (bz_ik c), 3)) (d3 : decode (bz_b k) (bz_pc k i + 3) = .ok (.dup, 1))
    (hd : (decode (bz_b k) (bz_pc k i + 4) = .ok (.ldc is, 2) ∧ decode (bz_b k) (bz_pc k i + 6) = .ok (.invokespecial (bz_ic c), 3) ∧ decode (bz_b k) (bz_pc k i + 9) = .ok (.athrow, 1)) ∨ (decode (bz_b k) (bz_pc k i + 4) = .ok (.ldc_w is, 3) ∧ decode (bz_b k) (bz_pc k i + 7) = .ok (.invokespecial (bz_ic c), 3) ∧ decode (bz_b k) (bz_pc k i + 10) = .ok (.athrow, 1))) :
    bz_H k N i L st μ (.inr c, sX μ) := by
  have hC1 : C1 (sX μ) = C1 μ + 1 := rfl
  have hC2 : C2 (sX μ) = C2 μ + 6 := rfl
  refine ⟨⟨by show C1 μ ≤ C1 μ + 1; omega, by show C2 μ ≤ C2 μ + 6; omega⟩, ?_⟩
  intro p l e R s m args below meth c' H locs ls sv c0 s0 mc ms C a1 a2 a3 a4 a5 a6 hz hS hR hL hv
  have a3 : C1 μ + 1 ≤ c0 + mc := a3
  have a4 : C2 μ + 6 ≤ s0 + ms := a4
  have hts := C.1.2.2.2.2.2.2.2.2.1
  have hE := C.2.2.2.2
  have own := C.1.2.2.2.2.2.1
  rw [hk] at own
  have htb := C.1.2.2.2.2.2.2.2.2.2
  rw [hh] at htb
  obtain ⟨q1, q2, q3, q4, q5, q6⟩ := bz_xall hc
  have hc4 : 1 ≤ c ∧ c ≤ 4 := by omega
  obtain ⟨sa, hsa⟩ := hE.2.1 _ hstr
  have hF := C.2.1
  have hL0 := C.2.2.1
  have hsv := bz_vs_sum hv
  have hout : ∀ (pc : Nat), ∀ x ∈ c'.exceptionTable.toList, covers x pc = false := fun pc x hx => by rw [htb] at hx; cases hx
  rcases hd with ⟨d4, d6, d9⟩ | ⟨d4, d6, d9⟩
  · exact vx_throwS C.1.1 C.1.2.2.1 C.1.2.1 own q1 bz_tn_ok (hts _ q2) (hts _ q3) hsa (bz_hatX hc4 hE hts q4 q5) q6 hE.2.2.2.1.1 hE.2.2.2.1.2 hS (by rw [C.1.2.2.2.1]; exact hL.1) d0 d3 d4 d6 d9 (hout _) (by show 2 + 3 < R.frames; omega) (by rw [hsv]; show bz_sum st + 82 ≤ R.locals; omega) (by omega) (by omega) C.1.2.2.2.2.1 (bz_xend hc4 hR hS) hS.2.2 (by omega) (by omega)
  · exact vx_throwSW C.1.1 C.1.2.2.1 C.1.2.1 own q1 bz_tn_ok (hts _ q2) (hts _ q3) hsa (bz_hatX hc4 hE hts q4 q5) q6 hE.2.2.2.1.1 hE.2.2.2.1.2 hS (by rw [C.1.2.2.2.1]; exact hL.1) d0 d3 d4 d6 d9 (hout _) (by show 2 + 3 < R.frames; omega) (by rw [hsv]; show bz_sum st + 82 ≤ R.locals; omega) (by omega) (by omega) C.1.2.2.2.2.1 (bz_xend hc4 hR hS) hS.2.2 (by omega) (by omega)
end
section
/-! NOSUCHELEMENTEXCEPTION: its constructor names RuntimeException's by entry 13 -/
def bz_X4 : String := "java/util/NoSuchElementException"
def bz_n4a : List Cond := Bundle.passSAtoms bz_X4 "java/lang/RuntimeException" 13 prog_29_method_4_code
def bz_n4b : List Cond := [.methodLink "BarcodeEngine" 273 (Bundle.initS bz_X4), .instantiable bz_X4 6, .selects bz_X4 Bundle.tFill0 Bundle.tFill0, .selects bz_X4 Bundle.tFill Bundle.tFill, .lays bz_X4 Bundle.tN "cause" "Ljava/lang/Throwable;", .lays bz_X4 Bundle.tN "stackTrace" Bundle.steD, .lays bz_X4 Bundle.tN "suppressedExceptions" Bundle.listD, .lays bz_X4 Bundle.tN "detailMessage" "Ljava/lang/String;", .lays bz_X4 Bundle.tN "backtrace" "Ljava/lang/Object;"]
theorem bz_n4_good : ∀ w ∈ (bz_n4a ++ bz_n4b).filter goodWord, w ∈ lw_tbl := by decide +kernel
theorem bz_n4_ng : ∀ w ∈ (bz_n4a ++ bz_n4b).filter (fun w => !goodWord w), w ∈ bz_tng "java/util/NoSuchElementException" := by decide +kernel
theorem bz_n4_ot : ∀ w ∈ Cond.classLink "BarcodeEngine" 269 bz_X4 :: Cond.initialized bz_X4 :: (bz_n4a ++ bz_n4b), vx_ot w = true := by decide +kernel
theorem bz_n4_d : decode prog_29_method_4_code 0 = .ok (.aload_n 0, 1) ∧ decode prog_29_method_4_code 1 = .ok (.aload_n 1, 1) ∧ decode prog_29_method_4_code 2 = .ok (.invokespecial 13, 3) ∧ decode prog_29_method_4_code 5 = .ok (.return_, 1) := ⟨by decide +kernel, by decide +kernel, by decide +kernel, by decide +kernel⟩
set_option maxHeartbeats 2000000 in
/-- the constructor and the throw, from the stack message, cell, cell -/
theorem bz_ctor4 {p : Program} {l : Launch} {e : Env} {R : Room} {s : State} {m0 : MethodId} {args : Array Value} {below : List Frame} {meth : Method} {c : Code} {W9 : State} {locs : List Loc} {cells slots : Nat}
    (X : Stand p l e R s m0 args below meth c W9 locs cells slots) (hexec : p.tables.exec = Jvm.exec) (htr : e.platform.stackTraces = false) (hown : s.vm.findClass "BarcodeEngine" = some m0.cls)
    (h1 : ∀ w ∈ Bundle.ownAtoms "BarcodeEngine" 77 "java/lang/IllegalStateException" ["java/lang/RuntimeException", "java/lang/Exception"], w.before args s = true) (h2 : ∀ w ∈ bz_n4a ++ bz_n4b, w.before args s = true)
    (hlocs : ∀ z ∈ locs, ∀ cell, s.heap[z.base]? = some cell → cell.vm.isStatics = false) {a : Addr} {cX : ClassId} {kX : Class} (hfX : s.vm.findClass bz_X4 = some cX) (hkX : s.vm.classes[cX]? = some kX) (hcell : W9.heap[a]? = some (freshCell cX kX)) (hnew : s.heap.size ≤ a)
    {msg : Value} (hmsg : msg.isRef = true) {g : JFrame} (hg : g.method = m0) (hsize : g.locals.size = c.maxLocals) (hlocked : g.locked = none) (hentered : g.entered = []) {rest : List Value} (hstack : g.stack = msg :: .ref a :: .ref a :: rest)
    (hd6 : decode c.code g.pc = .ok (.invokespecial 273, 3)) (hd9 : decode c.code (g.pc + 3) = .ok (.athrow, 1)) (hout : ∀ z ∈ c.exceptionTable.toList, covers z (g.pc + 3) = false)
    (hfr : 5 < R.frames) (hlo : 2 * g.monitorRoom + ((Value.ref a :: rest).map fun v => v.category).sum + 81 ≤ R.locals) (hlocks : meth.locks = false) :
    ∃ U : State, Steps p.tables e below (W9.setTop g) U ∧ U.status = .running ∧ Ended U below (.threw a) ∧ s.WarmedH U.vm ∧ s.sameButNew ({ U with vm := s.vm } : State) locs cells slots ∧ ∃ ce, U.heap[a]? = some ce ∧ ce.cls = cX ∧ ce.vm = .none := by
  have hpl : e.platform.magicAccessors = ({} : Platform).magicAccessors := by rw [X.admits.platform]
  have u : ∀ w, w ∈ Bundle.ownAtoms "BarcodeEngine" 77 "java/lang/IllegalStateException" ["java/lang/RuntimeException", "java/lang/Exception"] → w.holds args s none s [] = true := fun w hw => h1 w hw
  have v : ∀ w, w ∈ bz_n4a ++ bz_n4b → w.holds args s none s [] = true := fun w hw => h2 w hw
  have fR : Bundle.fit "java/lang/RuntimeException" = true := by decide +kernel
  have fE : ∀ n ∈ ["java/lang/Exception"], Bundle.fit n = true := by decide +kernel
  obtain ⟨T, Z0, L, -, Y⟩ := ThrowableC.of_atoms (args := args) (s := s) (by rw [X.admits.platform]) (by rw [X.admits.platform]) hpl (fun w hw => h1 w (by simp [Bundle.ownAtoms, hw]))
  obtain ⟨Z, M, LZ, LM, hZ⟩ := Init0T.ofS_atoms (args := args) hpl L Y (fun w hw => h1 w (by simp [Bundle.ownAtoms, hw]))
  obtain ⟨P2, Ps, hlen, L2, hLs, hP2, hup, hpass⟩ := Bundle.chainS (args := args) hpl hZ ["java/lang/Exception"] "java/lang/RuntimeException" fR fE (fun w hw => h1 w (by simp only [Bundle.ownAtoms, Bundle.chainSAtoms, List.mem_append] at hw ⊢; exact Or.inl (Or.inr (Or.inr hw))))
  obtain ⟨P1, L1, hP1, hP1s⟩ := PassC.ofS_atoms (args := args) (s := s) hpl (X := bz_X4) (Y := "java/lang/RuntimeException") (index := 13) (bytes := prog_29_method_4_code) (by decide +kernel) (Bundle.fit_spec fR).2 bz_n4_d.1 bz_n4_d.2.1 bz_n4_d.2.2.1 bz_n4_d.2.2.2 (fun w hw => h2 w (List.mem_append_left _ hw))
  have hl1 : P1.sup = P2.m := Option.some.inj (hP1s.symm.trans hP2)
  have hf : s.vm.findClass bz_X4 = some P1.m.cls := findClass_of_methodNamed hP1
  cases Option.some.inj (hfX.symm.trans hf)
  obtain ⟨c1, k1, q1, hk, hord, -, -, -⟩ := Cond.instantiable_spec (v (.instantiable bz_X4 6) (by simp [bz_n4b]))
  cases Option.some.inj (q1.symm.trans hf)
  cases Option.some.inj (hkX.symm.trans hk)
  have sel : ∀ (y : MethodName) (t : MethodId), s.methodFound? y.cls y.name y.desc = some t → s.methodNamed? y = some t → (Cond.selects bz_X4 y y).holds args s none s [] = true → selectMethod e.platform s.vm P1.m.cls t = .method t := by
    intro y t g1 g2 g3
    obtain ⟨c2, r2, m2, w1, w2, w3, w4, -⟩ := Cond.selects_spec g3
    cases Option.some.inj (w1.symm.trans hf)
    cases Option.some.inj (w2.symm.trans g1)
    cases Option.some.inj (w3.symm.trans g2)
    rw [Launch.admits_selectMethod X.admits]
    exact w4
  have sel0 := sel Bundle.tFill0 T.fill0 (State.methodFound?_of_named Y.fill0 (by decide)) Y.fill0 (v _ (by simp [bz_n4b]))
  have selF := sel Bundle.tFill T.fill (State.methodFound?_of_named Y.fill (by decide)) Y.fill (v _ (by simp [bz_n4b]))
  obtain ⟨cs0, hcs0, his⟩ := Y.statics
  obtain ⟨u0, hu0⟩ := Cond.staticRefV Y.unassigned L.unassignedStatic L.statics hcs0 his (u (.isRef (.static Bundle.tN "UNASSIGNED_STACK" Bundle.steD)) (by simp [Bundle.ownAtoms]))
  obtain ⟨sen, hsen⟩ := Cond.staticRefV Y.sentinel L.sentinelStatic L.statics hcs0 his (u (.isRef (.static Bundle.tN "SUPPRESSED_SENTINEL" Bundle.listD)) (by simp [Bundle.ownAtoms]))
  obtain ⟨ci, i9, fB, b1, b2, b3, b4, -, b5, b6, b7⟩ := Cond.ownField (t := .object "java/lang/Object") Y.found L.cls (by decide +kernel) (u (.fieldLink Bundle.tN 198 Bundle.tN "backtrace" "Ljava/lang/Object;") (by simp [Bundle.ownAtoms])) (u (.lays Bundle.tN Bundle.tN "backtrace" "Ljava/lang/Object;") (by simp [Bundle.ownAtoms])) e.platform hpl
  obtain ⟨cs, hcs, hse, -, hkeep⟩ := X.same.2.2.2.2.2 T.aS cs0 hcs0
  have hcs : W9.heap[T.aS]? = some cs := hcs
  have hno : ∀ i, (⟨T.aS, i⟩ : Loc) ∉ locs := fun i hm => by
    have := hlocs _ hm cs0 hcs0
    rw [his] at this
    cases this
  have hkn : cs.vm ≠ .unknown := by
    rw [hse]
    intro h
    rw [h] at his
    cases his
  have hne : T.aS ≠ a := fun h => absurd (Array.getElem?_eq_some_iff.mp hcs0).1 (by rw [h]; exact Nat.not_lt.mpr hnew)
  obtain ⟨iM, hfM⟩ := Y.msg
  obtain ⟨tC, dC, eC, nC⟩ := Cond.laysAt hf hk Y.cause (v (.lays bz_X4 Bundle.tN "cause" "Ljava/lang/Throwable;") (by simp [bz_n4b]))
  obtain ⟨tS, dS, eS, nS⟩ := Cond.laysAt hf hk Y.stack (v (.lays bz_X4 Bundle.tN "stackTrace" Bundle.steD) (by simp [bz_n4b]))
  obtain ⟨tP, dP, eP, nP⟩ := Cond.laysAt hf hk Y.supp (v (.lays bz_X4 Bundle.tN "suppressedExceptions" Bundle.listD) (by simp [bz_n4b]))
  obtain ⟨tM, dM, eM, nM⟩ := Cond.laysAt hf hk hfM (v (.lays bz_X4 Bundle.tN "detailMessage" "Ljava/lang/String;") (by simp [bz_n4b]))
  obtain ⟨tB, dB, eB, nB9⟩ := Cond.laysAt hf hk b7 (v (.lays bz_X4 Bundle.tN "backtrace" "Ljava/lang/Object;") (by simp [bz_n4b]))
  have kC := Cond.laysApart eB eC nB9 nC (by rw [b5, Y.causeName]; decide)
  have kS := Cond.laysApart eB eS nB9 nS (by rw [b5, Y.stackName]; decide)
  have kP := Cond.laysApart eB eP nB9 nP (by rw [b5, Y.suppName]; decide)
  have skip : SkipFacts T e.platform s (fun u => u) u0 ((preparedCellV T.toThrowableT (freshCell P1.m.cls kX) a u0 sen).withEntry W9.cur) := by
    refine ⟨{ ci198 := ci, i198 := i9, fBack := fB }, ⟨b1, b2, b3, b4⟩, ?_, fun _ _ => rfl⟩
    have := fresh_default (c := P1.m.cls) tB
    rw [b6] at this
    simpa [preparedCellV, Cell.setSlot, Cell.withEntry, Array.getElem?_setIfInBounds, kC, kS, kP, kC.symm, kS.symm, kP.symm, defaultValue] using this
  obtain ⟨tm, methC, cdC, kC9, vm₁, hnC, -, -, -, -, -, -, -, hW₁, st1⟩ := Steps.initColdS (tb := p.tables) (e := e) (below := below) (s := s) (U := W9) X.here hexec X.warmed hpl hown (t := Bundle.initS bz_X4) rfl rfl ⟨by decide, by decide⟩
    (v (.methodLink "BarcodeEngine" 273 (Bundle.initS bz_X4)) (by simp [bz_n4b])) (h2 (.instanceMethod (Bundle.initS bz_X4)) (by simp [bz_n4a, Bundle.passSAtoms])) (bytes := prog_29_method_4_code) (maxL := 2) (h2 (.code (Bundle.initS bz_X4) prog_29_method_4_code 2 none) (by simp [bz_n4a, Bundle.passSAtoms]))
    (f := g) hg (a := a) (msg := msg) (rest := .ref a :: rest) hstack hd6
  cases Option.some.inj (hnC.symm.trans hP1)
  obtain ⟨vm₂, X₂, st2⟩ := (X.noted hW₁).ctorMessageOffV hexec (g := { g with stack := .ref a :: rest }) hg hsize T L Z LZ M LM (P1 :: P2 :: Ps)
    (fun P hP => by
      rcases List.mem_cons.mp hP with rfl | hP
      · exact L1
      · rcases List.mem_cons.mp hP with rfl | hP
        · exact L2
        · exact hLs P hP) ⟨hl1, hup, hpass⟩ (u0 := u0) (sen := sen) (self := a) hmsg (cell := freshCell P1.m.cls kX) (cellS := cs)
    hcell (fun _ => by simp) (by simp) rfl rfl sel0 selF hcs hne hkn (by rw [hkeep _ (hno _)]; exact hu0) (by rw [hkeep _ (hno _)]; exact hsen)
    (Takes.of_laid hk hord tC (by rw [Y.causeType]; rfl)) (Takes.of_laid hk hord tS (by rw [Y.stackType]; exact fits_refV_array _ u0)) (Takes.of_laid hk hord tP (by rw [Y.suppType]; exact fits_refV_object _ sen))
    (Takes.of_laid hk hord tM (by rw [Y.msgType]; exact fits_refV_object _ ⟨msg, hmsg⟩)) Y.objLocals skip htr [] hd6
    (by simp only [List.length_cons, List.length_nil, hlen]; omega) (by simp only [List.length_cons, List.length_nil, hlen]; exact hlo)
  obtain ⟨w1, w2, w3, w4, w5⟩ := X₂.athrowLeaves hexec (g := { g with stack := .ref a :: rest, pc := g.pc + 3 }) hg hlocked hentered hout (a := a) (rest := rest) rfl hd9
  have hlt : a < ((W9.setVm vm₁).setVm vm₂).heap.size := (Array.getElem?_eq_some_iff.mp hcell).1
  refine ⟨_, st1 _ (fun acts => ?_), w2, w3, w4, w5.weaken (fun y hy hlt' => ?_) (Nat.le_refl _) (Nat.le_refl _), _, heapAt_setCell_self (s := (W9.setVm vm₁).setVm vm₂) (plainBareV T.toThrowableT (freshCell P1.m.cls kX) a u0 sen msg) hlt, rfl, rfl⟩
  · rw [doInvoke_state]
    exact st2 _ w1
  · rcases List.mem_append.mp hy with q | q
    · exact q
    · have hb : y.base = a := by
        simp only [List.mem_cons, List.not_mem_nil, or_false] at q
        rcases q with rfl | rfl | rfl | rfl | rfl <;> rfl
      rw [hb] at hlt'
      exact absurd hlt' (Nat.not_lt.mpr hnew)
theorem bz_i_throw4 {k : Nat} {N : bz_N} {i : Nat} {L : List (Option bz_V)} {st : List bz_V} {μ : bz_M} {is : Nat} {tx : String} (hk : bz_ow k = "BarcodeEngine") (hh : bz_hh0 k = []) (hstr : ("BarcodeEngine", is, tx) ∈ bz_strs) (hfr : 6 ≤ bz_fr k) (hlo : 90 ≤ bz_lo0 k) (hsum : bz_sum st ≤ 8)
    (d0 : decode (bz_b k) (bz_pc k i) = .ok (.new 269, 3)) (d3 : decode (bz_b k) (bz_pc k i + 3) = .ok (.dup, 1)) (d4 : decode (bz_b k) (bz_pc k i + 4) = .ok (.ldc_w is, 3)) (d7 : decode (bz_b k) (bz_pc k i + 7) = .ok (.invokespecial 273, 3)) (d10 : decode (bz_b k) (bz_pc k i + 10) = .ok (.athrow, 1)) : bz_H k N i L st μ (.inr 4, sX μ) := by
  refine ⟨⟨by show C1 μ ≤ C1 μ + 1; omega, by show C2 μ ≤ C2 μ + 6; omega⟩, ?_⟩
  intro p l e R s m args below meth c' H locs ls sv c0 s0 mc ms C a1 a2 a3 a4 a5 a6 hz hS hR hL hv
  have a3 : C1 μ + 1 ≤ c0 + mc := a3
  have a4 : C2 μ + 6 ≤ s0 + ms := a4
  have hts := C.1.2.2.2.2.2.2.2.2.1
  have hE := C.2.2.2.2
  have own := C.1.2.2.2.2.2.1
  rw [hk] at own
  have htb := C.1.2.2.2.2.2.2.2.2.2
  rw [hh] at htb
  obtain ⟨-, -, -, q4, q5, q6⟩ := bz_xall (c := 1) (Or.inl rfl)
  obtain ⟨sa, hsa⟩ := hE.2.1 _ hstr
  have hF := C.2.1
  have hL0 := C.2.2.1
  have hsv := bz_vs_sum hv
  have hout : ∀ (pc : Nat), ∀ x ∈ c'.exceptionTable.toList, covers x pc = false := fun pc x hx => by rw [htb] at hx; cases hx
  have w1 := bz_hatX (args := args) (c := 1) (by decide) hE hts q4 q5
  have w2 : ∀ w ∈ bz_n4a ++ bz_n4b, w.before args s = true := bz_hatX (args := args) (c := 4) (by decide) hE hts (fun w hw => List.mem_append_right _ (bz_n4_good w hw)) bz_n4_ng
  have hxe := bz_xend (c := 4) (by decide) hR hS
  intro T hT X
  have htr : e.platform.stackTraces = false := (show e.platform.stackTraces = l.stackTraces by rw [X.admits.platform]).trans C.1.2.1
  have Y := vx_rebase X (R' := { frames := R.frames, locals := R.locals, cells := 1, slots := 6 }) (Nat.le_refl _) (Nat.le_refl _) (by show C1 μ - c0 + 1 ≤ R.cells; omega) (by show C2 μ - s0 + 6 ≤ R.slots; omega)
  obtain ⟨s', hA⟩ : ∃ z, z = (T.setVm s.vm).setFrames (.invoking m args :: below) := ⟨_, rfl⟩
  rw [← hA] at Y
  have hvm : s'.vm = s.vm := by rw [hA]; rfl
  have hhp : s'.heap = H := by rw [hA]; exact hT
  have hW0 : s.WarmedH s'.vm := by rw [hvm]; exact State.WarmedH.refl s
  have hat' : ∀ w ∈ vx_atS "BarcodeEngine" (bz_ic 1) (bz_exn 1) bz_tn, w.before args s' = true := fun w hw => vx_ot_at hW0 hvm.symm (q6 w (List.mem_cons_of_mem _ (List.mem_cons_of_mem _ hw))) (w1 w hw)
  have n2 : ∀ w ∈ bz_n4a ++ bz_n4b, w.before args s' = true := fun w hw => vx_ot_at hW0 hvm.symm (bz_n4_ot w (List.mem_cons_of_mem _ (List.mem_cons_of_mem _ hw))) (w2 w hw)
  have hk' : (Cond.classLink "BarcodeEngine" 269 bz_X4).before args s' = true := vx_ot_at hW0 hvm.symm (bz_n4_ot _ List.mem_cons_self) (hts _ bz_xk_4)
  have hini' : (Cond.initialized bz_X4).before args s' = true := vx_ot_at hW0 hvm.symm (bz_n4_ot _ (List.mem_cons_of_mem _ List.mem_cons_self)) (hts _ bz_xi_4)
  have hU' : vx_Zq Bundle.tN "UNASSIGNED_STACK" Bundle.steD (bz_A N) s' s'.heap := by rw [hhp]; exact vx_Zq.moved hW0.alike (hE.2.2.2.1.1.kept hS.2.1)
  have hN' : vx_Zq Bundle.tN "SUPPRESSED_SENTINEL" Bundle.listD (bz_A N) s' s'.heap := by rw [hhp]; exact vx_Zq.moved hW0.alike (hE.2.2.2.1.2.kept hS.2.1)
  have n1 : ∀ w ∈ Bundle.ownAtoms "BarcodeEngine" 77 "java/lang/IllegalStateException" ["java/lang/RuntimeException", "java/lang/Exception"], w.before args s' = true := vx_own hat' (vx_isRefq hU'.1) (vx_isRefq hN'.1) hU'.2.word hN'.2.word
  have hown' : s'.vm.findClass "BarcodeEngine" = some m.cls := by rw [hvm]; exact own
  have hins : (Cond.instantiable bz_X4 6).before args s' = true := n2 _ (by simp [bz_n4b])
  obtain ⟨vm₁, cX, kX, hfX, hkX, -, -, X₁, st1⟩ := Y.newCold C.1.1 (own := "BarcodeEngine") (C := bz_X4) (index := 269) (n := 6) hown' hk' hins hini' (g := F0 m (bz_pc k i) ls sv) rfl (by rw [C.1.2.2.1]; exact d0) (Nat.le_refl _) (Nat.le_refl _)
  generalize hT1 : (T.setVm vm₁).pushCell { cls := cX, slots := kX.instanceTypes.map defaultValue, vm := .none } = T1 at X₁ st1
  have hcat : (Value.ref T.heap.size).category = 1 := rfl
  have hcellA : T1.heap[T.heap.size]? = some (freshCell cX kX) := by rw [← hT1]; exact State.heap_pushCell_size _ _
  have d3' : decode c'.code (bz_pc k i + 3) = .ok (.dup, 1) := by rw [C.1.2.2.1]; exact d3
  have d4' : decode c'.code (bz_pc k i + 4) = .ok (.ldc_w is, 3) := by rw [C.1.2.2.1]; exact d4
  have hstr' : vk_R "BarcodeEngine" is tx sa s' := vk_R.warm hW0 hsa
  obtain ⟨U, hsteps, hrun, hend, hW, hsame, ce, hce, hcc, hcv⟩ := bz_ctor4 X₁ C.1.1 htr hown' n1 n2 (fun x hx => nomatch hx) hfX hkX hcellA (by rw [hhp, hT]; exact Nat.le_refl _) (msg := .ref sa) rfl
    (g := { method := m, pc := bz_pc k i + 7, locals := ls, stack := .ref sa :: .ref T.heap.size :: .ref T.heap.size :: sv, locked := none }) rfl (by show ls.size = c'.maxLocals; rw [C.1.2.2.2.1]; exact hL.1) rfl rfl (rest := sv) rfl
    (by rw [C.1.2.2.1]; exact d7) (by rw [C.1.2.2.1]; exact d10) (hout _) (by show 5 < R.frames; omega) (by simp only [List.map_cons, List.sum_cons, hcat, hsv]; show 2 * 0 + (1 + bz_sum st) + 81 ≤ R.locals; omega) C.1.2.2.2.2.1
  obtain ⟨f1, f2⟩ := vx_frame hsame
  rw [hhp] at f1 f2
  have hWs : s.WarmedH U.vm := State.WarmedH.trans hW0 hW
  have hcl : s.vm.findClass bz_X4 = some ce.cls := by
    rw [hcc, ← hvm]
    exact hfX
  have hall : s.sameButNew ({ U with vm := s.vm } : State) locs mc ms := by
    subst hA
    obtain ⟨e1, e2⟩ := hsame
    rw [State.setFrames_setFrames] at e1
    have h2 : (T.setVm s.vm).sameButNew ({ U with vm := s.vm } : State) [] (0 + 1) (0 + 6) := ⟨e1, e2⟩
    have h3 := X.same.trans h2
    rw [List.append_nil] at h3
    exact h3.mono (by omega) (by omega)
  refine ⟨U, ?_, .threw T.heap.size, hrun, hend, Or.inr ⟨T.heap.size, rfl, bz_X4, ce, locs, hxe U hWs.alike f1 (fun q hq => f2 q hq (fun z hz => nomatch hz)), hce, hcv, hcl, hWs, hall, hS.2.2⟩⟩
  refine st1 _ ?_
  show Steps p.tables e below (T1.setTop { method := m, pc := bz_pc k i + 3, locals := ls, stack := .ref T.heap.size :: sv, locked := none }) _
  jvm_step X₁.here [X₁.here.top, C.1.1, d3', Value.category]
  exact X₁.ldcStringW C.1.1 (own := "BarcodeEngine") (text := tx) (index := is) (a := sa) hown' hstr'.1 hstr'.2
    (g := { method := m, pc := bz_pc k i + 4, locals := ls, stack := .ref T.heap.size :: .ref T.heap.size :: sv, locked := none }) rfl d4' _ hsteps
end
section
/-! A METHOD'S CONTRACT -/
theorem bz_plain_all : (List.range bz_KN).all (fun k => plainFor (bz_y k) && decide ((bz_y k).cls = bz_ow k) && decide (bz_pc k 0 = 0)) = true := by decide +kernel
theorem bz_plain {k : Nat} (hk : k < bz_KN) : plainFor (bz_y k) = true ∧ (bz_y k).cls = bz_ow k ∧ bz_pc k 0 = 0 := by
  have h := List.all_eq_true.mp bz_plain_all k (List.mem_range.mpr hk)
  rw [Bool.and_eq_true, Bool.and_eq_true, decide_eq_true_eq, decide_eq_true_eq] at h
  exact ⟨h.1.1, h.1.2, h.2⟩
theorem bz_hw_W {k : Nat} (hk : k < bz_KN) : bz_hw k ∈ bz_W := by
  refine List.mem_filter.mpr ⟨bz_hw_in hk, ?_⟩
  unfold bz_hw
  split <;> rfl
/-- how wide the values are, and where the longs stand -/
def bz_kw : List Nat → Nat
  | [] => 0
  | 1 :: ks => bz_kw ks + 2
  | _ :: ks => bz_kw ks + 1
def bz_lp : Nat → List Nat → List Nat
  | _, [] => []
  | i, 1 :: ks => i :: bz_lp (i + 2) ks
  | i, _ :: ks => bz_lp (i + 1) ks
theorem bz_fl_len : ∀ {vs : List bz_V} {ks : List Nat}, bz_kk vs ks = true → (bz_fl vs).length = bz_kw ks
  | [], [], _ => rfl
  | [], _ :: _, h => by cases h
  | .inl _ :: _, [], h => by cases h
  | .inr (.inl _) :: _, [], h => by cases h
  | .inr (.inr _) :: _, [], h => by cases h
  | .inl x :: vs, k :: ks, h => by
    rw [bz_kk, Bool.and_eq_true] at h
    have e : k = 0 := Nat.eq_of_beq_eq_true h.1
    subst e
    show (bz_fl vs).length + 1 = bz_kw ks + 1
    rw [bz_fl_len h.2]
  | .inr (.inl x) :: vs, k :: ks, h => by
    rw [bz_kk, Bool.and_eq_true] at h
    have e : k = 1 := Nat.eq_of_beq_eq_true h.1
    subst e
    show (bz_fl vs).length + 1 + 1 = bz_kw ks + 2
    rw [bz_fl_len h.2]
  | .inr (.inr x) :: vs, k :: ks, h => by
    rw [bz_kk, Bool.and_eq_true] at h
    have e : k = 2 := Nat.eq_of_beq_eq_true h.1
    subst e
    show (bz_fl vs).length + 1 = bz_kw ks + 1
    rw [bz_fl_len h.2]
theorem bz_fl_long : ∀ {vs : List bz_V} {ks : List Nat} {o : Nat}, bz_kk vs ks = true → ∀ (i : Nat) (v : bz_V), (bz_fl vs)[i]? = some (some v) → bz_cat v = 2 → o + i ∈ bz_lp o ks
  | [], _, _, _, i, v, h, _ => by simp [bz_fl] at h
  | .inl _ :: _, [], _, h, _, _, _, _ => by cases h
  | .inr (.inl _) :: _, [], _, h, _, _, _, _ => by cases h
  | .inr (.inr _) :: _, [], _, h, _, _, _, _ => by cases h
  | .inl x :: vs, k :: ks, o, h, i, v, hi, hc => by
    rw [bz_kk, Bool.and_eq_true] at h
    have e : k = 0 := Nat.eq_of_beq_eq_true h.1
    subst e
    cases i with
    | zero => simp only [bz_fl, List.getElem?_cons_zero, Option.some.injEq] at hi; subst hi; cases hc
    | succ i =>
      have := bz_fl_long (o := o + 1) h.2 i v (by simpa [bz_fl] using hi) hc
      show o + (i + 1) ∈ bz_lp (o + 1) ks
      rw [show o + (i + 1) = o + 1 + i by omega]
      exact this
  | .inr (.inl x) :: vs, k :: ks, o, h, i, v, hi, hc => by
    rw [bz_kk, Bool.and_eq_true] at h
    have e : k = 1 := Nat.eq_of_beq_eq_true h.1
    subst e
    match i, hi with
    | 0, hi => exact List.mem_cons_self
    | 1, hi => simp [bz_fl] at hi
    | i + 2, hi =>
      have := bz_fl_long (o := o + 2) h.2 i v (by simpa [bz_fl] using hi) hc
      refine List.mem_cons_of_mem _ ?_
      rw [show o + (i + 2) = o + 2 + i by omega]
      exact this
  | .inr (.inr x) :: vs, k :: ks, o, h, i, v, hi, hc => by
    rw [bz_kk, Bool.and_eq_true] at h
    have e : k = 2 := Nat.eq_of_beq_eq_true h.1
    subst e
    cases i with
    | zero => simp only [bz_fl, List.getElem?_cons_zero, Option.some.injEq] at hi; subst hi; cases hc
    | succ i =>
      have := bz_fl_long (o := o + 1) h.2 i v (by simpa [bz_fl] using hi) hc
      show o + (i + 1) ∈ bz_lp (o + 1) ks
      rw [show o + (i + 1) = o + 1 + i by omega]
      exact this
/-- the values in the slots -/
theorem bz_sl {N : bz_N} : ∀ {As : List bz_V} {vs : List Value}, bz_vs N As vs → (lg_sl vs).length = (bz_fl As).length ∧ ∀ (i : Nat) (v : bz_V), (bz_fl As)[i]? = some (some v) → ∃ w, (lg_sl vs)[i]? = some (Slot.val w) ∧ bz_vr N v w
  | [], [], _ => ⟨rfl, fun i v h => by simp [bz_fl] at h⟩
  | .inl x :: As, w :: vs, h => by
    obtain ⟨q1, q2⟩ := bz_sl h.2
    have hc : ¬ w.category = 2 := by rw [bz_vr_cat h.1]; exact (by decide : ¬ (1 : Nat) = 2)
    have e : lg_sl (w :: vs) = Slot.val w :: lg_sl vs := by simp [lg_sl, hc]
    refine ⟨by rw [e]; simp [bz_fl, q1], fun i v hi => ?_⟩
    rw [e]
    cases i with
    | zero => simp only [bz_fl, List.getElem?_cons_zero, Option.some.injEq] at hi; subst hi; exact ⟨w, rfl, h.1⟩
    | succ i => simpa using q2 i v (by simpa [bz_fl] using hi)
  | .inr (.inl x) :: As, w :: vs, h => by
    obtain ⟨q1, q2⟩ := bz_sl h.2
    have hc : w.category = 2 := by rw [bz_vr_cat h.1]; rfl
    have e : lg_sl (w :: vs) = Slot.val w :: Slot.second :: lg_sl vs := by simp [lg_sl, hc]
    refine ⟨by rw [e]; simp [bz_fl, q1], fun i v hi => ?_⟩
    rw [e]
    match i, hi with
    | 0, hi => simp only [bz_fl, List.getElem?_cons_zero, Option.some.injEq] at hi; subst hi; exact ⟨w, rfl, h.1⟩
    | 1, hi => simp [bz_fl] at hi
    | i + 2, hi => simpa using q2 i v (by simpa [bz_fl] using hi)
  | .inr (.inr x) :: As, w :: vs, h => by
    obtain ⟨q1, q2⟩ := bz_sl h.2
    have hc : ¬ w.category = 2 := by rw [bz_vr_cat h.1]; exact (by decide : ¬ (1 : Nat) = 2)
    have e : lg_sl (w :: vs) = Slot.val w :: lg_sl vs := by simp [lg_sl, hc]
    refine ⟨by rw [e]; simp [bz_fl, q1], fun i v hi => ?_⟩
    rw [e]
    cases i with
    | zero => simp only [bz_fl, List.getElem?_cons_zero, Option.some.injEq] at hi; subst hi; exact ⟨w, rfl, h.1⟩
    | succ i => simpa using q2 i v (by simpa [bz_fl] using hi)
theorem bz_ll_entry {k : Nat} {N : bz_N} {As : List bz_V} {vs : List Value} {ks : List Nat} (hv : bz_vs N As vs) (hk : bz_kk As ks = true) (hw : bz_kw ks ≤ bz_ml k) (hlg : ∀ j ∈ bz_lp 0 ks, j ∈ bz_lgs k) : bz_ll k N (bz_lo (bz_ml k) As) ((lg_sl vs ++ List.replicate (bz_ml k - (lg_sl vs).length) Slot.unset).toArray) (bz_ml k) := by
  obtain ⟨q1, q2⟩ := bz_sl hv
  have e1 := bz_fl_len hk
  have hle : (lg_sl vs).length ≤ bz_ml k := by rw [q1, e1]; exact hw
  obtain ⟨h1, h2, -⟩ := lv_entry vs hle
  have key : ∀ (i : Nat) (v : bz_V), (bz_lo (bz_ml k) As)[i]? = some (some v) → (bz_fl As)[i]? = some (some v) := by
    intro i v hi
    unfold bz_lo at hi
    rcases Nat.lt_or_ge i (bz_fl As).length with q | q
    · rw [List.getElem?_append_left q] at hi
      exact hi
    · rw [List.getElem?_append_right q, List.getElem?_replicate] at hi
      split at hi <;> cases hi
  refine ⟨h1, h2, ?_, fun i v hi => ?_, fun i v hi hc => ?_⟩
  · unfold bz_lo
    rw [List.length_append, List.length_replicate]
    omega
  · obtain ⟨w, h3, h4⟩ := q2 i v (key i v hi)
    refine ⟨w, ?_, h4⟩
    rw [List.getElem?_toArray, List.getElem?_append_left (List.getElem?_eq_some_iff.mp h3).1]
    exact h3
  · have := bz_fl_long (o := 0) hk i v (key i v hi) hc
    rw [Nat.zero_add] at this
    exact hlg i this
def bz_Pc (N : bz_N) (μ : bz_M) (As : List bz_V) : Array Value → State → Prop := fun a s => (∃ vs : List Value, a = vs.toArray ∧ bz_vs N As vs) ∧ bz_Rep N μ s.heap ∧ bz_E N s s.heap ∧ nB N ≤ s.heap.size ∧ s.heap.size ≤ nB N + C1 μ
def bz_roo (k mc ms : Nat) : Room := { frames := bz_fr k, locals := bz_lo0 k, cells := mc, slots := ms }
def bz_wsk (k : Nat) : List Cond := bz_hw k :: bz_W
theorem bz_blind {N : bz_N} {μ : bz_M} {As : List bz_V} : FrameBlind (bz_Pc N μ As) := by
  intro a U g mk h
  obtain ⟨h1, h2, h3, h4, h5⟩ := h
  exact ⟨h1, h2, bz_E_moved (s := U) (U := U.calling g mk a) (H := U.heap) (locs := []) (State.WarmedH.refl U) rfl ⟨Nat.le_refl _, fun _ _ _ => rfl, fun _ h => nomatch h⟩ h3, h4, h5⟩
theorem bz_met {k : Nat} {N : bz_N} {μ : bz_M} {As : List bz_V} {res : bz_R} {l : Launch} {mc ms : Nat} {ks : List Nat} (hk : k < bz_KN) (hl : l.stackTraces = false) (hkk : bz_kk As ks = true) (hw : bz_kw ks ≤ bz_ml k) (hlg : ∀ j ∈ bz_lp 0 ks, j ∈ bz_lgs k) (h1 : C1 res.2 ≤ C1 μ + mc) (h2 : C2 res.2 ≤ C2 μ + ms) (h : bz_H k N 0 (bz_lo (bz_ml k) As) [] μ res) :
    vx_Met l (bz_y k) (bz_wsk k) (bz_roo k mc ms) (bz_Pc N μ As) (bz_Qc k N res) (bz_XC N res) mc ms (bz_A N) := by
  obtain ⟨p1, p2, p3⟩ := bz_plain hk
  have body : ∀ (p : Program) (e : Env) (s : State) (m : MethodId) (args : Array Value) (below : List Frame) (meth : Method) (c : Code) (s₁ : State), BodyLoose p l (bz_y k) (headSpec (bz_wsk k) (bz_roo k mc ms)) (bz_b k) (bz_ml k) (bz_rt k) e s m args below meth c s₁ → c.maxLocals = bz_ml k → c.exceptionTable.toList = tableOf (bz_hh0 k) → bz_Pc N μ As args s →
      W p l e (headSpec (bz_wsk k) (bz_roo k mc ms)).room s m args below meth c s.heap [] 0 0 (vx_MQ below (bz_Qc k N res) (bz_XC N res) args s mc ms (bz_A N)) (entryFrame m args (bz_ml k)) := by
    intro p e s m args below meth c s₁ B hml htab hP
    obtain ⟨⟨vs, rfl, hvs⟩, hR, hE, hn, hz⟩ := hP
    rw [lg_entry_eq]
    have own := findClass_of_methodNamed B.named
    rw [p2] at own
    have K := h.2 p l e (bz_roo k mc ms) s m vs.toArray below meth c s.heap [] _ [] (C1 μ) (C2 μ) mc ms ⟨⟨B.exec, hl, B.bytes, hml, B.notSynchronized, own, (name_of_methodNamed B.named B.method).1, B.returns, fun w hw => atoms_spec (ws := bz_wsk k) B.pre w (List.mem_cons_of_mem _ hw), htab⟩, Nat.le_refl _, Nat.le_refl _, hn, hE⟩ (Nat.le_refl _) (Nat.le_refl _) h1 h2 (Nat.le_refl _) (Nat.le_refl _) hz ⟨Nat.le_refl _, fun _ _ _ => rfl, fun _ h => nomatch h⟩ hR (bz_ll_entry hvs hkk hw hlg) trivial
    rw [Nat.sub_self, Nat.sub_self, p3] at K
    exact K
  have tab : ∀ (p : Program) (e : Env) (s : State) (m : MethodId) (args : Array Value) (below : List Frame) (meth : Method) (c : Code) (s₁ : State), BodyLoose p l (bz_y k) (headSpec (bz_wsk k) (bz_roo k mc ms)) (bz_b k) (bz_ml k) (bz_rt k) e s m args below meth c s₁ → c.exceptionTable.toList = tableOf (bz_hh0 k) := by
    intro p e s m args below meth c s₁ B
    cases hq : bz_hh0 k with
    | nil =>
      have e1 : bz_wsk k = Cond.code (bz_y k) (bz_b k) (bz_ml k) (bz_rt k) :: bz_W := by unfold bz_wsk bz_hw; rw [hq]
      obtain ⟨meth9, c9, h1, h2, -, -, -, -, h7, -⟩ := Cond.code_spec B.named (atoms_spec (ws := bz_wsk k) B.pre _ (by rw [e1]; exact List.mem_cons_self))
      cases Option.some.inj (h1.symm.trans B.method)
      cases Option.some.inj (h2.symm.trans (Stand.of_body B).code)
      rw [Array.isEmpty_iff.mp h7]
      rfl
    | cons x xs =>
      have e1 : bz_wsk k = Cond.codeWith (bz_y k) (bz_b k) (bz_ml k) (bz_rt k) (x :: xs) :: bz_W := by unfold bz_wsk bz_hw; rw [hq]
      exact vx_table (x := bz_y k) B (atoms_spec (ws := bz_wsk k) B.pre _ (by rw [e1]; exact List.mem_cons_self))
  refine MetFree.of_bodySF (code := bz_b k) (maxLocals := bz_ml k) (ret := bz_rt k) p1 ?_ ?_
  · intro args s m h hn
    cases hq : bz_hh0 k with
    | nil =>
      have e1 : bz_wsk k = Cond.code (bz_y k) (bz_b k) (bz_ml k) (bz_rt k) :: bz_W := by unfold bz_wsk bz_hw; rw [hq]
      obtain ⟨meth, c, h1, h2, h3, h4, h5, h6, -, -⟩ := Cond.code_spec hn (atoms_spec (ws := bz_wsk k) h _ (by rw [e1]; exact List.mem_cons_self))
      exact ⟨meth, c, h1, h2, h3, h4, h5, h6⟩
    | cons x xs =>
      have e1 : bz_wsk k = Cond.codeWith (bz_y k) (bz_b k) (bz_ml k) (bz_rt k) (x :: xs) :: bz_W := by unfold bz_wsk bz_hw; rw [hq]
      obtain ⟨m9, meth, c, hn9, h1, h2, h3, h4, -, h5, h6, -⟩ := Cond.codeWith_spec (atoms_spec (ws := bz_wsk k) h _ (by rw [e1]; exact List.mem_cons_self))
      cases hn.symm.trans hn9
      exact ⟨meth, c, h1, h2, h3, h4, h5, h6⟩
  · intro p e s m args below meth c s₁ B hml hP _
    have hh0 : s₁.heap = s.heap := by rw [B.state]; rfl
    obtain ⟨t, a1, o, b1, b2, b3⟩ := body p e s m args below meth c s₁ B hml (tab p e s m args below meth c s₁ B) hP s₁ hh0 (Stand.of_body B)
    exact ⟨t, o, a1, b1, b2, b3⟩
end
section
/-! CALLS -/
def bz_Run (k : Nat) (N : bz_N) (i : Nat) (As : List bz_V) (rest : List bz_V) (μ : bz_M) (k' : Nat) (res' : bz_R) : Prop :=
  ∀ (p : Program) (l : Launch) (e : Env) (R : Room) (s : State) (m : MethodId) (args : Array Value) (below : List Frame) (meth : Method) (c : Code) (H : Heap) (locs : List Loc) (ls : Array Slot) (vs wr : List Value) (cells slots mc ms : Nat),
    bz_ctx k N p l R s m args meth c → vx_Met l (bz_y k') (bz_wsk k') (bz_roo k' mc ms) (bz_Pc N μ As) (bz_Qc k' N res') (bz_XC N res') mc ms (bz_A N) → PreS s H (bz_Pc N μ As) vs → bz_Rep N μ H → va_S (bz_A N) s.heap H locs → bz_vs N As vs → bz_vs N rest wr → ls.size = c.maxLocals → cells + mc ≤ R.cells ∧ slots + ms ≤ R.slots →
    vx_Run p l e R s m args below meth c H locs cells slots mc ms (F0 m (bz_pc k i) ls (vs.reverse ++ wr)) wr (bz_Qc k' N res' vs.toArray) (bz_XC N res') (bz_A N)
def bz_Th (k : Nat) (N : bz_N) (i : Nat) (L : List (Option bz_V)) (x : Nat) (μ : bz_M) (res : bz_R) : Prop := (C1 μ ≤ C1 res.2 ∧ C2 μ ≤ C2 res.2) ∧
  ∀ (p : Program) (l : Launch) (e : Env) (R : Room) (s : State) (m : MethodId) (args : Array Value) (below : List Frame) (meth : Method) (c : Code) (H : Heap) (locs : List Loc) (ls : Array Slot) (wr : List Value) (c0 s0 mc ms : Nat) (q : Addr) (ce : Cell),
    bz_ctx k N p l R s m args meth c → c0 ≤ C1 μ → s0 ≤ C2 μ → C1 res.2 ≤ c0 + mc → C2 res.2 ≤ s0 + ms → mc ≤ R.cells → ms ≤ R.slots → s.heap.size ≤ nB N + c0 → va_S (bz_A N) s.heap H locs → bz_Rep N μ H → bz_ll k N L ls (bz_ml k) → 1 ≤ x ∧ x ≤ 4 → H[q]? = some ce → ce.vm = .none → s.vm.findClass (bz_exn x) = some ce.cls →
    vx_W p l e R s m args below meth c H locs (C1 μ - c0) (C2 μ - s0) (vx_MQ below (bz_Qc k N res) (bz_XC N res) args s mc ms (bz_A N)) (F0 m (bz_pc k i) ls wr) q
theorem bz_callX {k k' : Nat} {N : bz_N} {i : Nat} {L : List (Option bz_V)} {st : List bz_V} {μ : bz_M} {res' res : bz_R} {kd : List Nat} (hk' : k' < bz_KN) (hkk : bz_kk (st.take kd.length).reverse kd = true) (hp : bz_pc k (i + 1) = bz_pc k i + 3) (hkw : bz_kw kd ≤ bz_ml k') (hlg : ∀ j ∈ bz_lp 0 kd, j ∈ bz_lgs k')
    (h' : bz_H k' N 0 (bz_lo (bz_ml k') (st.take kd.length).reverse) [] μ res') (run : bz_Run k N i (st.take kd.length).reverse (st.drop kd.length) μ k' res')
    (ret : ∀ v, res'.1 = .inl v → bz_H k N (i + 1) L (match bz_rt k' with | none => st.drop kd.length | some _ => v :: st.drop kd.length) res'.2 res) (thr : ∀ x, res'.1 = .inr x → bz_Th k N i L x res'.2 res) : bz_H k N i L st μ res := by
  have mono : C1 res'.2 ≤ C1 res.2 ∧ C2 res'.2 ≤ C2 res.2 := by
    cases hq : res'.1 with
    | inl v => exact (ret v hq).1
    | inr x => exact (thr x hq).1
  have mono' := h'.1
  refine ⟨⟨Nat.le_trans mono'.1 mono.1, Nat.le_trans mono'.2 mono.2⟩, ?_⟩
  intro p l e R s m args below meth c' H locs ls sv c0 s0 mc ms C a1 a2 a3 a4 a5 a6 hz hS hR hL hv
  intro T hT X
  have hup := X.heapSize
  rw [hT] at hup
  obtain ⟨v1, v2⟩ := bz_vs_take kd.length hv
  have v1' := bz_vs_rev v1
  have esv : sv = ((sv.take kd.length).reverse).reverse ++ sv.drop kd.length := by rw [List.reverse_reverse, List.take_append_drop]
  obtain ⟨n1, hn1⟩ : ∃ z, C1 res'.2 = C1 μ + z := ⟨C1 res'.2 - C1 μ, by have := mono'.1; omega⟩
  obtain ⟨n2, hn2⟩ : ∃ z, C2 res'.2 = C2 μ + z := ⟨C2 res'.2 - C2 μ, by have := mono'.2; omega⟩
  have m1 := mono.1
  have m2 := mono.2
  have M := bz_met (mc := n1) (ms := n2) hk' C.1.2.1 hkk hkw hlg (Nat.le_of_eq hn1) (Nat.le_of_eq hn2) h'
  have PS : PreS s H (bz_Pc N μ (st.take kd.length).reverse) (sv.take kd.length).reverse := ⟨bz_blind, fun U hU hW => ⟨⟨_, rfl, v1'⟩, by rw [hU]; exact hR, bz_E_moved hW hU hS C.2.2.2.2, by rw [hU]; exact Nat.le_trans C.2.2.2.1 hS.1, by rw [hU]; omega⟩⟩
  have RUN := run p l e R s m args below meth c' H locs ls _ _ (C1 μ - c0) (C2 μ - s0) n1 n2 C M PS hR hS v1' v2 (by rw [C.1.2.2.2.1]; exact hL.1) ⟨by omega, by omega⟩
  rw [← esv] at RUN
  have q1 : C1 μ - c0 + n1 = C1 res'.2 - c0 := by omega
  have q2 : C2 μ - s0 + n2 = C2 res'.2 - s0 := by omega
  rcases RUN T hT X with ⟨v, st₀, t, T', L', h0, X', hL', e1, e2, ⟨⟨v', hv', hq⟩, hRep, hF⟩, step⟩ | ⟨q, st₀, t, T', L', E, ce, h0, X', hL', e1, e2, ⟨⟨x, hx, rfl, hx1, hx2⟩, hRep, hF⟩, hce, hcv, hcl, step⟩
  · obtain ⟨k1, k2, k3⟩ := vx_keep (A0 := bz_A N) (A1 := bz_A N) (free := bz_A N) h0 e1 hS (fun _ _ h => h) (fun _ h => h) hL' hF
    have hRep' : bz_Rep N res'.2 T'.heap := by rw [e1]; exact hRep
    rw [q1, q2] at X'
    have r := ret v' hv'
    rcases hq with ⟨hr, ho⟩ | ⟨ty, w, hr, ho, hw⟩
    · cases ho
      rw [hr] at r
      have K := r.2 p l e R s m args below meth c' T'.heap (locs ++ L') ls _ c0 s0 mc ms C (by omega) (by omega) a3 a4 a5 a6 hz k3 hRep' hL v2
      rw [hp] at K
      obtain ⟨t2, b1, b2⟩ := K T' rfl X'
      exact ⟨t2, step t2 b1, b2⟩
    · cases ho
      rw [hr] at r
      have K := r.2 p l e R s m args below meth c' T'.heap (locs ++ L') ls (w :: sv.drop kd.length) c0 s0 mc ms C (by omega) (by omega) a3 a4 a5 a6 hz k3 hRep' hL ⟨hw, v2⟩
      rw [hp] at K
      obtain ⟨t2, b1, b2⟩ := K T' rfl X'
      exact ⟨t2, step t2 b1, b2⟩
  · obtain ⟨k1, k2, k3⟩ := vx_keep (A0 := bz_A N) (A1 := bz_A N) (free := bz_A N) h0 e1 hS (fun _ _ h => h) (fun _ h => h) hL' hF
    have hRep' : bz_Rep N res'.2 T'.heap := by rw [e1]; exact hRep
    rw [q1, q2] at X'
    have K := (thr x hx).2 p l e R s m args below meth c' T'.heap (locs ++ L') ls (sv.drop kd.length) c0 s0 mc ms q ce C (by omega) (by omega) a3 a4 a5 a6 hz k3 hRep' hL ⟨hx1, hx2⟩ (by rw [e1]; exact hce) hcv hcl
    obtain ⟨t2, b1, b2⟩ := K T' rfl X'
    exact ⟨t2, step.trans b1, b2⟩
/-- not caught here -/
theorem bz_t_out {k : Nat} {N : bz_N} {i : Nat} {L : List (Option bz_V)} {x : Nat} {μ : bz_M} (h : (tableOf (bz_hh0 k)).all (fun z => !(covers z (bz_pc k i))) = true) : bz_Th k N i L x μ (.inr x, μ) := by
  refine ⟨⟨Nat.le_refl _, Nat.le_refl _⟩, ?_⟩
  intro p l e R s m args below meth c' H locs ls wr c0 s0 mc ms q ce C a1 a2 a3 a4 a5 a6 hz hS hR hL hx hce hcv hcl
  have a3 : C1 μ ≤ c0 + mc := a3
  have a4 : C2 μ ≤ s0 + ms := a4
  refine vx_out (fun z hz => ?_) C.1.2.2.2.2.1 hce hcv hcl (fun t ht _ => ⟨⟨x, rfl, rfl, hx.1, hx.2⟩, by rw [ht]; exact hR, hS.F ht⟩) hS.2.2 (by omega) (by omega)
  rw [C.1.2.2.2.2.2.2.2.2.2] at hz
  have h9 := List.all_eq_true.mp h z hz
  cases hcv : covers z (bz_pc k i)
  · rfl
  · rw [hcv] at h9; cases h9
/-- caught here -/
def bz_cov (k pc x : Nat) : List ExceptionTableEntry → Option Nat
  | [] => none
  | z :: zs => if covers z pc then
      (if z.catchType = 0 then none else
      match (bz_cl0.find? fun e => Nat.beq e.1 (bz_ocs.getD k 0) && Nat.beq e.2.1 z.catchType) with
      | some e => if e.2.2 = bz_exn x then some z.handlerPc else if (bz_exn x, e.2.2) ∈ bz_ncs then bz_cov k pc x zs else none
      | none => none) else bz_cov k pc x zs
theorem bz_cov_split {k pc x h : Nat} : ∀ {tb : List ExceptionTableEntry}, bz_cov k pc x tb = some h → ∃ pre z suf, tb = pre ++ z :: suf ∧ (∀ y ∈ pre, covers y pc = false ∨ (y.catchType ≠ 0 ∧ ∃ nm : String, Cond.classLink (bz_ow k) y.catchType nm ∈ bz_W ∧ (bz_exn x, nm) ∈ bz_ncs)) ∧ covers z pc = true ∧ z.catchType ≠ 0 ∧ Cond.classLink (bz_ow k) z.catchType (bz_exn x) ∈ bz_W ∧ z.handlerPc = h := by
  intro tb
  induction tb with
  | nil => intro h; cases h
  | cons z zs ih =>
    intro hh
    unfold bz_cov at hh
    split at hh
    · rename_i hc
      split at hh
      · cases hh
      · rename_i h0
        split at hh
        · rename_i e he
          have hm := List.mem_of_find?_eq_some he
          have hb := List.find?_some he
          rw [Bool.and_eq_true] at hb
          have b1 := Nat.eq_of_beq_eq_true hb.1
          have b2 := Nat.eq_of_beq_eq_true hb.2
          have hw := bz_cl0_in e hm
          unfold bz_cl0w at hw
          rw [b1, b2] at hw
          split at hh
          · rename_i e3
            cases hh
            rw [e3] at hw
            exact ⟨[], z, zs, rfl, ⟨fun _ h => (by cases h), hc, h0, hw, rfl⟩⟩
          · split at hh
            · rename_i hn
              obtain ⟨pre, y, suf, q1, q2, q3⟩ := ih hh
              refine ⟨z :: pre, y, suf, by rw [q1]; rfl, fun y' hy' => ?_, q3⟩
              rcases List.mem_cons.mp hy' with rfl | hy'
              · exact Or.inr ⟨h0, _, hw, hn⟩
              · exact q2 y' hy'
            · cases hh
        · cases hh
    · rename_i hc
      obtain ⟨pre, y, suf, q1, q2, q3⟩ := ih hh
      refine ⟨z :: pre, y, suf, by rw [q1]; rfl, fun y' hy' => ?_, q3⟩
      rcases List.mem_cons.mp hy' with rfl | hy'
      · exact Or.inl (by simpa using hc)
      · exact q2 y' hy'
theorem bz_t_in {k : Nat} {N : bz_N} {i j : Nat} {L : List (Option bz_V)} {x : Nat} {μ : bz_M} {res : bz_R} (hcov : bz_cov k (bz_pc k i) x (tableOf (bz_hh0 k)) = some (bz_pc k j)) (h : bz_H k N j L [zR 15] μ res) : bz_Th k N i L x μ res := by
  refine ⟨h.1, ?_⟩
  intro p l e R s m args below meth c' H locs ls wr c0 s0 mc ms q ce C a1 a2 a3 a4 a5 a6 hz hS hR hL hx hce hcv hcl
  have hts := C.1.2.2.2.2.2.2.2.2.1
  have hE := C.2.2.2.2
  obtain ⟨pre, z, suf, q1, q2, q3, q4, q5, q6⟩ := bz_cov_split hcov
  have hcas := bz_tng_ok (args := args) hx hE (.castable (bz_exn x) (bz_exn x)) List.mem_cons_self
  obtain ⟨-, -, -, -, -, -, -, -, -, -, h14, -⟩ := hE
  refine vx_catch C.1.2.2.2.2.2.1 pre z suf (by rw [C.1.2.2.2.2.2.2.2.2.2, q1]) (fun y hy => ?_) q3 q4 (hts _ q5) hcas hce hcv hcl ?_
  · rcases q2 y hy with g | ⟨g1, nm, g2, g3⟩
    · exact Or.inl g
    · exact Or.inr ⟨g1, nm, hts _ g2, h14 _ g3⟩
  · rw [q6]
    exact h.2 p l e R s m args below meth c' H locs ls [.ref q] c0 s0 mc ms C a1 a2 a3 a4 a5 a6 hz hS hR hL ⟨by unfold bz_vr; dsimp only; rw [if_pos rfl]; exact Or.inr ⟨_, rfl⟩, trivial⟩
end
section
/-! THE ROWS OF CALLS -/
theorem bz_gw {args : Array Value} {s : State} (hts : ∀ w ∈ bz_W, w.before args s = true) {w : Cond} (hw : w ∈ bz_W) : ∀ (a' : Array Value) (U : State), s.WarmedH U.vm → w.before a' U = true := fun _ _ hW => word_at hW (good_of_word (List.mem_filter.mp hw).2) (hts w hw)
theorem bz_wsk_ok {k' : Nat} (hk' : k' < bz_KN) {args : Array Value} {s : State} (hts : ∀ w ∈ bz_W, w.before args s = true) : ∀ w ∈ bz_wsk k', ∀ (a' : Array Value) (U : State), s.WarmedH U.vm → w.before a' U = true := by
  intro w hw
  rcases List.mem_cons.mp hw with rfl | hw
  · exact bz_gw hts (bz_hw_W hk')
  · exact bz_gw hts hw
theorem bz_hw0 {k' : Nat} (h : bz_hh0 k' = []) : bz_hw k' = .code (bz_y k') (bz_b k') (bz_ml k') (bz_rt k') := by unfold bz_hw; rw [h]
theorem bz_mh_all : (List.range bz_KN).all (fun k => decide ((bz_y k).cls ≠ "java/lang/invoke/MethodHandle" ∧ (bz_y k).cls ≠ "java/lang/invoke/VarHandle")) = true := by decide +kernel
theorem bz_mh {k : Nat} (hk : k < bz_KN) : (bz_y k).cls ≠ "java/lang/invoke/MethodHandle" ∧ (bz_y k).cls ≠ "java/lang/invoke/VarHandle" := of_decide_eq_true (List.all_eq_true.mp bz_mh_all k (List.mem_range.mpr hk))
theorem bz_pnlen {k : Nat} (hk : k < bz_KM) : ∀ sig, parseMethodDescriptor (bz_y k).desc = some sig → bz_pn k = sig.parameters.length := by
  intro sig h
  have h1 := of_decide_eq_true (List.all_eq_true.mp bz_pn_ok k (List.mem_range.mpr hk))
  rw [h] at h1
  exact (Option.some.inj h1).symm
theorem bz_callfix {k : Nat} {N : bz_N} {p : Program} {l : Launch} {R : Room} {s : State} {m : MethodId} {args : Array Value} {meth : Method} {c : Code} (C : bz_ctx k N p l R s m args meth c) : CallFix p m c (bz_b k) c.maxLocals s args bz_W (bz_ow k) := ⟨C.1.1, C.1.2.2.1, rfl, C.1.2.2.2.2.2.1, C.1.2.2.2.2.2.2.2.2.1⟩
/-- what any call asks -/
def bz_fit (k k' : Nat) : Prop := k' < bz_KN ∧ bz_fr k' + 1 ≤ bz_fr k ∧ bz_lo0 k' + bz_ml k' + 19 ≤ bz_lo0 k
theorem bz_callB {k k' : Nat} {N : bz_N} {p : Program} {l : Launch} {R : Room} {s : State} {m : MethodId} {args : Array Value} {meth : Method} {c : Code} {idx mc ms : Nat} (C : bz_ctx k N p l R s m args meth c) (hf : bz_fit k k') (hh : bz_hh0 k' = []) (hi : Cond.initialized (bz_y k').cls ∈ bz_W) (hl : Cond.methodLink (bz_ow k) idx (bz_y k') ∈ bz_W) :
    CallB R s args (bz_ow k) idx (bz_y k') (bz_b k') (bz_ml k') (bz_rt k') (bz_wsk k') (bz_roo k' mc ms) mc ms (bz_pn k') := by
  have hts := C.1.2.2.2.2.2.2.2.2.1
  have hF := C.2.1
  have hL := C.2.2.1
  obtain ⟨h1, h2, h3⟩ := hf
  refine ⟨rfl, rfl, ?_, ?_, bz_wsk_ok h1 hts, ?_, hts _ ?_, hts _ hi, bz_mh h1, bz_pnlen (Nat.lt_succ_of_lt h1), hts _ hl⟩
  · show bz_fr k' + 1 ≤ R.frames
    omega
  · show 8 + (bz_ml k' + 11) + bz_lo0 k' ≤ R.locals
    omega
  · rw [← bz_hw0 hh]; exact List.mem_cons_self
  · rw [← bz_hw0 hh]; exact bz_hw_W h1
theorem bz_wr8 {N : bz_N} {rest : List bz_V} {wr : List Value} (h : bz_vs N rest wr) (hs : bz_sum rest ≤ 8) : 2 * 0 + (wr.map fun v => v.category).sum ≤ 8 := by rw [bz_vs_sum h]; omega
/-- the receiver's cell -/
theorem bz_recv {N : bz_N} {μ : bz_M} {H : Heap} {s : State} {locs : List Loc} {a : Nat} (hR : bz_Rep N μ H) (hE : bz_E N s s.heap) (hS : va_S (bz_A N) s.heap H locs) (ht : (1 ≤ gT μ a ∧ gT μ a ≤ 10) ∨ gT μ a = 28) : ∃ cellB : Cell, H[bz_ad N a]? = some cellB ∧ cellB.vm.isStatics = false ∧ s.vm.findClass (bz_cn1 (gT μ a)) = some cellB.cls := by
  rcases ht with ht | ht
  · have ha := bz_rep_tag hR hE (a := a) (Or.inl ht)
    have he := bz_ws_get (N := N) ha
    rw [bz_ce_obj rfl ht.2] at he
    obtain ⟨Cn, F, hq, -, -, hcn, -, -⟩ := bz_cls ht.1 ht.2
    rw [← hcn]
    exact va_recv hE.1 hR.2 hq he
  · obtain ⟨ha, ha2, hnT⟩ := bz_out hR.1 hE ht (by omega)
    obtain ⟨g1, -, -⟩ := hE.2.2.2.2.2.2.2.2.1 a _ ha hnT
    obtain ⟨cell, h1, h2, h3, h4⟩ := g1
    have e2 : bz_ad N a = nX N a := by unfold bz_ad; rw [if_pos ha]
    rw [e2, ht]
    exact ⟨cell, by rw [hS.2.1 _ (Array.getElem?_eq_some_iff.mp h1).1 h4]; exact h1, h2, h3⟩
theorem bz_no15 {N : bz_N} {μ : bz_M} {H : Heap} {s : State} {a : Nat} (hR : bz_Rep N μ H) (hE : bz_E N s s.heap) (ht : (1 ≤ gT μ a ∧ gT μ a ≤ 10) ∨ gT μ a = 28) : a ≠ 15 := by
  rcases ht with ht | ht
  · have ha := bz_rep_tag hR hE (a := a) (Or.inl ht)
    omega
  · exact (bz_out hR.1 hE ht (by omega)).2.1
theorem bz_run_V {k k' : Nat} {N : bz_N} {i a idx : Nat} {As' rest : List bz_V} {μ : bz_M} {res' : bz_R} (hf : bz_fit k k') (hh : bz_hh0 k' = []) (ht : (1 ≤ gT μ a ∧ gT μ a ≤ 10) ∨ gT μ a = 28) (hcls : bz_cn1 (gT μ a) = (bz_y k').cls) (hl : Cond.methodLink (bz_ow k) idx (bz_y k') ∈ bz_W) (hi : Cond.instanceMethod (bz_y k') ∈ bz_W) (hs : Cond.selects (bz_y k').cls (bz_y k') (bz_y k') ∈ bz_W) (hini : Cond.initialized (bz_y k').cls ∈ bz_W)
    (hd : decode (bz_b k) (bz_pc k i) = .ok (.invokevirtual idx, 3)) (hn : As'.length = bz_pn k') (hsum : bz_sum rest ≤ 8) : bz_Run k N i (zR a :: As') rest μ k' res' := by
  intro p l e R s m args below meth c H locs ls vs wr cells slots mc ms C M PS hR hS hv hvr hls hcs
  have hts := C.1.2.2.2.2.2.2.2.2.1
  have hE := C.2.2.2.2
  obtain ⟨w, ws, rfl, hw, hws⟩ := bz_vs1 hv
  have e1 := bz_vr_in hw (bz_no15 hR hE ht)
  subst e1
  have e2 : (Value.ref (bz_ad N a) :: ws).reverse ++ wr = ws.reverse ++ Value.ref (bz_ad N a) :: wr := by simp
  rw [e2]
  have hrec := bz_recv hR hE hS ht
  rw [hcls] at hrec
  exact vx_runV (bz_callfix C) M ⟨bz_callB C hf hh hini hl, hts _ hi, hts _ hs⟩ ⟨PS.1, hrec, PS.2⟩ rfl ((bz_vs_len hws).trans hn) hls rfl (bz_wr8 hvr hsum) hd hcs
theorem bz_run_S {k k' : Nat} {N : bz_N} {i idx : Nat} {As rest : List bz_V} {μ : bz_M} {res' : bz_R} (hf : bz_fit k k') (hh : bz_hh0 k' = []) (hl : Cond.methodLink (bz_ow k) idx (bz_y k') ∈ bz_W) (hst : Cond.static (bz_y k') ∈ bz_W) (hini : Cond.initialized (bz_y k').cls ∈ bz_W)
    (hd : decode (bz_b k) (bz_pc k i) = .ok (.invokestatic idx, 3)) (hn : As.length = bz_pn k') (hsum : bz_sum rest ≤ 8) : bz_Run k N i As rest μ k' res' := by
  intro p l e R s m args below meth c H locs ls vs wr cells slots mc ms C M PS hR hS hv hvr hls hcs
  have hts := C.1.2.2.2.2.2.2.2.2.1
  exact vx_runS (bz_callfix C) M ⟨bz_callB C hf hh hini hl, hts _ hst⟩ PS rfl ((bz_vs_len hv).trans hn) hls rfl (bz_wr8 hvr hsum) hd hcs
theorem bz_run_W {k k' : Nat} {N : bz_N} {i idx : Nat} {As rest : List bz_V} {μ : bz_M} {res' : bz_R} {h0 : Nat × Nat × Nat × Nat} {hs0 : List (Nat × Nat × Nat × Nat)} (hf : bz_fit k k') (hh : bz_hh0 k' = h0 :: hs0) (hl : Cond.methodLink (bz_ow k) idx (bz_y k') ∈ bz_W) (hst : Cond.static (bz_y k') ∈ bz_W) (hini : Cond.initialized (bz_y k').cls ∈ bz_W)
    (hd : decode (bz_b k) (bz_pc k i) = .ok (.invokestatic idx, 3)) (hn : As.length = bz_pn k') (hsum : bz_sum rest ≤ 8) : bz_Run k N i As rest μ k' res' := by
  intro p l e R s m args below meth c H locs ls vs wr cells slots mc ms C M PS hR hS hv hvr hls hcs
  have hts := C.1.2.2.2.2.2.2.2.2.1
  have hF := C.2.1
  have hL := C.2.2.1
  obtain ⟨h1, h2, h3⟩ := hf
  have e1 : bz_hw k' = .codeWith (bz_y k') (bz_b k') (bz_ml k') (bz_rt k') (h0 :: hs0) := by unfold bz_hw; rw [hh]
  have cw : vx_CSW R s args (bz_ow k) idx (bz_y k') (bz_b k') (bz_ml k') (bz_rt k') (h0 :: hs0) (bz_wsk k') (bz_roo k' mc ms) mc ms (bz_pn k') := by
    refine ⟨⟨rfl, rfl, ?_, ?_, bz_wsk_ok h1 hts, ?_⟩, hts _ ?_, hts _ hini, bz_mh h1, bz_pnlen (Nat.lt_succ_of_lt h1), hts _ hl, hts _ hst⟩
    · show bz_fr k' + 1 ≤ R.frames
      omega
    · show 8 + (bz_ml k' + 11) + bz_lo0 k' ≤ R.locals
      omega
    · rw [← e1]; exact List.mem_cons_self
    · rw [← e1]; exact bz_hw_W h1
  exact vx_runSX (bz_callfix C) M cw PS rfl ((bz_vs_len hv).trans hn) hls rfl (bz_wr8 hvr hsum) hd hcs
/-- a callee that doesn't throw -/
theorem bz_noT {l : Launch} {y : MethodName} {ws : List Cond} {rm : Room} {Pc : Array Value → State → Prop} {k' : Nat} {N : bz_N} {res' : bz_R} {mc ms : Nat} {free : Addr → Prop} {v : bz_V} (hv : res'.1 = .inl v) (M : vx_Met l y ws rm Pc (bz_Qc k' N res') (bz_XC N res') mc ms free) : Met l y ws rm Pc (bz_Qc k' N res') mc ms free := by
  refine MetFree.mono M (fun _ _ h => h) (fun _ _ _ _ _ h => h) (fun a s o t _ h => ?_)
  rcases h with h | ⟨q, ho, E, ce, L, ⟨⟨c, hc, -⟩, -⟩, -⟩
  · exact h
  · rw [hv] at hc
    cases hc
theorem bz_runT {p : Program} {l : Launch} {e : Env} {R : Room} {s : State} {m : MethodId} {args : Array Value} {below : List Frame} {meth : Method} {c : Code} {H : Heap} {locs : List Loc} {cells slots mc ms : Nat} {g : JFrame} {rest : List Value} {Qa : State → Outcome → State → Prop} {XC : String → State → State → Prop} {free : Addr → Prop} (h : va_Run p l e R s m args below meth c H locs cells slots mc ms g rest Qa free) : vx_Run p l e R s m args below meth c H locs cells slots mc ms g rest Qa XC free := fun T hT X => Or.inl (h T hT X)
theorem bz_run_I {k k' : Nat} {N : bz_N} {i a idx : Nat} {As' rest : List bz_V} {μ : bz_M} {res' : bz_R} {v : bz_V} (hv' : res'.1 = .inl v) (hf : bz_fit k k') (hh : bz_hh0 k' = []) (hr : bz_rt k' = none) (hnm : (bz_y k').name = "<init>") (ha : a ≠ 15) (hl : Cond.methodLink (bz_ow k) idx (bz_y k') ∈ bz_W) (hi : Cond.instanceMethod (bz_y k') ∈ bz_W) (hini : Cond.initialized (bz_y k').cls ∈ bz_W)
    (hd : decode (bz_b k) (bz_pc k i) = .ok (.invokespecial idx, 3)) (hn : As'.length = bz_pn k') (hsum : bz_sum rest ≤ 8) : bz_Run k N i (zR a :: As') rest μ k' res' := by
  intro p l e R s m args below meth c H locs ls vs wr cells slots mc ms C M PS hR hS hv hvr hls hcs
  have hts := C.1.2.2.2.2.2.2.2.2.1
  obtain ⟨w, ws, rfl, hw, hws⟩ := bz_vs1 hv
  have e1 := bz_vr_in hw ha
  subst e1
  have e2 : (Value.ref (bz_ad N a) :: ws).reverse ++ wr = ws.reverse ++ Value.ref (bz_ad N a) :: wr := by simp
  rw [e2]
  have cb := bz_callB (mc := mc) (ms := ms) C hf hh hini hl
  rw [hr] at cb
  exact bz_runT (va_runI (bz_callfix C) (bz_noT hv' M) ⟨cb, hnm, hts _ hi⟩ PS rfl ((bz_vs_len hws).trans hn) hls rfl (bz_wr8 hvr hsum) hd hcs)
theorem bz_run_IN {k k' : Nat} {N : bz_N} {i a idx : Nat} {As' rest : List bz_V} {μ : bz_M} {res' : bz_R} {v : bz_V} (hv' : res'.1 = .inl v) (hf : bz_fit k k') (hh : bz_hh0 k' = []) (hr : bz_rt k' = none) (hnm : (bz_y k').name = "<init>") (ha : a ≠ 15) (hl : (bz_ocs.getD k 0, idx, k') ∈ bz_lkn) (hx : bz_x k' = bz_y k') (hi : Cond.instanceMethod (bz_y k') ∈ bz_W) (hini : Cond.initialized (bz_y k').cls ∈ bz_W)
    (hd : decode (bz_b k) (bz_pc k i) = .ok (.invokespecial idx, 3)) (hn : As'.length = bz_pn k') (hsum : bz_sum rest ≤ 8) : bz_Run k N i (zR a :: As') rest μ k' res' := by
  intro p l e R s m args below meth c H locs ls vs wr cells slots mc ms C M PS hR hS hv hvr hls hcs
  have hts := C.1.2.2.2.2.2.2.2.2.1
  have hF := C.2.1
  have hL := C.2.2.1
  obtain ⟨w, ws, rfl, hw, hws⟩ := bz_vs1 hv
  have e1 := bz_vr_in hw ha
  subst e1
  have e2 : (Value.ref (bz_ad N a) :: ws).reverse ++ wr = ws.reverse ++ Value.ref (bz_ad N a) :: wr := by simp
  rw [e2]
  obtain ⟨h1, h2, h3⟩ := hf
  have hE := C.2.2.2.2
  obtain ⟨-, -, -, -, -, -, -, -, -, -, -, h15, -⟩ := hE
  have hlk := h15 _ hl
  unfold bz_lknw at hlk
  dsimp only at hlk
  rw [hx] at hlk
  have cb : va_CN R s args (bz_ow k) idx (bz_y k') "BarcodeEngine" (bz_b k') (bz_ml k') (bz_rt k') (bz_wsk k') (bz_roo k' mc ms) mc ms (bz_pn k') := by
    refine ⟨⟨rfl, rfl, ?_, ?_, bz_wsk_ok h1 hts, ?_⟩, hts _ ?_, hts _ hini, bz_mh h1, bz_pnlen (Nat.lt_succ_of_lt h1), va_Nw.use rfl hlk⟩
    · show bz_fr k' + 1 ≤ R.frames
      omega
    · show 8 + (bz_ml k' + 11) + bz_lo0 k' ≤ R.locals
      omega
    · rw [← bz_hw0 hh]; exact List.mem_cons_self
    · rw [← bz_hw0 hh]; exact bz_hw_W h1
  rw [hr] at cb
  exact bz_runT (va_runIN (bz_callfix C) (bz_noT hv' M) ⟨cb, hnm, hts _ hi⟩ PS rfl ((bz_vs_len hws).trans hn) hls rfl (bz_wr8 hvr hsum) hd hcs)
/-- the declaration that a reference finds -/
def bz_dcl (x : MethodName) : Prop := (Cond.instanceMethod x ∈ bz_W ∧ ∃ b m r, Cond.code x b m r ∈ bz_W) ∨ ∃ e ∈ bz_decl, bz_x e = x
theorem bz_run_U {k k' : Nat} {N : bz_N} {i a idx : Nat} {As' rest : List bz_V} {μ : bz_M} {res' : bz_R} {v : bz_V} {x : MethodName} (hv' : res'.1 = .inl v) (hf : bz_fit k k') (hh : bz_hh0 k' = []) (ht : 1 ≤ gT μ a ∧ gT μ a ≤ 3) (hx : x.cls = "BarcodeEngine$Symbology" ∧ x.desc = (bz_y k').desc) (hl : Cond.methodLink (bz_ow k) idx x ∈ bz_W) (hsm : Cond.sameMethod x.cls x.cls x.name x.desc ∈ bz_W) (hdc : bz_dcl x) (hi : Cond.instanceMethod (bz_y k') ∈ bz_W) (hs : Cond.selects (bz_cn1 (gT μ a)) x (bz_y k') ∈ bz_W) (hini : Cond.initialized (bz_y k').cls ∈ bz_W)
    (hd : decode (bz_b k) (bz_pc k i) = .ok (.invokevirtual idx, 3)) (hn : As'.length = bz_pn k') (hsum : bz_sum rest ≤ 8) : bz_Run k N i (zR a :: As') rest μ k' res' := by
  intro p l e R s m args below meth c H locs ls vs wr cells slots mc ms C M PS hR hS hv hvr hls hcs
  have hts := C.1.2.2.2.2.2.2.2.2.1
  have hE := C.2.2.2.2
  have hF := C.2.1
  have hL := C.2.2.1
  have ht' : (1 ≤ gT μ a ∧ gT μ a ≤ 10) ∨ gT μ a = 28 := Or.inl ⟨ht.1, by omega⟩
  obtain ⟨w, ws, rfl, hw, hws⟩ := bz_vs1 hv
  have e1 := bz_vr_in hw (bz_no15 hR hE ht')
  subst e1
  have e2 : (Value.ref (bz_ad N a) :: ws).reverse ++ wr = ws.reverse ++ Value.ref (bz_ad N a) :: wr := by simp
  rw [e2]
  have hrec := bz_recv hR hE hS ht'
  obtain ⟨h1, h2, h3⟩ := hf
  have hde : va_Decl s x := by
    rcases hdc with ⟨q1, b9, m9, r9, q2⟩ | ⟨e9, q1, rfl⟩
    · exact va_Decl.of (hts _ q1) (hts _ q2)
    · obtain ⟨-, -, -, -, -, -, -, -, -, -, -, -, h16, -⟩ := hE
      exact va_Decl.abs (h16 e9 q1)
  have cw : va_CU R s args (bz_ow k) (bz_cn1 (gT μ a)) x.cls idx x (bz_y k') (bz_b k') (bz_ml k') (bz_rt k') (bz_wsk k') (bz_roo k' mc ms) mc ms (bz_pn k') := by
    refine ⟨⟨rfl, rfl, ?_, ?_, bz_wsk_ok h1 hts, ?_⟩, hts _ ?_, hts _ hini, by rw [hx.1]; decide, by rw [hx.2]; exact bz_pnlen (Nat.lt_succ_of_lt h1), hts _ hl, hts _ hsm, hde, hts _ hs, hts _ hi⟩
    · show bz_fr k' + 1 ≤ R.frames
      omega
    · show 8 + (bz_ml k' + 11) + bz_lo0 k' ≤ R.locals
      omega
    · rw [← bz_hw0 hh]; exact List.mem_cons_self
    · rw [← bz_hw0 hh]; exact bz_hw_W h1
  exact bz_runT (va_runU (bz_callfix C) (bz_noT hv' M) cw ⟨PS.1, hrec, PS.2⟩ rfl ((bz_vs_len hws).trans hn) hls rfl (bz_wr8 hvr hsum) hd hcs)
end
section
/-! THE WALK OF A BLOCK, AND WHAT IS CHECKED OF AN INSTRUCTION -/
theorem bz_go_at {ct : List bz_C} {mls : List Nat} {rec : bz_X0} {k : Nat} {L : List (Option bz_V)} {st : List bz_V} {μ : bz_M} : ∀ (cs : List Instr) (d : Nat), bz_go ct mls rec k cs d L st μ = match cs[d]? with
    | some ins => bz_step ct mls rec k ins (fun j => bz_go ct mls rec k cs (d + 1 + j)) L st μ
    | none => none := by
  intro cs
  induction cs with
  | nil => intro d; rfl
  | cons c cs ih =>
    intro d
    cases d with
    | zero =>
      have e : (fun j => bz_go ct mls rec k (c :: cs) (0 + 1 + j)) = bz_go ct mls rec k cs := by
        funext j
        rw [show 0 + 1 + j = j + 1 by omega]
        rfl
      rw [e]
      rfl
    | succ d =>
      have e : (fun j => bz_go ct mls rec k (c :: cs) (d + 1 + 1 + j)) = fun j => bz_go ct mls rec k cs (d + 1 + j) := by
        funext j
        rw [show d + 1 + 1 + j = (d + 1 + j) + 1 by omega]
        rfl
      rw [e, List.getElem?_cons_succ]
      exact ih d
/-- where a jump goes -/
def bz_tgt (i : Nat) (o : Int) : Nat := match o with
  | .ofNat d => i + 1 + d
  | .negSucc v => v / 16777216
/-- what follows is sound -/
def bz_Ks (k : Nat) (N : bz_N) (i : Nat) (ks : Nat → bz_K) : Prop := ∀ (d : Nat) (L : List (Option bz_V)) (st : List bz_V) (μ : bz_M) (res : bz_R), ks d L st μ = some res → bz_H k N (i + 1 + d) L st μ res
def bz_Rc (N : bz_N) (rec : bz_X0) : Prop := ∀ (k i : Nat) (L : List (Option bz_V)) (st : List bz_V) (μ : bz_M) (res : bz_R), k < bz_KM → rec k i L st μ = some res → bz_H k N i L st μ res
theorem bz_j_ok {k : Nat} {N : bz_N} {i : Nat} {rec : bz_X0} {ks : Nat → bz_K} {o : Int} {L : List (Option bz_V)} {st : List bz_V} {μ : bz_M} {res : bz_R} (hk : k < bz_KM) (hr : bz_Rc N rec) (hks : bz_Ks k N i ks) (h : bz_j rec k ks o L st μ = some res) : bz_H k N (bz_tgt i o) L st μ res := by
  cases o with
  | ofNat d => exact hks d L st μ res h
  | negSucc v => exact bz_i_mask (hr k (v / 16777216) _ st μ res hk h)
def bz_cs (k i : Nat) : Option (Instr × Nat) := match decode (bz_b k) (bz_pc k i) with
  | .ok x => some x
  | .error _ => none
theorem bz_cs_eq {k i n : Nat} {c : Instr} (h : bz_cs k i = some (c, n)) : decode (bz_b k) (bz_pc k i) = .ok (c, n) := by
  unfold bz_cs at h
  split at h
  · rename_i x hx
    rw [hx, Option.some.inj h]
  · cases h
def bz_nx (k i n : Nat) : Bool := Nat.beq (bz_pc k (i + 1)) (bz_pc k i + n)
theorem bz_nx_eq {k i n : Nat} (h : bz_nx k i n = true) : bz_pc k (i + 1) = bz_pc k i + n := Nat.eq_of_beq_eq_true h
/-- an instruction of one byte, the same in both -/
def bz_k1 (k i : Nat) (ins : Instr) : Bool := bz_nx k i 1 && decide (bz_cs k i = some (ins, 1))
theorem bz_k1_inv {k i : Nat} {ins : Instr} (h : bz_k1 k i ins = true) : decode (bz_b k) (bz_pc k i) = .ok (ins, 1) ∧ bz_pc k (i + 1) = bz_pc k i + 1 := by
  unfold bz_k1 at h
  rw [Bool.and_eq_true] at h
  exact ⟨bz_cs_eq (of_decide_eq_true h.2), bz_nx_eq h.1⟩
/-- a jump's offset -/
def bz_to1 (k i : Nat) (off o : Int) : Bool := decide ((bz_pc k i : Int) + off = (bz_pc k (bz_tgt i o) : Int))
/-! switches -/
def bz_lok (k i : Nat) : List (Int × Int) → List (Int × Int) → Bool
  | [], [] => true
  | q :: cs, q' :: as => decide (q.1 = q'.1) && bz_to1 k i q.2 q'.2 && bz_lok k i cs as
  | _, _ => false
theorem bz_lok_sel {k i : Nat} {cd ad x : Int} {f : Int → Option bz_R} (hd : bz_to1 k i cd ad = true) : ∀ {cs as : List (Int × Int)}, bz_lok k i cs as = true → ∃ o', bz_lkp as x f ad = f o' ∧ (bz_pc k i : Int) + Op.lookupswitch.offset cs cd x = (bz_pc k (bz_tgt i o') : Int)
  | [], [], _ => ⟨ad, rfl, of_decide_eq_true hd⟩
  | [], _ :: _, h => by cases h
  | _ :: _, [], h => by cases h
  | (a, o) :: cs, (a', o') :: as, h => by
    rw [bz_lok, Bool.and_eq_true, Bool.and_eq_true] at h
    have e : a = a' := of_decide_eq_true h.1.1
    subst e
    rw [Op.lookupswitch.offset_cons]
    unfold bz_lkp
    dsimp only
    by_cases q : x = a
    · rw [if_pos q, if_pos q.symm]
      exact ⟨o', rfl, of_decide_eq_true h.1.2⟩
    · rw [if_neg q, if_neg (fun z => q z.symm)]
      exact bz_lok_sel hd h.2
theorem bz_i_look {k : Nat} {N : bz_N} {i len : Nat} {L : List (Option bz_V)} {st : List bz_V} {μ : bz_M} {res : bz_R} {x cd ad : Int} {cs : Array (Int × Int)} {as : List (Int × Int)} {rec : bz_X0} {ks : Nat → bz_K} (hk : k < bz_KM) (hr : bz_Rc N rec) (hks : bz_Ks k N i ks) (hdg : decode (bz_b k) (bz_pc k i) = .ok (.lookupswitch cd cs, len)) (hp : (cs.toList.zip (cs.toList.drop 1)).all (fun (a, next) => a.1 < next.1) = true) (hd : bz_to1 k i cd ad = true) (hl : bz_lok k i cs.toList as = true)
    (h : bz_lkp as x (fun o => bz_j rec k ks o L st μ) ad = some res) : bz_H k N i L (zI x :: st) μ res := by
  obtain ⟨o', e1, e2⟩ := bz_lok_sel (x := x) (f := fun o => bz_j rec k ks o L st μ) hd hl
  rw [e1] at h
  refine bz_pure (bz_j_ok hk hr hks h) fun sv hv => ?_
  obtain ⟨w1, ws, rfl, ⟨n0, rfl, e0⟩, t⟩ := bz_vs1 hv
  refine ⟨ws, t, fun p l e R s m args below meth c H locs cells slots Q ls C kk => ?_⟩
  rw [← e0] at e2
  exact lv_lookup C.1.1 C.1.2.2.1 hdg hp rfl e2 kk
def bz_tok (k i : Nat) : List Int → List Int → Bool
  | [], [] => true
  | o :: cs, o' :: as => bz_to1 k i o o' && bz_tok k i cs as
  | _, _ => false
theorem bz_tok_at {k i : Nat} : ∀ {cs as : List Int} {j : Nat} {o' : Int}, bz_tok k i cs as = true → as[j]? = some o' → ∃ o, cs[j]? = some o ∧ (bz_pc k i : Int) + o = (bz_pc k (bz_tgt i o') : Int)
  | [], [], _, _, _, h => by cases h
  | [], _ :: _, _, _, h, _ => by cases h
  | _ :: _, [], _, _, h, _ => by cases h
  | o :: cs, a :: as, j, o', h, hj => by
    rw [bz_tok, Bool.and_eq_true] at h
    cases j with
    | zero => cases hj; exact ⟨o, rfl, of_decide_eq_true h.1⟩
    | succ j =>
      obtain ⟨o2, h1, h2⟩ := bz_tok_at (j := j) h.2 (by simpa using hj)
      exact ⟨o2, by simpa using h1, h2⟩
theorem bz_i_table {k : Nat} {N : bz_N} {i len : Nat} {L : List (Option bz_V)} {st : List bz_V} {μ : bz_M} {res : bz_R} {x cd ad lo hi : Int} {cs as : Array Int} {rec : bz_X0} {ks : Nat → bz_K} (hk : k < bz_KM) (hr : bz_Rc N rec) (hks : bz_Ks k N i ks) (hdg : decode (bz_b k) (bz_pc k i) = .ok (.tableswitch cd lo hi cs, len)) (hd : bz_to1 k i cd ad = true) (hl : bz_tok k i cs.toList as.toList = true)
    (h : (if x < lo ∨ hi < x then bz_j rec k ks ad L st μ else match as.toList[(x - lo).toNat]? with
      | some o => bz_j rec k ks o L st μ
      | none => none) = some res) : bz_H k N i L (zI x :: st) μ res := by
  split at h
  · rename_i q
    refine bz_pure (bz_j_ok hk hr hks h) fun sv hv => ?_
    obtain ⟨w1, ws, rfl, ⟨n0, rfl, e0⟩, t⟩ := bz_vs1 hv
    refine ⟨ws, t, fun p l e R s m args below meth c H locs cells slots Q ls C kk => ?_⟩
    rw [← e0] at q
    exact lv_tableOut C.1.1 C.1.2.2.1 hdg q (of_decide_eq_true hd) kk
  · rename_i q
    split at h
    · rename_i o' ho
      obtain ⟨o, h1, h2⟩ := bz_tok_at hl ho
      refine bz_pure (bz_j_ok hk hr hks h) fun sv hv => ?_
      obtain ⟨w1, ws, rfl, ⟨n0, rfl, e0⟩, t⟩ := bz_vs1 hv
      refine ⟨ws, t, fun p l e R s m args below meth c H locs cells slots Q ls C kk => ?_⟩
      rw [← e0] at q h1
      exact lv_tableIn C.1.1 C.1.2.2.1 hdg (fun z => q (Or.inl z)) (fun z => q (Or.inr z)) (by rw [← Array.getElem?_toList]; exact h1) h2 kk
    · cases h
end
section
/-! CHECKS: constants, locals, branches -/
def bz_kI (k i : Nat) (v : Int) : Bool := match bz_cs k i with
  | some (.iconst m, 1) => bz_nx k i 1 && decide ((Int32.ofInt m).toInt = v)
  | some (.bipush m, 2) => bz_nx k i 2 && decide (((Int8.ofInt m).toInt32).toInt = v)
  | some (.sipush m, 3) => bz_nx k i 3 && decide (((Int16.ofInt m).toInt32).toInt = v)
  | some (.ldc j, 2) => bz_nx k i 2 && bz_ki.any fun e => Nat.beq e.1 (bz_ocs.getD k 0) && Nat.beq e.2.1 j && decide (e.2.2.toInt = v)
  | some (.ldc_w j, 3) => bz_nx k i 3 && bz_ki.any fun e => Nat.beq e.1 (bz_ocs.getD k 0) && Nat.beq e.2.1 j && decide (e.2.2.toInt = v)
  | some (.getstatic j, 3) => bz_nx k i 3 && Nat.beq j 38 && decide (bz_ow k = "java/lang/String") && decide (v = 1)
  | _ => false
theorem bz_ki_get {k j : Nat} {v : Int} (h : (bz_ki.any fun e => Nat.beq e.1 (bz_ocs.getD k 0) && Nat.beq e.2.1 j && decide (e.2.2.toInt = v)) = true) : ∃ w : Int32, Cond.constant (bz_ow k) j w ∈ bz_W ∧ w.toInt = v := by
  obtain ⟨e, he, h2⟩ := List.any_eq_true.mp h
  rw [Bool.and_eq_true, Bool.and_eq_true] at h2
  have b1 := Nat.eq_of_beq_eq_true h2.1.1
  have b2 := Nat.eq_of_beq_eq_true h2.1.2
  have hw := bz_ki_in e he
  unfold bz_kiw at hw
  rw [b1, b2] at hw
  exact ⟨e.2.2, hw, of_decide_eq_true h2.2⟩
theorem bz_q_iconst {k : Nat} {N : bz_N} {i : Nat} {L : List (Option bz_V)} {st : List bz_V} {μ : bz_M} {res : bz_R} {v : Int} (hc : bz_kI k i v = true) (h : bz_H k N (i + 1) L (zI v :: st) μ res) : bz_H k N i L st μ res := by
  unfold bz_kI at hc
  split at hc
  · rename_i m hd
    rw [Bool.and_eq_true, decide_eq_true_eq] at hc
    rw [← hc.2] at h
    exact bz_i_iconst (len := 0) (bz_cs_eq hd) (bz_nx_eq hc.1) h
  · rename_i m hd
    rw [Bool.and_eq_true, decide_eq_true_eq] at hc
    rw [← hc.2] at h
    exact bz_i_bipush (len := 0) (bz_cs_eq hd) (bz_nx_eq hc.1) h
  · rename_i m hd
    rw [Bool.and_eq_true, decide_eq_true_eq] at hc
    rw [← hc.2] at h
    exact bz_i_sipush (len := 0) (bz_cs_eq hd) (bz_nx_eq hc.1) h
  · rename_i j hd
    rw [Bool.and_eq_true] at hc
    obtain ⟨w, h1, h2⟩ := bz_ki_get hc.2
    rw [← h2] at h
    exact bz_i_ldcI (len := 0) h1 (bz_cs_eq hd) (bz_nx_eq hc.1) h
  · rename_i j hd
    rw [Bool.and_eq_true] at hc
    obtain ⟨w, h1, h2⟩ := bz_ki_get hc.2
    rw [← h2] at h
    exact bz_i_ldcwI (len := 0) h1 (bz_cs_eq hd) (bz_nx_eq hc.1) h
  · rename_i j hd
    rw [Bool.and_eq_true, Bool.and_eq_true, Bool.and_eq_true, decide_eq_true_eq, decide_eq_true_eq] at hc
    have e1 := Nat.eq_of_beq_eq_true hc.1.1.2
    subst e1
    rw [hc.2] at h
    exact bz_i_compact (by rw [hc.1.2]; exact bz_sg_12_38) (bz_cs_eq hd) (bz_nx_eq hc.1.1.1) h
  · cases hc
def bz_kL (k i : Nat) (v : Int) : Bool := match bz_cs k i with
  | some (.lconst m, 1) => bz_nx k i 1 && decide ((Int64.ofNat (m : Nat)).toInt = v)
  | some (.ldc2_w j, 3) => bz_nx k i 3 && bz_kl.any fun e => Nat.beq e.1 (bz_ocs.getD k 0) && Nat.beq e.2.1 j && decide (e.2.2.toInt = v)
  | _ => false
theorem bz_q_bipush {k : Nat} {N : bz_N} {i : Nat} {L : List (Option bz_V)} {st : List bz_V} {μ : bz_M} {res : bz_R} {v : Int} (hc : bz_kL k i v = true) (h : bz_H k N (i + 1) L (zL v :: st) μ res) : bz_H k N i L st μ res := by
  unfold bz_kL at hc
  split at hc
  · rename_i m hd
    rw [Bool.and_eq_true, decide_eq_true_eq] at hc
    rw [← hc.2] at h
    exact bz_i_lconst (len := 0) (bz_cs_eq hd) (bz_nx_eq hc.1) h
  · rename_i j hd
    rw [Bool.and_eq_true] at hc
    obtain ⟨e, he, h2⟩ := List.any_eq_true.mp hc.2
    rw [Bool.and_eq_true, Bool.and_eq_true, decide_eq_true_eq] at h2
    have b1 := Nat.eq_of_beq_eq_true h2.1.1
    have b2 := Nat.eq_of_beq_eq_true h2.1.2
    have hw := bz_kl_in e he
    unfold bz_klw at hw
    rw [b1, b2] at hw
    rw [← h2.2] at h
    exact bz_i_ldc2 (len := 0) hw (bz_cs_eq hd) (bz_nx_eq hc.1) h
  · cases hc
def bz_kA (k i a : Nat) : Bool := match bz_cs k i with
  | some (.getstatic j, 3) => bz_nx k i 3 && (decide (a = 2 ∧ bz_ow k = "BarcodeEngine$Ean8" ∧ j = 25) || decide (a = 3 ∧ bz_ow k = "BarcodeEngine$Interleaved" ∧ j = 31) || decide (a = 4 ∧ bz_ow k = "BarcodeEngine$Codabar" ∧ j = 25) || decide (a = 15 ∧ bz_ow k = "java/lang/String" ∧ j = 1053))
  | some (.ldc_w 337, 3) => bz_nx k i 3 && decide (a = 5 ∧ bz_ow k = "BarcodeEngine")
  | some (.ldc 84, 2) => bz_nx k i 2 && decide (a = 6 ∧ bz_ow k = "BarcodeEngineModel")
  | _ => false
theorem bz_q_ldc {k : Nat} {N : bz_N} {i : Nat} {L : List (Option bz_V)} {st : List bz_V} {μ : bz_M} {res : bz_R} {a : Nat} (hc : bz_kA k i a = true) (h : bz_H k N (i + 1) L (zR a :: st) μ res) : bz_H k N i L st μ res := by
  unfold bz_kA at hc
  split at hc
  · rename_i j hd
    rw [Bool.and_eq_true, Bool.or_eq_true, Bool.or_eq_true, Bool.or_eq_true, decide_eq_true_eq, decide_eq_true_eq, decide_eq_true_eq, decide_eq_true_eq] at hc
    rcases hc.2 with ((q | q) | q) | ⟨q1, q2, q3⟩
    · exact bz_i_getA (Or.inl q) (bz_cs_eq hd) (bz_nx_eq hc.1) h
    · exact bz_i_getA (Or.inr (Or.inl q)) (bz_cs_eq hd) (bz_nx_eq hc.1) h
    · exact bz_i_getA (Or.inr (Or.inr q)) (bz_cs_eq hd) (bz_nx_eq hc.1) h
    · subst q1 q3
      exact bz_i_siobe (by rw [q2]; exact bz_sg_12_1053) (bz_cs_eq hd) (bz_nx_eq hc.1) h
  · rename_i hd
    rw [Bool.and_eq_true, decide_eq_true_eq] at hc
    obtain ⟨h1, rfl, h2⟩ := hc
    exact bz_i_ldc5 h2 (bz_cs_eq hd) (bz_nx_eq h1) h
  · rename_i hd
    rw [Bool.and_eq_true, decide_eq_true_eq] at hc
    obtain ⟨h1, rfl, h2⟩ := hc
    exact bz_i_ldc6 h2 (bz_cs_eq hd) (bz_nx_eq h1) h
  · cases hc
def bz_k_iload (k i j : Nat) : Bool := match bz_cs k i with
  | some (.iload j', 2) => bz_nx k i 2 && Nat.beq j' j
  | some (.iload_n jj, 1) => bz_nx k i 1 && Nat.beq (jj : Nat) j
  | _ => false
theorem bz_q_iload {k : Nat} {N : bz_N} {i : Nat} {L : List (Option bz_V)} {st : List bz_V} {μ : bz_M} {res : bz_R} {x : Int} {j : Nat} (hc : bz_k_iload k i j = true) (hl : L[j]? = some (some (zI x))) (h : bz_H k N (i + 1) L (zI x :: st) μ res) : bz_H k N i L st μ res := by
  unfold bz_k_iload at hc
  split at hc
  · rename_i j' hd
    rw [Bool.and_eq_true] at hc
    have e1 := Nat.eq_of_beq_eq_true hc.2
    subst e1
    exact bz_i_iload (bz_cs_eq hd) (bz_nx_eq hc.1) hl h
  · rename_i jj hd
    rw [Bool.and_eq_true] at hc
    exact bz_i_iloadn (Nat.eq_of_beq_eq_true hc.2) (bz_cs_eq hd) (bz_nx_eq hc.1) hl h
  · cases hc
def bz_k_lload (k i j : Nat) : Bool := match bz_cs k i with
  | some (.lload j', 2) => bz_nx k i 2 && Nat.beq j' j
  | some (.lload_n jj, 1) => bz_nx k i 1 && Nat.beq (jj : Nat) j
  | _ => false
theorem bz_q_lload {k : Nat} {N : bz_N} {i : Nat} {L : List (Option bz_V)} {st : List bz_V} {μ : bz_M} {res : bz_R} {x : Int} {j : Nat} (hc : bz_k_lload k i j = true) (hl : L[j]? = some (some (zL x))) (h : bz_H k N (i + 1) L (zL x :: st) μ res) : bz_H k N i L st μ res := by
  unfold bz_k_lload at hc
  split at hc
  · rename_i j' hd
    rw [Bool.and_eq_true] at hc
    have e1 := Nat.eq_of_beq_eq_true hc.2
    subst e1
    exact bz_i_lload (bz_cs_eq hd) (bz_nx_eq hc.1) hl h
  · rename_i jj hd
    rw [Bool.and_eq_true] at hc
    exact bz_i_lloadn (Nat.eq_of_beq_eq_true hc.2) (bz_cs_eq hd) (bz_nx_eq hc.1) hl h
  · cases hc
def bz_k_aload (k i j : Nat) : Bool := match bz_cs k i with
  | some (.aload j', 2) => bz_nx k i 2 && Nat.beq j' j
  | some (.aload_n jj, 1) => bz_nx k i 1 && Nat.beq (jj : Nat) j
  | _ => false
theorem bz_q_aload {k : Nat} {N : bz_N} {i : Nat} {L : List (Option bz_V)} {st : List bz_V} {μ : bz_M} {res : bz_R} {x : Nat} {j : Nat} (hc : bz_k_aload k i j = true) (hl : L[j]? = some (some (zR x))) (h : bz_H k N (i + 1) L (zR x :: st) μ res) : bz_H k N i L st μ res := by
  unfold bz_k_aload at hc
  split at hc
  · rename_i j' hd
    rw [Bool.and_eq_true] at hc
    have e1 := Nat.eq_of_beq_eq_true hc.2
    subst e1
    exact bz_i_aload (bz_cs_eq hd) (bz_nx_eq hc.1) hl h
  · rename_i jj hd
    rw [Bool.and_eq_true] at hc
    exact bz_i_aloadn (Nat.eq_of_beq_eq_true hc.2) (bz_cs_eq hd) (bz_nx_eq hc.1) hl h
  · cases hc
/-- a slot that may be written: in range, and not a long's second -/
def bz_sl1 (k j : Nat) : Bool := Nat.blt j (bz_ml k) && !((bz_lgs k).any fun q => Nat.beq (q + 1) j)
theorem bz_sl1_eq {k j : Nat} (h : bz_sl1 k j = true) : j < bz_ml k ∧ ∀ q, q + 1 = j → q ∉ bz_lgs k := by
  unfold bz_sl1 at h
  rw [Bool.and_eq_true] at h
  refine ⟨Nat.le_of_ble_eq_true h.1, fun q hq hm => ?_⟩
  have : ((bz_lgs k).any fun q => Nat.beq (q + 1) j) = true := List.any_eq_true.mpr ⟨q, hm, by rw [hq]; exact Nat.beq_refl j⟩
  rw [this] at h
  cases h.2
def bz_k_istore (k i j : Nat) : Bool := bz_sl1 k j && match bz_cs k i with
  | some (.istore j', 2) => bz_nx k i 2 && Nat.beq j' j
  | some (.istore_n jj, 1) => bz_nx k i 1 && Nat.beq (jj : Nat) j
  | _ => false
theorem bz_q_istore {k : Nat} {N : bz_N} {i : Nat} {L : List (Option bz_V)} {st : List bz_V} {μ : bz_M} {res : bz_R} {x : Int} {j : Nat} (hc : bz_k_istore k i j = true) (h : bz_H k N (i + 1) (L.set j (some (zI x))) st μ res) : bz_H k N i L (zI x :: st) μ res := by
  unfold bz_k_istore at hc
  rw [Bool.and_eq_true] at hc
  obtain ⟨g1, g2⟩ := bz_sl1_eq hc.1
  have hc := hc.2
  split at hc
  · rename_i j' hd
    rw [Bool.and_eq_true] at hc
    have e1 := Nat.eq_of_beq_eq_true hc.2
    subst e1
    exact bz_i_istore (bz_cs_eq hd) (bz_nx_eq hc.1) g1 g2 h
  · rename_i jj hd
    rw [Bool.and_eq_true] at hc
    exact bz_i_istoren (Nat.eq_of_beq_eq_true hc.2) (bz_cs_eq hd) (bz_nx_eq hc.1) g1 g2 h
  · cases hc
def bz_k_astore (k i j : Nat) : Bool := bz_sl1 k j && match bz_cs k i with
  | some (.astore j', 2) => bz_nx k i 2 && Nat.beq j' j
  | some (.astore_n jj, 1) => bz_nx k i 1 && Nat.beq (jj : Nat) j
  | _ => false
theorem bz_q_astore {k : Nat} {N : bz_N} {i : Nat} {L : List (Option bz_V)} {st : List bz_V} {μ : bz_M} {res : bz_R} {x : Nat} {j : Nat} (hc : bz_k_astore k i j = true) (h : bz_H k N (i + 1) (L.set j (some (zR x))) st μ res) : bz_H k N i L (zR x :: st) μ res := by
  unfold bz_k_astore at hc
  rw [Bool.and_eq_true] at hc
  obtain ⟨g1, g2⟩ := bz_sl1_eq hc.1
  have hc := hc.2
  split at hc
  · rename_i j' hd
    rw [Bool.and_eq_true] at hc
    have e1 := Nat.eq_of_beq_eq_true hc.2
    subst e1
    exact bz_i_astore (bz_cs_eq hd) (bz_nx_eq hc.1) g1 g2 h
  · rename_i jj hd
    rw [Bool.and_eq_true] at hc
    exact bz_i_astoren (Nat.eq_of_beq_eq_true hc.2) (bz_cs_eq hd) (bz_nx_eq hc.1) g1 g2 h
  · cases hc
def bz_k_lstore (k i j : Nat) : Bool := bz_sl1 k j && Nat.blt (j + 1) (bz_ml k) && (bz_lgs k).any (fun q => Nat.beq q j) && match bz_cs k i with
  | some (.lstore j', 2) => bz_nx k i 2 && Nat.beq j' j
  | some (.lstore_n jj, 1) => bz_nx k i 1 && Nat.beq (jj : Nat) j
  | _ => false
theorem bz_q_lstore {k : Nat} {N : bz_N} {i : Nat} {L : List (Option bz_V)} {st : List bz_V} {μ : bz_M} {res : bz_R} {x : Int} {j : Nat} (hc : bz_k_lstore k i j = true) (h : bz_H k N (i + 1) ((L.set j (some (zL x))).set (j + 1) none) st μ res) : bz_H k N i L (zL x :: st) μ res := by
  unfold bz_k_lstore at hc
  rw [Bool.and_eq_true, Bool.and_eq_true, Bool.and_eq_true] at hc
  obtain ⟨⟨⟨c1, c2⟩, c3⟩, hc⟩ := hc
  obtain ⟨g1, g2⟩ := bz_sl1_eq c1
  have g3 : j + 1 < bz_ml k := Nat.le_of_ble_eq_true c2
  have g4 : j ∈ bz_lgs k := by
    obtain ⟨q, h1, h2⟩ := List.any_eq_true.mp c3
    rw [← Nat.eq_of_beq_eq_true h2]
    exact h1
  split at hc
  · rename_i j' hd
    rw [Bool.and_eq_true] at hc
    have e1 := Nat.eq_of_beq_eq_true hc.2
    subst e1
    exact bz_i_lstore (bz_cs_eq hd) (bz_nx_eq hc.1) g3 g4 g2 h
  · rename_i jj hd
    rw [Bool.and_eq_true] at hc
    exact bz_i_lstoren (Nat.eq_of_beq_eq_true hc.2) (bz_cs_eq hd) (bz_nx_eq hc.1) g3 g4 g2 h
  · cases hc
def bz_k_iinc (k i j : Nat) (c9 : Int) : Bool := bz_sl1 k j && match bz_cs k i with
  | some (.iinc j' c', 3) => bz_nx k i 3 && Nat.beq j' j && decide (c' = c9) && decide ((Int32.ofInt c9).toInt = c9)
  | _ => false
theorem bz_q_iinc {k : Nat} {N : bz_N} {i : Nat} {L : List (Option bz_V)} {st : List bz_V} {μ : bz_M} {res : bz_R} {x c9 : Int} {j : Nat} (hc : bz_k_iinc k i j c9 = true) (hl : L[j]? = some (some (zI x))) (h : bz_H k N (i + 1) (L.set j (some (zI (wr (x + c9))))) st μ res) : bz_H k N i L st μ res := by
  unfold bz_k_iinc at hc
  rw [Bool.and_eq_true] at hc
  obtain ⟨g1, g2⟩ := bz_sl1_eq hc.1
  have hc := hc.2
  split at hc
  · rename_i j' c' hd
    rw [Bool.and_eq_true, Bool.and_eq_true, Bool.and_eq_true, decide_eq_true_eq, decide_eq_true_eq] at hc
    have e1 := Nat.eq_of_beq_eq_true hc.1.1.2
    have e2 := hc.1.2
    subst e1 e2
    exact bz_i_iinc (bz_cs_eq hd) (bz_nx_eq hc.1.1.1) hc.2 hl g1 g2 h
  · cases hc
def bz_kgo (k i : Nat) (o : Int) : Bool := Nat.beq (bz_pc k (bz_tgt i o)) (bz_pc k i) || match bz_cs k i with
  | some (.goto off, 3) => bz_to1 k i off o
  | _ => false
theorem bz_q_goto {k : Nat} {N : bz_N} {i : Nat} {L : List (Option bz_V)} {st : List bz_V} {μ : bz_M} {res : bz_R} {o : Int} (hc : bz_kgo k i o = true) (h : bz_H k N (bz_tgt i o) L st μ res) : bz_H k N i L st μ res := by
  unfold bz_kgo at hc
  rw [Bool.or_eq_true] at hc
  rcases hc with hc | hc
  · exact bz_i_cut (Nat.eq_of_beq_eq_true hc) h
  · split at hc
    · rename_i off hd
      exact bz_i_goto (bz_cs_eq hd) (of_decide_eq_true hc) h
    · cases hc
def bz_kif (k i : Nat) (cc : ClassFile.Cond) (o : Int) : Bool := match bz_cs k i with
  | some (.ifCond cc' off, 3) => bz_nx k i 3 && bz_to1 k i off o && decide (cc' = cc)
  | _ => false
theorem bz_q_if {k : Nat} {N : bz_N} {i : Nat} {L : List (Option bz_V)} {st : List bz_V} {μ : bz_M} {res : bz_R} {x : Int} {cc : ClassFile.Cond} {o : Int} {A B : Option bz_R} (hc : bz_kif k i cc o = true) (hh : bz_if cc x 0 A B = some res) (hA : A = some res → bz_H k N (bz_tgt i o) L st μ res) (hB : B = some res → bz_H k N (i + 1) L st μ res) : bz_H k N i L (zI x :: st) μ res := by
  unfold bz_kif at hc
  split at hc
  · rename_i cc' off hd
    rw [Bool.and_eq_true, Bool.and_eq_true, decide_eq_true_eq] at hc
    obtain ⟨⟨h1, h2⟩, rfl⟩ := hc
    exact bz_i_if (bz_cs_eq hd) (bz_nx_eq h1) (of_decide_eq_true h2) hh hA hB
  · cases hc
def bz_kicmp (k i : Nat) (cc : ClassFile.Cond) (o : Int) : Bool := match bz_cs k i with
  | some (.if_icmp cc' off, 3) => bz_nx k i 3 && bz_to1 k i off o && decide (cc' = cc)
  | _ => false
theorem bz_q_icmp {k : Nat} {N : bz_N} {i : Nat} {L : List (Option bz_V)} {st : List bz_V} {μ : bz_M} {res : bz_R} {x y : Int} {cc : ClassFile.Cond} {o : Int} {A B : Option bz_R} (hc : bz_kicmp k i cc o = true) (hh : bz_if cc x y A B = some res) (hA : A = some res → bz_H k N (bz_tgt i o) L st μ res) (hB : B = some res → bz_H k N (i + 1) L st μ res) : bz_H k N i L (zI y :: zI x :: st) μ res := by
  unfold bz_kicmp at hc
  split at hc
  · rename_i cc' off hd
    rw [Bool.and_eq_true, Bool.and_eq_true, decide_eq_true_eq] at hc
    obtain ⟨⟨h1, h2⟩, rfl⟩ := hc
    exact bz_i_icmp (bz_cs_eq hd) (bz_nx_eq h1) (of_decide_eq_true h2) hh hA hB
  · cases hc
end
section
/-! CHECKS: fields, cells, ends -/
/-- the field that an entry names -/
def bz_fe (k j p : Nat) : Option (Nat × Nat × String × Nat) := bz_flk.find? fun e => Nat.beq e.1 (bz_ocs.getD k 0) && Nat.beq e.2.1 j && Nat.beq e.2.2.2 p
theorem bz_fe_eq {k j p : Nat} {e : Nat × Nat × String × Nat} (h : bz_fe k j p = some e) : Cond.fieldLink (bz_ow k) j e.2.2.1 (bz_fnd p).2.1 (bz_fnd p).2.2.1 ∈ bz_W := by
  have hm := List.mem_of_find?_eq_some h
  have hb := List.find?_some h
  rw [Bool.and_eq_true, Bool.and_eq_true] at hb
  have b1 := Nat.eq_of_beq_eq_true hb.1.1
  have b2 := Nat.eq_of_beq_eq_true hb.1.2
  have b3 := Nat.eq_of_beq_eq_true hb.2
  have hw := bz_fl_in e hm
  unfold bz_flw at hw
  rw [b1, b2, b3] at hw
  exact hw
def bz_sfb (ref : String) (p : Nat) : Bool := decide (ref = (bz_fnd p).1) || (decide (ref = "BarcodeEngine$Ean8" ∧ (bz_fnd p).1 = "BarcodeEngine$Symbology" ∧ (bz_fnd p).2.2.1 = "I") && decide ((bz_fnd p).2.1 ∈ bz_sf))
theorem bz_sfb_eq {ref : String} {p : Nat} (h : bz_sfb ref p = true) : bz_same1 ref (bz_fnd p) := by
  unfold bz_sfb at h
  rw [Bool.or_eq_true, Bool.and_eq_true, decide_eq_true_eq, decide_eq_true_eq, decide_eq_true_eq] at h
  rcases h with h | ⟨⟨h1, h2, h3⟩, h4⟩
  · exact Or.inl h
  · have := bz_sf_in _ h4
    unfold bz_sfw at this
    rw [← h1, ← h2, ← h3] at this
    exact Or.inr this
/-- a field of a class of ours: its slot, its kind -/
def bz_pk (p κ : Nat) : Bool := Nat.ble 1 (p / 100) && Nat.ble (p / 100) 10 && Nat.blt (p % 100) (bz_ns (p / 100)) && Nat.beq (bz_fk (p / 100) (p % 100)) κ
theorem bz_pk_eq {p κ : Nat} (h : bz_pk p κ = true) : (1 ≤ p / 100 ∧ p / 100 ≤ 10) ∧ p % 100 < bz_ns (p / 100) ∧ bz_fk (p / 100) (p % 100) = κ ∧ p / 100 * 100 + p % 100 = p := by
  unfold bz_pk at h
  rw [Bool.and_eq_true, Bool.and_eq_true, Bool.and_eq_true] at h
  exact ⟨⟨Nat.le_of_ble_eq_true h.1.1.1, Nat.le_of_ble_eq_true h.1.1.2⟩, Nat.le_of_ble_eq_true h.1.2, Nat.eq_of_beq_eq_true h.2, by omega⟩
def bz_finb (k p : Nat) : Bool := !((bz_fnd p).2.2.2) || (decide ((bz_y k).name = "<init>") && decide ((bz_fnd p).1 = bz_ow k))
theorem bz_finb_eq {k p : Nat} (h : bz_finb k p = true) : (bz_fnd p).2.2.2 = false ∨ ((bz_fnd p).2.2.2 = true ∧ (bz_y k).name = "<init>" ∧ (bz_fnd p).1 = bz_ow k) := by
  unfold bz_finb at h
  cases hq : (bz_fnd p).2.2.2
  · exact Or.inl rfl
  · rw [hq, Bool.or_eq_true, Bool.and_eq_true, decide_eq_true_eq, decide_eq_true_eq] at h
    rcases h with h | h
    · cases h
    · exact Or.inr ⟨rfl, h⟩
def bz_kget (k i p κ : Nat) : Bool := bz_pk p κ && match bz_cs k i with
  | some (.getfield j, 3) => bz_nx k i 3 && (match bz_fe k j p with
    | some e => bz_sfb e.2.2.1 p
    | none => false)
  | _ => false
theorem bz_kget_eq {k i p κ : Nat} (hc : bz_kget k i p κ = true) : bz_pk p κ = true ∧ ∃ (j : Nat) (e : Nat × Nat × String × Nat), decode (bz_b k) (bz_pc k i) = .ok (.getfield j, 3) ∧ bz_pc k (i + 1) = bz_pc k i + 3 ∧ bz_fe k j p = some e ∧ bz_sfb e.2.2.1 p = true := by
  unfold bz_kget at hc
  rw [Bool.and_eq_true] at hc
  refine ⟨hc.1, ?_⟩
  have hc := hc.2
  split at hc
  · rename_i j hd
    rw [Bool.and_eq_true] at hc
    have h2 := hc.2
    split at h2
    · rename_i e he
      exact ⟨j, e, bz_cs_eq hd, bz_nx_eq hc.1, he, h2⟩
    · cases h2
  · cases hc
def bz_kput (k i p κ : Nat) : Bool := bz_pk p κ && bz_finb k p && match bz_cs k i with
  | some (.putfield j, 3) => bz_nx k i 3 && (match bz_fe k j p with
    | some e => bz_sfb e.2.2.1 p
    | none => false)
  | _ => false
theorem bz_kput_eq {k i p κ : Nat} (hc : bz_kput k i p κ = true) : bz_pk p κ = true ∧ bz_finb k p = true ∧ ∃ (j : Nat) (e : Nat × Nat × String × Nat), decode (bz_b k) (bz_pc k i) = .ok (.putfield j, 3) ∧ bz_pc k (i + 1) = bz_pc k i + 3 ∧ bz_fe k j p = some e ∧ bz_sfb e.2.2.1 p = true := by
  unfold bz_kput at hc
  rw [Bool.and_eq_true, Bool.and_eq_true] at hc
  refine ⟨hc.1.1, hc.1.2, ?_⟩
  have hc := hc.2
  split at hc
  · rename_i j hd
    rw [Bool.and_eq_true] at hc
    have h2 := hc.2
    split at h2
    · rename_i e he
      exact ⟨j, e, bz_cs_eq hd, bz_nx_eq hc.1, he, h2⟩
    · cases h2
  · cases hc
theorem bz_q_getfield {k : Nat} {N : bz_N} {i : Nat} {L : List (Option bz_V)} {st : List bz_V} {μ : bz_M} {res : bz_R} {a p : Nat} (hc : bz_kget k i p 0 = true) (hT : gT μ a = p / 100) (h : bz_H k N (i + 1) L (zI (gM μ a ((p % 100 : Nat) : Int)) :: st) μ res) : bz_H k N i L (zR a :: st) μ res := by
  obtain ⟨c1, j, e, c2, c3, c4, c5⟩ := bz_kget_eq hc
  obtain ⟨d1, d2, d3, d4⟩ := bz_pk_eq c1
  exact bz_i_getI hT d1 d2 c2 c3 (by rw [d4]; exact bz_fe_eq c4) (by rw [d4]; exact bz_sfb_eq c5) d3 h
theorem bz_q_fload {k : Nat} {N : bz_N} {i : Nat} {L : List (Option bz_V)} {st : List bz_V} {μ : bz_M} {res : bz_R} {a p : Nat} (hc : bz_kget k i p 1 = true) (hT : gT μ a = p / 100) (h : bz_H k N (i + 1) L (zL (gG μ a ((p % 100 : Nat) : Int)) :: st) μ res) : bz_H k N i L (zR a :: st) μ res := by
  obtain ⟨c1, j, e, c2, c3, c4, c5⟩ := bz_kget_eq hc
  obtain ⟨d1, d2, d3, d4⟩ := bz_pk_eq c1
  exact bz_i_getL hT d1 d2 c2 c3 (by rw [d4]; exact bz_fe_eq c4) (by rw [d4]; exact bz_sfb_eq c5) d3 h
theorem bz_q_getref {k : Nat} {N : bz_N} {i : Nat} {L : List (Option bz_V)} {st : List bz_V} {μ : bz_M} {res : bz_R} {a p : Nat} (hc : bz_kget k i p 2 = true) (hT : gT μ a = p / 100) (hnz : gP μ a ((p % 100 : Nat) : Int) ≠ 0) (h : bz_H k N (i + 1) L (zR (gP μ a ((p % 100 : Nat) : Int)) :: st) μ res) : bz_H k N i L (zR a :: st) μ res := by
  obtain ⟨c1, j, e, c2, c3, c4, c5⟩ := bz_kget_eq hc
  obtain ⟨d1, d2, d3, d4⟩ := bz_pk_eq c1
  exact bz_i_getR hT d1 d2 c2 c3 (by rw [d4]; exact bz_fe_eq c4) (by rw [d4]; exact bz_sfb_eq c5) d3 hnz h
theorem bz_q_putfield {k : Nat} {N : bz_N} {i : Nat} {L : List (Option bz_V)} {st : List bz_V} {μ : bz_M} {res : bz_R} {a p : Nat} {x : Int} (hc : bz_kput k i p 0 = true) (hT : gT μ a = p / 100) (hty : bz_tyf (p / 100) (p % 100) = .int) (h : bz_H k N (i + 1) L st (sM μ a ((p % 100 : Nat) : Int) x) res) : bz_H k N i L (zI x :: zR a :: st) μ res := by
  obtain ⟨c1, c6, j, e, c2, c3, c4, c5⟩ := bz_kput_eq hc
  obtain ⟨d1, d2, d3, d4⟩ := bz_pk_eq c1
  exact bz_i_putI hT d1 d2 c2 c3 (by rw [d4]; exact bz_fe_eq c4) (by rw [d4]; exact bz_sfb_eq c5) (by rw [d4]; exact bz_finb_eq c6) d3 (Or.inl hty) h
theorem bz_q_dstore {k : Nat} {N : bz_N} {i : Nat} {L : List (Option bz_V)} {st : List bz_V} {μ : bz_M} {res : bz_R} {a p : Nat} {x : Int} (hc : bz_kput k i p 0 = true) (hT : gT μ a = p / 100) (hty : bz_tyf (p / 100) (p % 100) = .boolean) (h01 : x = 0 ∨ x = 1) (h : bz_H k N (i + 1) L st (sM μ a ((p % 100 : Nat) : Int) x) res) : bz_H k N i L (zI x :: zR a :: st) μ res := by
  obtain ⟨c1, c6, j, e, c2, c3, c4, c5⟩ := bz_kput_eq hc
  obtain ⟨d1, d2, d3, d4⟩ := bz_pk_eq c1
  exact bz_i_putI hT d1 d2 c2 c3 (by rw [d4]; exact bz_fe_eq c4) (by rw [d4]; exact bz_sfb_eq c5) (by rw [d4]; exact bz_finb_eq c6) d3 (Or.inr ⟨hty, h01⟩) h
theorem bz_q_fstore {k : Nat} {N : bz_N} {i : Nat} {L : List (Option bz_V)} {st : List bz_V} {μ : bz_M} {res : bz_R} {a p : Nat} {x : Int} (hc : bz_kput k i p 1 = true) (hT : gT μ a = p / 100) (h : bz_H k N (i + 1) L st (sG μ a ((p % 100 : Nat) : Int) x) res) : bz_H k N i L (zL x :: zR a :: st) μ res := by
  obtain ⟨c1, c6, j, e, c2, c3, c4, c5⟩ := bz_kput_eq hc
  obtain ⟨d1, d2, d3, d4⟩ := bz_pk_eq c1
  exact bz_i_putL hT d1 d2 c2 c3 (by rw [d4]; exact bz_fe_eq c4) (by rw [d4]; exact bz_sfb_eq c5) (by rw [d4]; exact bz_finb_eq c6) d3 h
theorem bz_q_putref {k : Nat} {N : bz_N} {i : Nat} {L : List (Option bz_V)} {st : List bz_V} {μ : bz_M} {res : bz_R} {a p : Nat} {x : Nat} (hc : bz_kput k i p 2 = true) (hT : gT μ a = p / 100) (h16 : 16 ≤ x) (h : bz_H k N (i + 1) L st (sP μ a ((p % 100 : Nat) : Int) x) res) : bz_H k N i L (zR x :: zR a :: st) μ res := by
  obtain ⟨c1, c6, j, e, c2, c3, c4, c5⟩ := bz_kput_eq hc
  obtain ⟨d1, d2, d3, d4⟩ := bz_pk_eq c1
  exact bz_i_putR hT d1 d2 c2 c3 (by rw [d4]; exact bz_fe_eq c4) (by rw [d4]; exact bz_sfb_eq c5) (by rw [d4]; exact bz_finb_eq c6) d3 h16 h
def bz_kgS (k i j : Nat) : Bool := Nat.blt j 4 && match bz_cs k i with
  | some (.getfield f, 3) => bz_nx k i 3 && (match bz_fe k f (5000 + j) with
    | some e => bz_sfb e.2.2.1 (5000 + j)
    | none => false)
  | _ => false
theorem bz_q_dload {k : Nat} {N : bz_N} {i : Nat} {L : List (Option bz_V)} {st : List bz_V} {μ : bz_M} {res : bz_R} {a j : Nat} (hc : bz_kgS k i j = true) (hT : gT μ a = 1 ∨ gT μ a = 2 ∨ gT μ a = 3) (h : bz_H k N (i + 1) L (zI (gM μ a (j : Int)) :: st) μ res) : bz_H k N i L (zR a :: st) μ res := by
  unfold bz_kgS at hc
  rw [Bool.and_eq_true] at hc
  have hj : j < 4 := Nat.le_of_ble_eq_true hc.1
  have hc := hc.2
  split at hc
  · rename_i f hd
    rw [Bool.and_eq_true] at hc
    have h2 := hc.2
    split at h2
    · rename_i e he
      exact bz_i_getS hT hj (bz_cs_eq hd) (bz_nx_eq hc.1) (bz_fe_eq he) (bz_sfb_eq h2) h
    · cases h2
  · cases hc
def bz_kpS (k i j : Nat) : Bool := Nat.blt j 4 && bz_finb k (5000 + j) && match bz_cs k i with
  | some (.putfield f, 3) => bz_nx k i 3 && (match bz_fe k f (5000 + j) with
    | some e => bz_sfb e.2.2.1 (5000 + j)
    | none => false)
  | _ => false
theorem bz_q_putS {k : Nat} {N : bz_N} {i : Nat} {L : List (Option bz_V)} {st : List bz_V} {μ : bz_M} {res : bz_R} {a j : Nat} {x : Int} (hc : bz_kpS k i j = true) (hT : gT μ a = 1 ∨ gT μ a = 2 ∨ gT μ a = 3) (h : bz_H k N (i + 1) L st (sM μ a (j : Int) x) res) : bz_H k N i L (zI x :: zR a :: st) μ res := by
  unfold bz_kpS at hc
  rw [Bool.and_eq_true, Bool.and_eq_true] at hc
  have hj : j < 4 := Nat.le_of_ble_eq_true hc.1.1
  have hf := bz_finb_eq hc.1.2
  have hc := hc.2
  split at hc
  · rename_i f hd
    rw [Bool.and_eq_true] at hc
    have h2 := hc.2
    split at h2
    · rename_i e he
      exact bz_i_putS hT hj (bz_cs_eq hd) (bz_nx_eq hc.1) (bz_fe_eq he) (bz_sfb_eq h2) hf h
    · cases h2
  · cases hc
/-- a String's field -/
def bz_kstr (k i p : Nat) : Bool := match bz_cs k i with
  | some (.getfield f, 3) => bz_nx k i 3 && (match bz_fe k f p with
    | some e => decide (e.2.2.1 = "java/lang/String")
    | none => false)
  | _ => false
theorem bz_kstr_eq {k i p : Nat} (hc : bz_kstr k i p = true) : ∃ j, decode (bz_b k) (bz_pc k i) = .ok (.getfield j, 3) ∧ bz_pc k (i + 1) = bz_pc k i + 3 ∧ Cond.fieldLink (bz_ow k) j "java/lang/String" (bz_fnd p).2.1 (bz_fnd p).2.2.1 ∈ bz_W := by
  unfold bz_kstr at hc
  split at hc
  · rename_i f hd
    rw [Bool.and_eq_true] at hc
    have h2 := hc.2
    split at h2
    · rename_i e he
      have := bz_fe_eq he
      rw [of_decide_eq_true h2] at this
      exact ⟨f, bz_cs_eq hd, bz_nx_eq hc.1, this⟩
    · cases h2
  · cases hc
theorem bz_q_strV {k : Nat} {N : bz_N} {i : Nat} {L : List (Option bz_V)} {st : List bz_V} {μ : bz_M} {res : bz_R} {a : Nat} (hc : bz_kstr k i 2800 = true) (hT : gT μ a = 28) (hnz : gP μ a 0 ≠ 0) (h : bz_H k N (i + 1) L (zR (gP μ a 0) :: st) μ res) : bz_H k N i L (zR a :: st) μ res := by
  obtain ⟨j, h1, h2, h3⟩ := bz_kstr_eq hc
  exact bz_i_strV hT hnz h1 h2 h3 h
theorem bz_q_strC {k : Nat} {N : bz_N} {i : Nat} {L : List (Option bz_V)} {st : List bz_V} {μ : bz_M} {res : bz_R} {a : Nat} (hc : bz_kstr k i 2801 = true) (hT : gT μ a = 28) (h : bz_H k N (i + 1) L (zI (gM μ a 1) :: st) μ res) : bz_H k N i L (zR a :: st) μ res := by
  obtain ⟨j, h1, h2, h3⟩ := bz_kstr_eq hc
  exact bz_i_strC hT h1 h2 h3 h
/-- a class by its entry -/
def bz_ce0 (k j : Nat) (nm : String) : Bool := bz_cl0.any fun e => Nat.beq e.1 (bz_ocs.getD k 0) && Nat.beq e.2.1 j && decide (e.2.2 = nm)
theorem bz_ce0_eq {k j : Nat} {nm : String} (h : bz_ce0 k j nm = true) : Cond.classLink (bz_ow k) j nm ∈ bz_W := by
  obtain ⟨e, he, h2⟩ := List.any_eq_true.mp h
  rw [Bool.and_eq_true, Bool.and_eq_true, decide_eq_true_eq] at h2
  have hw := bz_cl0_in e he
  unfold bz_cl0w at hw
  rw [Nat.eq_of_beq_eq_true h2.1.1, Nat.eq_of_beq_eq_true h2.1.2, h2.2] at hw
  exact hw
def bz_knew (k i c : Nat) : Bool := Nat.ble 1 c && Nat.ble c 10 && decide (c ∈ bz_ia) && decide (bz_cn1 c ∈ bz_ini) && match bz_cs k i with
  | some (.new j, 3) => bz_nx k i 3 && bz_ce0 k j (bz_cn1 c)
  | _ => false
theorem bz_q_new {k : Nat} {N : bz_N} {i : Nat} {L : List (Option bz_V)} {st : List bz_V} {μ : bz_M} {res : bz_R} {c : Nat} (hc : bz_knew k i c = true) (hcl : bz_cl μ) (h : bz_H k N (i + 1) L (zR μ.1.length :: st) (sA μ c (bz_ns c)) res) : bz_H k N i L st μ res := by
  unfold bz_knew at hc
  rw [Bool.and_eq_true, Bool.and_eq_true, Bool.and_eq_true, Bool.and_eq_true, decide_eq_true_eq, decide_eq_true_eq] at hc
  obtain ⟨⟨⟨⟨c1, c2⟩, c3⟩, c4⟩, hc⟩ := hc
  split at hc
  · rename_i j hd
    rw [Bool.and_eq_true] at hc
    exact bz_i_new ⟨Nat.le_of_ble_eq_true c1, Nat.le_of_ble_eq_true c2⟩ hcl (bz_cs_eq hd) (bz_nx_eq hc.1) (bz_ce0_eq hc.2) (bz_ia_in c c3) (bz_ini_in _ c4) h
  · cases hc
def bz_kmk (k i t : Nat) : Bool := match bz_cs k i with
  | some (.newarray at9, 2) => bz_nx k i 2 && (decide (t = 20 ∧ newarray.typeOf at9 = .int) || decide (t = 22 ∧ newarray.typeOf at9 = .boolean) || decide (t = 23 ∧ newarray.typeOf at9 = .long))
  | some (.anewarray j, 3) => bz_nx k i 3 && Nat.ble 24 t && Nat.ble t 27 && bz_ce0 k j (bz_ec t)
  | _ => false
theorem bz_q_mk {k : Nat} {N : bz_N} {i : Nat} {L : List (Option bz_V)} {st : List bz_V} {μ : bz_M} {res : bz_R} {x : Int} {t : Nat} (hc : bz_kmk k i t = true) (hcl : bz_cl μ) (h0 : 0 ≤ x) (hx : x ≤ 10000) (h : bz_H k N (i + 1) L (zR μ.1.length :: st) (sA μ t x.toNat) res) : bz_H k N i L (zI x :: st) μ res := by
  unfold bz_kmk at hc
  split at hc
  · rename_i at9 hd
    rw [Bool.and_eq_true, Bool.or_eq_true, Bool.or_eq_true, decide_eq_true_eq, decide_eq_true_eq, decide_eq_true_eq] at hc
    rcases hc.2 with (⟨q1, q2⟩ | ⟨q1, q2⟩) | ⟨q1, q2⟩
    · exact bz_i_newarr rfl (Or.inl ⟨q1, q2⟩) hcl h0 hx (bz_cs_eq hd) (bz_nx_eq hc.1) (by rw [q2]; exact bz_acl_in .int (by simp [bz_acl])) h
    · exact bz_i_newarr rfl (Or.inr (Or.inl ⟨q1, q2⟩)) hcl h0 hx (bz_cs_eq hd) (bz_nx_eq hc.1) (by rw [q2]; exact bz_acl_in .boolean (by simp [bz_acl])) h
    · exact bz_i_newarr rfl (Or.inr (Or.inr ⟨q1, q2⟩)) hcl h0 hx (bz_cs_eq hd) (bz_nx_eq hc.1) (by rw [q2]; exact bz_acl_in .long (by simp [bz_acl])) h
  · rename_i j hd
    rw [Bool.and_eq_true, Bool.and_eq_true, Bool.and_eq_true] at hc
    exact bz_i_anew ⟨Nat.le_of_ble_eq_true hc.1.1.2, Nat.le_of_ble_eq_true hc.1.2⟩ hcl h0 hx (bz_cs_eq hd) (bz_nx_eq hc.1.1.1) (bz_ce0_eq hc.2) h
  · cases hc
def bz_koi (k i : Nat) : Bool := Nat.ble 1 (bz_fr k) && Nat.ble 20 (bz_lo0 k) && match bz_cs k i with
  | some (.invokespecial j, 3) => bz_nx k i 3 && bz_ois.any fun e => decide (e.1 = bz_ow k) && Nat.beq e.2.1 j
  | _ => false
theorem bz_q_oinit {k : Nat} {N : bz_N} {i : Nat} {L : List (Option bz_V)} {st : List bz_V} {μ : bz_M} {res : bz_R} {a : Nat} (hc : bz_koi k i = true) (hsum : bz_sum st ≤ 8) (ha : a ≠ 15) (h : bz_H k N (i + 1) L st μ res) : bz_H k N i L (zR a :: st) μ res := by
  unfold bz_koi at hc
  rw [Bool.and_eq_true, Bool.and_eq_true] at hc
  obtain ⟨⟨c1, c2⟩, hc⟩ := hc
  split at hc
  · rename_i j hd
    rw [Bool.and_eq_true] at hc
    obtain ⟨⟨e1, e2, e3⟩, he, h2⟩ := List.any_eq_true.mp hc.2
    rw [Bool.and_eq_true, decide_eq_true_eq] at h2
    have q1 : e1 = bz_ow k := h2.1
    have q2 : e2 = j := Nat.eq_of_beq_eq_true h2.2
    subst q2
    rw [q1] at he
    exact bz_i_oinit he (Nat.le_of_ble_eq_true c1) (Nat.le_of_ble_eq_true c2) hsum (bz_cs_eq hd) (bz_nx_eq hc.1) ha h
  · cases hc
end
section
/-! CHECKS: calls -/
theorem bz_tg_inv {t : Nat} {f : Nat → Option bz_R} {r : bz_R} : ∀ {ts : List (Nat × Nat)}, bz_tg ts t f = some r → ∃ k', (t, k') ∈ ts ∧ f k' = some r
  | [], h => by cases h
  | q :: ts, h => by
    unfold bz_tg at h
    split at h
    · rename_i e
      subst e
      exact ⟨q.2, List.mem_cons_self, h⟩
    · obtain ⟨k', h1, h2⟩ := bz_tg_inv h
      exact ⟨k', List.mem_cons_of_mem _ h1, h2⟩
theorem bz_tr_inv {mls : List Nat} {rec : bz_X0} {ts : List (Nat × Nat)} {As : List bz_V} {μ : bz_M} {r : bz_R} (h : bz_tr mls rec ts As μ = some r) : ∃ t k', (t, k') ∈ ts ∧ rec k' 0 (bz_lo (mls.getD k' 0) As) [] μ = some r ∧ (t = 0 ∨ ∃ a As', As = zR a :: As' ∧ gT μ a = t) := by
  unfold bz_tr at h
  split at h
  · exact ⟨0, _, List.mem_cons_self, h, Or.inl rfl⟩
  · split at h
    · rename_i a As'
      obtain ⟨k', h1, h2⟩ := bz_tg_inv h
      exact ⟨_, k', h1, h2, Or.inr ⟨a, As', rfl, rfl⟩⟩
    · cases h
def bz_lkq (k idx x : Nat) : Bool := bz_lk.any fun e => Nat.beq e.1 (bz_ocs.getD k 0) && Nat.beq e.2.1 idx && Nat.beq e.2.2 x
theorem bz_lkq_eq {k idx x : Nat} (h : bz_lkq k idx x = true) : Cond.methodLink (bz_ow k) idx (bz_x x) ∈ bz_W := by
  obtain ⟨e, he, h2⟩ := List.any_eq_true.mp h
  rw [Bool.and_eq_true, Bool.and_eq_true] at h2
  have hw := bz_lk_in e he
  unfold bz_lkw at hw
  rw [Nat.eq_of_beq_eq_true h2.1.1, Nat.eq_of_beq_eq_true h2.1.2, Nat.eq_of_beq_eq_true h2.2] at hw
  exact hw
theorem bz_x_y {k' : Nat} (h : k' < bz_KN) : bz_x k' = bz_y k' := by
  unfold bz_x
  rw [if_pos (Nat.lt_trans h (by decide))]
/-- what is asked of a callee, whatever the call -/
def bz_ktA (k k' : Nat) (kd : List Nat) : Bool := Nat.blt k' bz_KN && Nat.ble (bz_fr k' + 1) (bz_fr k) && Nat.ble (bz_lo0 k' + bz_ml k' + 19) (bz_lo0 k) && Nat.ble (bz_kw kd) (bz_ml k') && decide (∀ j ∈ bz_lp 0 kd, j ∈ bz_lgs k') && decide ((bz_y k').cls ∈ bz_ini)
theorem bz_ktA_eq {k k' : Nat} {kd : List Nat} (h : bz_ktA k k' kd = true) : bz_fit k k' ∧ bz_kw kd ≤ bz_ml k' ∧ (∀ j ∈ bz_lp 0 kd, j ∈ bz_lgs k') ∧ Cond.initialized (bz_y k').cls ∈ bz_W := by
  unfold bz_ktA at h
  rw [Bool.and_eq_true, Bool.and_eq_true, Bool.and_eq_true, Bool.and_eq_true, Bool.and_eq_true, decide_eq_true_eq, decide_eq_true_eq] at h
  exact ⟨⟨Nat.le_of_ble_eq_true h.1.1.1.1.1, Nat.le_of_ble_eq_true h.1.1.1.1.2, Nat.le_of_ble_eq_true h.1.1.1.2⟩, Nat.le_of_ble_eq_true h.1.1.2, h.1.2, bz_ini_in _ h.2⟩
/-- Symbology's: the method that the entry names -/
def bz_xu (x t k' : Nat) : Bool := decide (x ∈ bz_same) && decide ((t, x, k') ∈ bz_sel) && decide ((bz_x x).cls = "BarcodeEngine$Symbology" ∧ (bz_x x).desc = (bz_y k').desc) && (decide (x ∈ bz_decl) || (Nat.blt x bz_KN && decide (x ∈ bz_inst) && decide (bz_hh0 x = [])))
theorem bz_xu_eq {x t k' : Nat} (h : bz_xu x t k' = true) : ((bz_x x).cls = "BarcodeEngine$Symbology" ∧ (bz_x x).desc = (bz_y k').desc) ∧ Cond.sameMethod (bz_x x).cls (bz_x x).cls (bz_x x).name (bz_x x).desc ∈ bz_W ∧ bz_dcl (bz_x x) ∧ Cond.selects (bz_cn1 t) (bz_x x) (bz_y k') ∈ bz_W := by
  unfold bz_xu at h
  rw [Bool.and_eq_true, Bool.and_eq_true, Bool.and_eq_true, Bool.or_eq_true, Bool.and_eq_true, Bool.and_eq_true, decide_eq_true_eq, decide_eq_true_eq, decide_eq_true_eq, decide_eq_true_eq, decide_eq_true_eq, decide_eq_true_eq] at h
  obtain ⟨⟨⟨h1, h2⟩, h3⟩, h4⟩ := h
  refine ⟨h3, bz_same_in _ h1, ?_, bz_sel_in _ h2⟩
  rcases h4 with h4 | ⟨⟨h4, h5⟩, h6⟩
  · exact Or.inr ⟨x, h4, rfl⟩
  · have h4 : x < bz_KN := Nat.le_of_ble_eq_true h4
    rw [bz_x_y h4]
    refine Or.inl ⟨bz_inst_in _ h5, bz_b x, bz_ml x, bz_rt x, ?_⟩
    rw [← bz_hw0 h6]
    exact bz_hw_W h4
def bz_ktB (k i : Nat) (kd : List Nat) (rv t k' : Nat) : Bool := match bz_cs k i with
  | some (.invokestatic idx, 3) => Nat.beq t 0 && bz_nx k i 3 && bz_lkq k idx k' && decide (k' ∈ bz_stat) && Nat.beq kd.length (bz_pn k')
  | some (.invokevirtual idx, 3) => bz_nx k i 3 && Nat.beq kd.length (bz_pn k' + 1) && decide (bz_hh0 k' = []) && decide (k' ∈ bz_inst) && (decide (bz_cn1 t = (bz_y k').cls) && ((Nat.ble 1 t && Nat.ble t 10) || Nat.beq t 28) && bz_lkq k idx k' && decide ((t, k', k') ∈ bz_sel) || (Nat.ble 4 rv && Nat.ble 1 t && Nat.ble t 3 && bz_lk.any fun e => Nat.beq e.1 (bz_ocs.getD k 0) && Nat.beq e.2.1 idx && bz_xu e.2.2 t k'))
  | some (.invokespecial idx, 3) => Nat.ble 4 rv && bz_nx k i 3 && Nat.beq kd.length (bz_pn k' + 1) && decide (bz_hh0 k' = []) && decide (k' ∈ bz_inst) && (Nat.ble 1 t && Nat.ble t 10) && decide (bz_rt k' = none ∧ (bz_y k').name = "<init>") && (bz_lkq k idx k' || decide ((bz_ocs.getD k 0, idx, k') ∈ bz_lkn))
  | _ => false
theorem bz_ktB_eq {k : Nat} {N : bz_N} {i : Nat} {kd : List Nat} {rv t k' : Nat} {As rest : List bz_V} {μ : bz_M} {res' : bz_R} (hA : bz_ktA k k' kd = true) (hB : bz_ktB k i kd rv t k' = true) (hlen : As.length = kd.length) (ht : t = 0 ∨ ∃ a As', As = zR a :: As' ∧ gT μ a = t) (hsum : bz_sum rest ≤ 8) (hno : 4 ≤ rv → ∃ v, res'.1 = .inl v) : bz_pc k (i + 1) = bz_pc k i + 3 ∧ bz_Run k N i As rest μ k' res' := by
  obtain ⟨hf, -, -, hini⟩ := bz_ktA_eq hA
  have hxy := bz_x_y hf.1
  unfold bz_ktB at hB
  split at hB
  · rename_i idx hd
    rw [Bool.and_eq_true, Bool.and_eq_true, Bool.and_eq_true, Bool.and_eq_true, decide_eq_true_eq] at hB
    obtain ⟨⟨⟨⟨b1, b2⟩, b3⟩, b4⟩, b5⟩ := hB
    have hl := bz_lkq_eq b3
    rw [hxy] at hl
    refine ⟨bz_nx_eq b2, ?_⟩
    cases hh : bz_hh0 k' with
    | nil => exact bz_run_S hf hh hl (bz_stat_in _ b4) hini (bz_cs_eq hd) (hlen.trans (Nat.eq_of_beq_eq_true b5)) hsum
    | cons h0 hs0 => exact bz_run_W hf hh hl (bz_stat_in _ b4) hini (bz_cs_eq hd) (hlen.trans (Nat.eq_of_beq_eq_true b5)) hsum
  · rename_i idx hd
    rw [Bool.and_eq_true, Bool.and_eq_true, Bool.and_eq_true, Bool.and_eq_true, decide_eq_true_eq, decide_eq_true_eq, Bool.or_eq_true] at hB
    obtain ⟨⟨⟨⟨b1, b2⟩, b3⟩, b4⟩, hB⟩ := hB
    refine ⟨bz_nx_eq b1, ?_⟩
    have hn := Nat.eq_of_beq_eq_true b2
    rcases hB with hB | hB
    · rw [Bool.and_eq_true, Bool.and_eq_true, Bool.and_eq_true, Bool.or_eq_true, Bool.and_eq_true, decide_eq_true_eq, decide_eq_true_eq] at hB
      obtain ⟨⟨⟨c1, c2⟩, c3⟩, c4⟩ := hB
      have hl := bz_lkq_eq c3
      rw [hxy] at hl
      have hs := bz_sel_in _ c4
      unfold bz_selw at hs
      dsimp only at hs
      rw [c1, hxy] at hs
      have ht' : (1 ≤ t ∧ t ≤ 10) ∨ t = 28 := c2.imp (fun q => ⟨Nat.le_of_ble_eq_true q.1, Nat.le_of_ble_eq_true q.2⟩) Nat.eq_of_beq_eq_true
      rcases ht with rfl | ⟨a, As', rfl, rfl⟩
      · omega
      · exact bz_run_V hf b3 ht' c1 hl (bz_inst_in _ b4) hs hini (bz_cs_eq hd) (by rw [List.length_cons] at hlen; omega) hsum
    · rw [Bool.and_eq_true, Bool.and_eq_true, Bool.and_eq_true] at hB
      obtain ⟨⟨⟨c1, c2⟩, c3⟩, c4⟩ := hB
      have c1 := Nat.le_of_ble_eq_true c1
      have c2 := Nat.le_of_ble_eq_true c2
      have c3 := Nat.le_of_ble_eq_true c3
      obtain ⟨⟨e1, e2, x⟩, he, h2⟩ := List.any_eq_true.mp c4
      rw [Bool.and_eq_true, Bool.and_eq_true] at h2
      have hl := bz_lk_in _ he
      unfold bz_lkw at hl
      dsimp only at hl h2
      rw [Nat.eq_of_beq_eq_true h2.1.1, Nat.eq_of_beq_eq_true h2.1.2] at hl
      obtain ⟨d1, d2, d3, d4⟩ := bz_xu_eq h2.2
      obtain ⟨v, hv⟩ := hno c1
      rcases ht with rfl | ⟨a, As', rfl, rfl⟩
      · omega
      · exact bz_run_U hv hf b3 ⟨c2, c3⟩ d1 hl d2 d3 (bz_inst_in _ b4) d4 hini (bz_cs_eq hd) (by rw [List.length_cons] at hlen; omega) hsum
  · rename_i idx hd
    rw [Bool.and_eq_true, Bool.and_eq_true, Bool.and_eq_true, Bool.and_eq_true, Bool.and_eq_true, Bool.and_eq_true, Bool.and_eq_true, Bool.and_eq_true, Bool.or_eq_true, decide_eq_true_eq, decide_eq_true_eq, decide_eq_true_eq, decide_eq_true_eq] at hB
    obtain ⟨⟨⟨⟨⟨⟨⟨b0, b1⟩, b2⟩, b3⟩, b4⟩, ⟨b5, b5'⟩⟩, b6, b6'⟩, hB⟩ := hB
    refine ⟨bz_nx_eq b1, ?_⟩
    have hn := Nat.eq_of_beq_eq_true b2
    have b5 := Nat.le_of_ble_eq_true b5
    have b5' := Nat.le_of_ble_eq_true b5'
    obtain ⟨v, hv⟩ := hno (Nat.le_of_ble_eq_true b0)
    rcases ht with rfl | ⟨a, As', rfl, rfl⟩
    · omega
    · intro p l e R s m args below meth c H locs ls vs wr cells slots mc ms C M PS hR hS hvv hvr hls hcs
      have ha : a ≠ 15 := bz_no15 hR C.2.2.2.2 (Or.inl ⟨b5, b5'⟩)
      rcases hB with hB | hB
      · have hl := bz_lkq_eq hB
        rw [hxy] at hl
        exact bz_run_I hv hf b3 b6 b6' ha hl (bz_inst_in _ b4) hini (bz_cs_eq hd) (by rw [List.length_cons] at hlen; omega) hsum p l e R s m args below meth c H locs ls vs wr cells slots mc ms C M PS hR hS hvv hvr hls hcs
      · exact bz_run_IN hv hf b3 b6 b6' ha hB hxy (bz_inst_in _ b4) hini (bz_cs_eq hd) (by rw [List.length_cons] at hlen; omega) hsum p l e R s m args below meth c H locs ls vs wr cells slots mc ms C M PS hR hS hvv hvr hls hcs
  · cases hB
theorem bz_kk_len : ∀ {vs : List bz_V} {ks : List Nat}, bz_kk vs ks = true → vs.length = ks.length
  | [], [], _ => rfl
  | [], _ :: _, h => by cases h
  | .inl _ :: _, [], h => by cases h
  | .inr (.inl _) :: _, [], h => by cases h
  | .inr (.inr _) :: _, [], h => by cases h
  | .inl x :: vs, k :: ks, h => by rw [bz_kk, Bool.and_eq_true] at h; rw [List.length_cons, List.length_cons, bz_kk_len h.2]
  | .inr (.inl x) :: vs, k :: ks, h => by rw [bz_kk, Bool.and_eq_true] at h; rw [List.length_cons, List.length_cons, bz_kk_len h.2]
  | .inr (.inr x) :: vs, k :: ks, h => by rw [bz_kk, Bool.and_eq_true] at h; rw [List.length_cons, List.length_cons, bz_kk_len h.2]
end
section
/-! A CALL'S STEP -/
def bz_vd (rv : Nat) : Bool := Nat.beq rv 0 || Nat.beq rv 5
def bz_push (b : Bool) (v : bz_V) (rest : List bz_V) : List bz_V := match b with
  | true => rest
  | false => v :: rest
theorem bz_rn_inv {rv : Nat} {res' res : bz_R} {ks : Nat → bz_K} {L : List (Option bz_V)} {rest : List bz_V} (h : bz_rn rv (some res') ks L rest = some res) : (∃ v, res'.1 = .inl v ∧ ks 0 L (bz_push (bz_vd rv) v rest) res'.2 = some res) ∨ (rv < 4 ∧ ∃ x, res'.1 = .inr x ∧ res = (.inr x, res'.2)) := by
  obtain ⟨a, μ'⟩ := res'
  unfold bz_rn at h
  split at h
  · rcases a with v | x
    · exact Or.inl ⟨v, rfl, h⟩
    · exact Or.inr ⟨by omega, x, rfl, (Option.some.inj h).symm⟩
  · rcases a with (v | v) | x
    · exact Or.inl ⟨_, rfl, h⟩
    · cases h
    · exact Or.inr ⟨by omega, x, rfl, (Option.some.inj h).symm⟩
  · rcases a with (v | v | v) | x
    · cases h
    · exact Or.inl ⟨_, rfl, h⟩
    · cases h
    · exact Or.inr ⟨by omega, x, rfl, (Option.some.inj h).symm⟩
  · rcases a with (v | v | v) | x
    · cases h
    · cases h
    · exact Or.inl ⟨_, rfl, h⟩
    · exact Or.inr ⟨by omega, x, rfl, (Option.some.inj h).symm⟩
  · rcases a with (v | v) | x
    · exact Or.inl ⟨_, rfl, h⟩
    · cases h
    · cases h
  · rcases a with v | x
    · exact Or.inl ⟨v, rfl, h⟩
    · cases h
  · cases h
theorem bz_rh_inv {rv : Nat} {hs : List (Nat × Nat)} {res' res : bz_R} {ks : Nat → bz_K} {L : List (Option bz_V)} {rest : List bz_V} (h : bz_rh rv hs (some res') ks L rest = some res) : rv < 4 ∧ ((∃ v, res'.1 = .inl v ∧ ks 0 L (bz_push (bz_vd rv) v rest) res'.2 = some res) ∨ ∃ x, res'.1 = .inr x ∧ bz_hh hs x (fun d => ks d L [zR 15] res'.2) none = some res) := by
  obtain ⟨a, μ'⟩ := res'
  unfold bz_rh at h
  split at h
  · refine ⟨by omega, ?_⟩
    rcases a with v | x
    · exact Or.inl ⟨v, rfl, h⟩
    · exact Or.inr ⟨x, rfl, h⟩
  · refine ⟨by omega, ?_⟩
    rcases a with (v | v) | x
    · exact Or.inl ⟨_, rfl, h⟩
    · cases h
    · exact Or.inr ⟨x, rfl, h⟩
  · cases h
theorem bz_hh_inv {c : Nat} {f : Nat → Option bz_R} {r : bz_R} : ∀ {hs : List (Nat × Nat)}, bz_hh hs c f none = some r → ∃ d, (c, d) ∈ hs ∧ f d = some r
  | [], h => by cases h
  | q :: hs, h => by
    unfold bz_hh at h
    split at h
    · rename_i e
      subst e
      exact ⟨q.2, List.mem_cons_self, h⟩
    · obtain ⟨d, h1, h2⟩ := bz_hh_inv h
      exact ⟨d, List.mem_cons_of_mem _ h1, h2⟩
theorem bz_rn_none {rv : Nat} {ks : Nat → bz_K} {L : List (Option bz_V)} {rest : List bz_V} : bz_rn rv none ks L rest = none := by unfold bz_rn; split <;> rfl
theorem bz_rh_none {rv : Nat} {hs : List (Nat × Nat)} {ks : Nat → bz_K} {L : List (Option bz_V)} {rest : List bz_V} : bz_rh rv hs none ks L rest = none := by unfold bz_rh; split <;> rfl
def bz_kc (k i q : Nat) (h : Bool) : Bool := match bz_ct[q]? with
  | none => false
  | some (kd, rv, ts, hs) => ts.all (fun t => bz_ktA k t.2 kd && bz_ktB k i kd rv t.1 t.2 && decide (bz_vd rv = (bz_rt t.2).isNone)) && cond h (hs.all fun z => decide (bz_cov k (bz_pc k i) z.1 (tableOf (bz_hh0 k)) = some (bz_pc k (i + 1 + z.2)))) (Nat.ble 4 rv || (tableOf (bz_hh0 k)).all (fun z => !(covers z (bz_pc k i))))
theorem bz_q_call {k : Nat} {N : bz_N} {i q : Nat} {h : Bool} {L : List (Option bz_V)} {st : List bz_V} {μ : bz_M} {res : bz_R} {rec : bz_X0} {ks : Nat → bz_K} (hkc : bz_kc k i q h = true) (hr : bz_Rc N rec) (hks : bz_Ks k N i ks) (hx : bz_call bz_ct bz_mls rec q h ks L st μ = some res) : bz_H k N i L st μ res := by
  unfold bz_kc at hkc
  unfold bz_call at hx
  cases hq : bz_ct[q]? with
  | none => rw [hq] at hkc; cases hkc
  | some row =>
    obtain ⟨kd, rv, ts, hs⟩ := row
    rw [hq] at hkc hx
    dsimp only at hkc hx
    rw [Bool.and_eq_true] at hkc
    obtain ⟨c1, c2⟩ := hkc
    cases hkk : (bz_kk (st.take kd.length).reverse kd && Nat.ble (bz_sum (st.drop kd.length)) 8) with
    | false => rw [hkk] at hx; cases hx
    | true =>
      rw [hkk, cond_true] at hx
      rw [Bool.and_eq_true] at hkk
      obtain ⟨k1, k2⟩ := hkk
      have k2 := Nat.le_of_ble_eq_true k2
      cases hr0 : bz_tr bz_mls rec ts (st.take kd.length).reverse μ with
      | none =>
        rw [hr0, bz_rn_none, bz_rh_none] at hx
        cases h <;> cases hx
      | some res' =>
        rw [hr0] at hx
        obtain ⟨t, k', m1, m2, m3⟩ := bz_tr_inv hr0
        have c3 := List.all_eq_true.mp c1 (t, k') m1
        rw [Bool.and_eq_true, Bool.and_eq_true, decide_eq_true_eq] at c3
        obtain ⟨⟨a1, a2⟩, a3⟩ := c3
        have a1 : bz_ktA k k' kd = true := a1
        have a2 : bz_ktB k i kd rv t k' = true := a2
        have a3 : bz_vd rv = (bz_rt k').isNone := a3
        obtain ⟨f1, f2, f3, f4⟩ := bz_ktA_eq a1
        have H' := hr k' 0 _ [] μ res' (Nat.lt_succ_of_lt f1.1) m2
        have push : ∀ v, bz_push (bz_vd rv) v (st.drop kd.length) = (match bz_rt k' with | none => st.drop kd.length | some _ => v :: st.drop kd.length) := by
          intro v
          rw [a3]
          cases bz_rt k' <;> rfl
        have fin : (4 ≤ rv → ∃ v, res'.1 = .inl v) → (∀ v, res'.1 = .inl v → ks 0 L (bz_push (bz_vd rv) v (st.drop kd.length)) res'.2 = some res) → (∀ x, res'.1 = .inr x → bz_Th k N i L x res'.2 res) → bz_H k N i L st μ res := by
          intro g1 g2 g3
          obtain ⟨e1, e2⟩ := bz_ktB_eq a1 a2 (bz_kk_len k1) m3 k2 g1
          refine bz_callX f1.1 k1 e1 f2 f3 H' e2 (fun v hv => ?_) g3
          have e3 := hks 0 L _ res'.2 res (g2 v hv)
          rw [push v] at e3
          exact e3
        cases h with
        | false =>
          rw [cond_false] at hx c2
          rcases bz_rn_inv hx with ⟨v, v1, v2⟩ | ⟨hlt, x, x1, x2⟩
          · exact fin (fun _ => ⟨v, v1⟩) (fun v' hv' => by cases v1.symm.trans hv'; exact v2) (fun x hx' => by rw [v1] at hx'; cases hx')
          · refine fin (fun hh => absurd hh (by omega)) (fun v' hv' => by rw [x1] at hv'; cases hv') (fun x' hx' => ?_)
            cases x1.symm.trans hx'
            subst x2
            rw [Bool.or_eq_true] at c2
            rcases c2 with c2 | c2
            · have := Nat.le_of_ble_eq_true c2
              omega
            · exact bz_t_out c2
        | true =>
          rw [cond_true] at hx c2
          obtain ⟨hlt, hx⟩ := bz_rh_inv hx
          rcases hx with ⟨v, v1, v2⟩ | ⟨x, x1, x2⟩
          · exact fin (fun _ => ⟨v, v1⟩) (fun v' hv' => by cases v1.symm.trans hv'; exact v2) (fun x hx' => by rw [v1] at hx'; cases hx')
          · refine fin (fun hh => absurd hh (by omega)) (fun v' hv' => by rw [x1] at hv'; cases hv') (fun x' hx' => ?_)
            cases x1.symm.trans hx'
            obtain ⟨d, d1, d2⟩ := bz_hh_inv x2
            have c4 := of_decide_eq_true (List.all_eq_true.mp c2 (x, d) d1)
            exact bz_t_in c4 (hks d L [zR 15] res'.2 res d2)
end
section
/-! ONE STEP IS SOUND -/
def bz_kth (k i c : Nat) : Bool := decide (c = 1 ∨ c = 2 ∨ c = 3 ∨ c = 4) && decide (bz_ow k = "BarcodeEngine") && decide (bz_hh0 k = []) && Nat.ble 6 (bz_fr k) && Nat.ble 90 (bz_lo0 k) && decide (bz_cs k i = some (.new (bz_ik c), 3)) && decide (decode (bz_b k) (bz_pc k i + 3) = .ok (.dup, 1)) && bz_strs.any fun e => decide (e.1 = "BarcodeEngine") && (decide (c ≠ 4 ∧ decode (bz_b k) (bz_pc k i + 4) = .ok (.ldc e.2.1, 2) ∧ decode (bz_b k) (bz_pc k i + 6) = .ok (.invokespecial (bz_ic c), 3) ∧ decode (bz_b k) (bz_pc k i + 9) = .ok (.athrow, 1)) || decide (decode (bz_b k) (bz_pc k i + 4) = .ok (.ldc_w e.2.1, 3) ∧ decode (bz_b k) (bz_pc k i + 7) = .ok (.invokespecial (bz_ic c), 3) ∧ decode (bz_b k) (bz_pc k i + 10) = .ok (.athrow, 1)))
theorem bz_q_throw {k : Nat} {N : bz_N} {i : Nat} {L : List (Option bz_V)} {st : List bz_V} {μ : bz_M} {c : Nat} (hc : bz_kth k i c = true) (hsum : bz_sum st ≤ 8) : bz_H k N i L st μ (.inr c, sX μ) := by
  unfold bz_kth at hc
  rw [Bool.and_eq_true, Bool.and_eq_true, Bool.and_eq_true, Bool.and_eq_true, Bool.and_eq_true, Bool.and_eq_true, Bool.and_eq_true, decide_eq_true_eq, decide_eq_true_eq, decide_eq_true_eq, decide_eq_true_eq, decide_eq_true_eq] at hc
  obtain ⟨⟨⟨⟨⟨⟨⟨c1, c2⟩, c3⟩, c4⟩, c5⟩, c6⟩, c7⟩, c8⟩ := hc
  obtain ⟨⟨e1, e2, e3⟩, he, h2⟩ := List.any_eq_true.mp c8
  rw [Bool.and_eq_true, Bool.or_eq_true, decide_eq_true_eq, decide_eq_true_eq, decide_eq_true_eq] at h2
  obtain ⟨h3, h4⟩ := h2
  dsimp only at h3 h4
  subst h3
  rcases (show (c = 1 ∨ c = 2 ∨ c = 3) ∨ c = 4 by omega) with q | q
  · exact bz_i_throw q c2 c3 he (Nat.le_of_ble_eq_true c4) (Nat.le_of_ble_eq_true c5) hsum (bz_cs_eq c6) c7 (h4.imp (fun z => z.2) id)
  · subst q
    rcases h4 with h4 | h4
    · exact absurd rfl h4.1
    · exact bz_i_throw4 c2 c3 he (Nat.le_of_ble_eq_true c4) (Nat.le_of_ble_eq_true c5) hsum (bz_cs_eq c6) c7 h4.1 h4.2.1 h4.2.2
def bz_ok1 (k i : Nat) (ins : Instr) : Bool := match ins with
  | .iconst v => bz_kI k i v
  | .bipush v => bz_kL k i v
  | .ldc a => bz_kA k i a
  | .iload j => bz_k_iload k i j
  | .lload j => bz_k_lload k i j
  | .aload j => bz_k_aload k i j
  | .istore j => cond (Nat.ble j 999) (bz_k_istore k i j) (bz_k_astore k i (j - 1000))
  | .lstore j => bz_k_lstore k i j
  | .iinc j c => bz_k_iinc k i j c
  | .iadd => bz_k1 k i .iadd
  | .isub => bz_k1 k i .isub
  | .imul => bz_k1 k i .imul
  | .idiv => bz_k1 k i .idiv
  | .irem => bz_k1 k i .irem
  | .ineg => bz_k1 k i .ineg
  | .iand => bz_k1 k i .iand
  | .ior => bz_k1 k i .ior
  | .ishl => bz_k1 k i .ishl
  | .ishr => bz_k1 k i .ishr
  | .iushr => bz_k1 k i .iushr
  | .ladd => bz_k1 k i .ladd
  | .lsub => bz_k1 k i .lsub
  | .lmul => bz_k1 k i .lmul
  | .ldiv => bz_k1 k i .ldiv
  | .lxor => bz_k1 k i .lxor
  | .lcmp => bz_k1 k i .lcmp
  | .i2l => bz_k1 k i .i2l
  | .l2i => bz_k1 k i .l2i
  | .i2c => bz_k1 k i .i2c
  | .i2b => bz_k1 k i .i2b
  | .dup => bz_k1 k i .dup
  | .pop => bz_k1 k i .pop
  | .dup2 => bz_k1 k i .dup2
  | .iaload => bz_k1 k i .iaload
  | .baload => bz_k1 k i .baload
  | .laload => bz_k1 k i .laload
  | .aaload => bz_k1 k i .aaload
  | .iastore => bz_k1 k i .iastore
  | .bastore => bz_k1 k i .bastore
  | .lastore => bz_k1 k i .lastore
  | .aastore => bz_k1 k i .aastore
  | .arraylength => bz_k1 k i .arraylength
  | .goto o => bz_kgo k i o
  | .ifCond c o => bz_kif k i c o
  | .if_icmp c o => bz_kicmp k i c o
  | .getfield p => cond (Nat.beq p 2801) (bz_kstr k i 2801) (bz_kget k i p 0)
  | .fload p => bz_kget k i p 1
  | .getstatic p => cond (Nat.beq p 2800) (bz_kstr k i 2800) (bz_kget k i p 2)
  | .dload j => bz_kgS k i j
  | .putfield p => bz_kput k i p 0 && decide (bz_tyf (p / 100) (p % 100) = .int)
  | .dstore p => bz_kput k i p 0 && decide (bz_tyf (p / 100) (p % 100) = .boolean)
  | .fstore p => bz_kput k i p 1
  | .astore p => bz_kput k i p 2
  | .putstatic j => bz_kpS k i j
  | .new c => bz_knew k i c
  | .anewarray t => bz_kmk k i t
  | .invokespecial _ => bz_koi k i
  | .invokevirtual q => bz_kc k i q false
  | .checkcast q => bz_kc k i q true
  | .ldc_w c => bz_kth k i c
  | .ireturn => decide (bz_rt k = some .int) && decide (bz_cs k i = some (.ireturn, 1))
  | .dreturn => decide (bz_rt k = some .boolean) && decide (bz_cs k i = some (.ireturn, 1))
  | .freturn => (decide (bz_rt k = some .char) || decide (bz_rt k = some .byte)) && decide (bz_cs k i = some (.ireturn, 1))
  | .lreturn => decide (bz_rt k = some .long) && decide (bz_cs k i = some (.lreturn, 1))
  | .areturn => bz_kty 2 ((bz_rt k).getD .int) && decide (bz_cs k i = some (.areturn, 1))
  | .return_ => decide (bz_rt k = none) && decide (bz_cs k i = some (.return_, 1))
  | .tableswitch d lo hi os => match bz_cs k i with
    | some (.tableswitch cd lo' hi' cs, _) => decide (lo' = lo) && decide (hi' = hi) && bz_to1 k i cd d && bz_tok k i cs.toList os.toList
    | _ => false
  | .lookupswitch d ps => match bz_cs k i with
    | some (.lookupswitch cd cs, _) => (cs.toList.zip (cs.toList.drop 1)).all (fun (a, next) => a.1 < next.1) && bz_to1 k i cd d && bz_lok k i cs.toList ps.toList
    | _ => false
  | _ => true
theorem bz_s_iconst {k : Nat} {N : bz_N} {i : Nat} {L : List (Option bz_V)} {st : List bz_V} {μ : bz_M} {res : bz_R} {v : Int} {rec : bz_X0} {ks : Nat → bz_K} (hc : bz_ok1 k i (.iconst v) = true) (hk : k < bz_KM) (hr : bz_Rc N rec) (hks : bz_Ks k N i ks) (h : bz_step bz_ct bz_mls rec k (.iconst v) ks L st μ = some res) : bz_H k N i L st μ res := by
  exact bz_q_iconst hc (hks 0 _ _ _ _ h)
theorem bz_s_bipush {k : Nat} {N : bz_N} {i : Nat} {L : List (Option bz_V)} {st : List bz_V} {μ : bz_M} {res : bz_R} {v : Int} {rec : bz_X0} {ks : Nat → bz_K} (hc : bz_ok1 k i (.bipush v) = true) (hk : k < bz_KM) (hr : bz_Rc N rec) (hks : bz_Ks k N i ks) (h : bz_step bz_ct bz_mls rec k (.bipush v) ks L st μ = some res) : bz_H k N i L st μ res := by
  exact bz_q_bipush hc (hks 0 _ _ _ _ h)
theorem bz_s_ldc {k : Nat} {N : bz_N} {i : Nat} {L : List (Option bz_V)} {st : List bz_V} {μ : bz_M} {res : bz_R} {a : Nat} {rec : bz_X0} {ks : Nat → bz_K} (hc : bz_ok1 k i (.ldc a) = true) (hk : k < bz_KM) (hr : bz_Rc N rec) (hks : bz_Ks k N i ks) (h : bz_step bz_ct bz_mls rec k (.ldc a) ks L st μ = some res) : bz_H k N i L st μ res := by
  exact bz_q_ldc hc (hks 0 _ _ _ _ h)
theorem bz_s_iload {k : Nat} {N : bz_N} {i : Nat} {L : List (Option bz_V)} {st : List bz_V} {μ : bz_M} {res : bz_R} {j : Nat} {rec : bz_X0} {ks : Nat → bz_K} (hc : bz_ok1 k i (.iload j) = true) (hk : k < bz_KM) (hr : bz_Rc N rec) (hks : bz_Ks k N i ks) (h : bz_step bz_ct bz_mls rec k (.iload j) ks L st μ = some res) : bz_H k N i L st μ res := by
  unfold bz_step at h
  dsimp only at h
  split at h
  · rename_i x hl
    exact bz_q_iload hc hl (hks 0 _ _ _ _ h)
  · cases h
theorem bz_s_lload {k : Nat} {N : bz_N} {i : Nat} {L : List (Option bz_V)} {st : List bz_V} {μ : bz_M} {res : bz_R} {j : Nat} {rec : bz_X0} {ks : Nat → bz_K} (hc : bz_ok1 k i (.lload j) = true) (hk : k < bz_KM) (hr : bz_Rc N rec) (hks : bz_Ks k N i ks) (h : bz_step bz_ct bz_mls rec k (.lload j) ks L st μ = some res) : bz_H k N i L st μ res := by
  unfold bz_step at h
  dsimp only at h
  split at h
  · rename_i x hl
    exact bz_q_lload hc hl (hks 0 _ _ _ _ h)
  · cases h
theorem bz_s_aload {k : Nat} {N : bz_N} {i : Nat} {L : List (Option bz_V)} {st : List bz_V} {μ : bz_M} {res : bz_R} {j : Nat} {rec : bz_X0} {ks : Nat → bz_K} (hc : bz_ok1 k i (.aload j) = true) (hk : k < bz_KM) (hr : bz_Rc N rec) (hks : bz_Ks k N i ks) (h : bz_step bz_ct bz_mls rec k (.aload j) ks L st μ = some res) : bz_H k N i L st μ res := by
  unfold bz_step at h
  dsimp only at h
  split at h
  · rename_i x hl
    exact bz_q_aload hc hl (hks 0 _ _ _ _ h)
  · cases h
theorem bz_s_istore {k : Nat} {N : bz_N} {i : Nat} {L : List (Option bz_V)} {st : List bz_V} {μ : bz_M} {res : bz_R} {j : Nat} {rec : bz_X0} {ks : Nat → bz_K} (hc : bz_ok1 k i (.istore j) = true) (hk : k < bz_KM) (hr : bz_Rc N rec) (hks : bz_Ks k N i ks) (h : bz_step bz_ct bz_mls rec k (.istore j) ks L st μ = some res) : bz_H k N i L st μ res := by
  have hc : cond (Nat.ble j 999) (bz_k_istore k i j) (bz_k_astore k i (j - 1000)) = true := hc
  unfold bz_step at h
  dsimp only at h
  split at h
  · cases hb : Nat.ble j 999 with
    | true => rw [hb] at h hc; exact bz_q_istore hc (hks 0 _ _ _ _ h)
    | false => rw [hb] at h; cases h
  · cases hb : Nat.ble 1000 j with
    | true =>
      have : Nat.ble j 999 = false := by
        cases hq : Nat.ble j 999
        · rfl
        · have := Nat.le_of_ble_eq_true hq
          have := Nat.le_of_ble_eq_true hb
          omega
      rw [this] at hc
      rw [hb] at h
      exact bz_q_astore hc (hks 0 _ _ _ _ h)
    | false => rw [hb] at h; cases h
  · cases h
theorem bz_s_lstore {k : Nat} {N : bz_N} {i : Nat} {L : List (Option bz_V)} {st : List bz_V} {μ : bz_M} {res : bz_R} {j : Nat} {rec : bz_X0} {ks : Nat → bz_K} (hc : bz_ok1 k i (.lstore j) = true) (hk : k < bz_KM) (hr : bz_Rc N rec) (hks : bz_Ks k N i ks) (h : bz_step bz_ct bz_mls rec k (.lstore j) ks L st μ = some res) : bz_H k N i L st μ res := by
  unfold bz_step at h
  dsimp only at h
  split at h
  · exact bz_q_lstore hc (hks 0 _ _ _ _ h)
  · cases h
theorem bz_s_iinc {k : Nat} {N : bz_N} {i : Nat} {L : List (Option bz_V)} {st : List bz_V} {μ : bz_M} {res : bz_R} {j : Nat} {c : Int} {rec : bz_X0} {ks : Nat → bz_K} (hc : bz_ok1 k i (.iinc j c) = true) (hk : k < bz_KM) (hr : bz_Rc N rec) (hks : bz_Ks k N i ks) (h : bz_step bz_ct bz_mls rec k (.iinc j c) ks L st μ = some res) : bz_H k N i L st μ res := by
  unfold bz_step at h
  dsimp only at h
  split at h
  · rename_i x hl
    exact bz_q_iinc hc hl (hks 0 _ _ _ _ h)
  · cases h
theorem bz_s_iadd {k : Nat} {N : bz_N} {i : Nat} {L : List (Option bz_V)} {st : List bz_V} {μ : bz_M} {res : bz_R} {rec : bz_X0} {ks : Nat → bz_K} (hc : bz_ok1 k i (.iadd) = true) (hk : k < bz_KM) (hr : bz_Rc N rec) (hks : bz_Ks k N i ks) (h : bz_step bz_ct bz_mls rec k (.iadd) ks L st μ = some res) : bz_H k N i L st μ res := by
  obtain ⟨c1, c2⟩ := bz_k1_inv hc
  unfold bz_step at h
  dsimp only at h
  split at h
  · exact bz_i_iadd (len := 0) c1 c2 (hks 0 _ _ _ _ h)
  · cases h
theorem bz_s_isub {k : Nat} {N : bz_N} {i : Nat} {L : List (Option bz_V)} {st : List bz_V} {μ : bz_M} {res : bz_R} {rec : bz_X0} {ks : Nat → bz_K} (hc : bz_ok1 k i (.isub) = true) (hk : k < bz_KM) (hr : bz_Rc N rec) (hks : bz_Ks k N i ks) (h : bz_step bz_ct bz_mls rec k (.isub) ks L st μ = some res) : bz_H k N i L st μ res := by
  obtain ⟨c1, c2⟩ := bz_k1_inv hc
  unfold bz_step at h
  dsimp only at h
  split at h
  · exact bz_i_isub (len := 0) c1 c2 (hks 0 _ _ _ _ h)
  · cases h
theorem bz_s_imul {k : Nat} {N : bz_N} {i : Nat} {L : List (Option bz_V)} {st : List bz_V} {μ : bz_M} {res : bz_R} {rec : bz_X0} {ks : Nat → bz_K} (hc : bz_ok1 k i (.imul) = true) (hk : k < bz_KM) (hr : bz_Rc N rec) (hks : bz_Ks k N i ks) (h : bz_step bz_ct bz_mls rec k (.imul) ks L st μ = some res) : bz_H k N i L st μ res := by
  obtain ⟨c1, c2⟩ := bz_k1_inv hc
  unfold bz_step at h
  dsimp only at h
  split at h
  · exact bz_i_imul (len := 0) c1 c2 (hks 0 _ _ _ _ h)
  · cases h
theorem bz_s_iand {k : Nat} {N : bz_N} {i : Nat} {L : List (Option bz_V)} {st : List bz_V} {μ : bz_M} {res : bz_R} {rec : bz_X0} {ks : Nat → bz_K} (hc : bz_ok1 k i (.iand) = true) (hk : k < bz_KM) (hr : bz_Rc N rec) (hks : bz_Ks k N i ks) (h : bz_step bz_ct bz_mls rec k (.iand) ks L st μ = some res) : bz_H k N i L st μ res := by
  obtain ⟨c1, c2⟩ := bz_k1_inv hc
  unfold bz_step at h
  dsimp only at h
  split at h
  · exact bz_i_iand (len := 0) c1 c2 (hks 0 _ _ _ _ h)
  · cases h
theorem bz_s_ior {k : Nat} {N : bz_N} {i : Nat} {L : List (Option bz_V)} {st : List bz_V} {μ : bz_M} {res : bz_R} {rec : bz_X0} {ks : Nat → bz_K} (hc : bz_ok1 k i (.ior) = true) (hk : k < bz_KM) (hr : bz_Rc N rec) (hks : bz_Ks k N i ks) (h : bz_step bz_ct bz_mls rec k (.ior) ks L st μ = some res) : bz_H k N i L st μ res := by
  obtain ⟨c1, c2⟩ := bz_k1_inv hc
  unfold bz_step at h
  dsimp only at h
  split at h
  · exact bz_i_ior (len := 0) c1 c2 (hks 0 _ _ _ _ h)
  · cases h
theorem bz_s_ishl {k : Nat} {N : bz_N} {i : Nat} {L : List (Option bz_V)} {st : List bz_V} {μ : bz_M} {res : bz_R} {rec : bz_X0} {ks : Nat → bz_K} (hc : bz_ok1 k i (.ishl) = true) (hk : k < bz_KM) (hr : bz_Rc N rec) (hks : bz_Ks k N i ks) (h : bz_step bz_ct bz_mls rec k (.ishl) ks L st μ = some res) : bz_H k N i L st μ res := by
  obtain ⟨c1, c2⟩ := bz_k1_inv hc
  unfold bz_step at h
  dsimp only at h
  split at h
  · exact bz_i_ishl (len := 0) c1 c2 (hks 0 _ _ _ _ h)
  · cases h
theorem bz_s_ishr {k : Nat} {N : bz_N} {i : Nat} {L : List (Option bz_V)} {st : List bz_V} {μ : bz_M} {res : bz_R} {rec : bz_X0} {ks : Nat → bz_K} (hc : bz_ok1 k i (.ishr) = true) (hk : k < bz_KM) (hr : bz_Rc N rec) (hks : bz_Ks k N i ks) (h : bz_step bz_ct bz_mls rec k (.ishr) ks L st μ = some res) : bz_H k N i L st μ res := by
  obtain ⟨c1, c2⟩ := bz_k1_inv hc
  unfold bz_step at h
  dsimp only at h
  split at h
  · exact bz_i_ishr (len := 0) c1 c2 (hks 0 _ _ _ _ h)
  · cases h
theorem bz_s_iushr {k : Nat} {N : bz_N} {i : Nat} {L : List (Option bz_V)} {st : List bz_V} {μ : bz_M} {res : bz_R} {rec : bz_X0} {ks : Nat → bz_K} (hc : bz_ok1 k i (.iushr) = true) (hk : k < bz_KM) (hr : bz_Rc N rec) (hks : bz_Ks k N i ks) (h : bz_step bz_ct bz_mls rec k (.iushr) ks L st μ = some res) : bz_H k N i L st μ res := by
  obtain ⟨c1, c2⟩ := bz_k1_inv hc
  unfold bz_step at h
  dsimp only at h
  split at h
  · exact bz_i_iushr (len := 0) c1 c2 (hks 0 _ _ _ _ h)
  · cases h
theorem bz_s_ladd {k : Nat} {N : bz_N} {i : Nat} {L : List (Option bz_V)} {st : List bz_V} {μ : bz_M} {res : bz_R} {rec : bz_X0} {ks : Nat → bz_K} (hc : bz_ok1 k i (.ladd) = true) (hk : k < bz_KM) (hr : bz_Rc N rec) (hks : bz_Ks k N i ks) (h : bz_step bz_ct bz_mls rec k (.ladd) ks L st μ = some res) : bz_H k N i L st μ res := by
  obtain ⟨c1, c2⟩ := bz_k1_inv hc
  unfold bz_step at h
  dsimp only at h
  split at h
  · exact bz_i_ladd (len := 0) c1 c2 (hks 0 _ _ _ _ h)
  · cases h
theorem bz_s_lsub {k : Nat} {N : bz_N} {i : Nat} {L : List (Option bz_V)} {st : List bz_V} {μ : bz_M} {res : bz_R} {rec : bz_X0} {ks : Nat → bz_K} (hc : bz_ok1 k i (.lsub) = true) (hk : k < bz_KM) (hr : bz_Rc N rec) (hks : bz_Ks k N i ks) (h : bz_step bz_ct bz_mls rec k (.lsub) ks L st μ = some res) : bz_H k N i L st μ res := by
  obtain ⟨c1, c2⟩ := bz_k1_inv hc
  unfold bz_step at h
  dsimp only at h
  split at h
  · exact bz_i_lsub (len := 0) c1 c2 (hks 0 _ _ _ _ h)
  · cases h
theorem bz_s_lmul {k : Nat} {N : bz_N} {i : Nat} {L : List (Option bz_V)} {st : List bz_V} {μ : bz_M} {res : bz_R} {rec : bz_X0} {ks : Nat → bz_K} (hc : bz_ok1 k i (.lmul) = true) (hk : k < bz_KM) (hr : bz_Rc N rec) (hks : bz_Ks k N i ks) (h : bz_step bz_ct bz_mls rec k (.lmul) ks L st μ = some res) : bz_H k N i L st μ res := by
  obtain ⟨c1, c2⟩ := bz_k1_inv hc
  unfold bz_step at h
  dsimp only at h
  split at h
  · exact bz_i_lmul (len := 0) c1 c2 (hks 0 _ _ _ _ h)
  · cases h
theorem bz_s_lxor {k : Nat} {N : bz_N} {i : Nat} {L : List (Option bz_V)} {st : List bz_V} {μ : bz_M} {res : bz_R} {rec : bz_X0} {ks : Nat → bz_K} (hc : bz_ok1 k i (.lxor) = true) (hk : k < bz_KM) (hr : bz_Rc N rec) (hks : bz_Ks k N i ks) (h : bz_step bz_ct bz_mls rec k (.lxor) ks L st μ = some res) : bz_H k N i L st μ res := by
  obtain ⟨c1, c2⟩ := bz_k1_inv hc
  unfold bz_step at h
  dsimp only at h
  split at h
  · exact bz_i_lxor (len := 0) c1 c2 (hks 0 _ _ _ _ h)
  · cases h
theorem bz_s_lcmp {k : Nat} {N : bz_N} {i : Nat} {L : List (Option bz_V)} {st : List bz_V} {μ : bz_M} {res : bz_R} {rec : bz_X0} {ks : Nat → bz_K} (hc : bz_ok1 k i (.lcmp) = true) (hk : k < bz_KM) (hr : bz_Rc N rec) (hks : bz_Ks k N i ks) (h : bz_step bz_ct bz_mls rec k (.lcmp) ks L st μ = some res) : bz_H k N i L st μ res := by
  obtain ⟨c1, c2⟩ := bz_k1_inv hc
  unfold bz_step at h
  dsimp only at h
  split at h
  · exact bz_i_lcmp (len := 0) c1 c2 (hks 0 _ _ _ _ h)
  · cases h
theorem bz_s_ineg {k : Nat} {N : bz_N} {i : Nat} {L : List (Option bz_V)} {st : List bz_V} {μ : bz_M} {res : bz_R} {rec : bz_X0} {ks : Nat → bz_K} (hc : bz_ok1 k i (.ineg) = true) (hk : k < bz_KM) (hr : bz_Rc N rec) (hks : bz_Ks k N i ks) (h : bz_step bz_ct bz_mls rec k (.ineg) ks L st μ = some res) : bz_H k N i L st μ res := by
  obtain ⟨c1, c2⟩ := bz_k1_inv hc
  unfold bz_step at h
  dsimp only at h
  split at h
  · exact bz_i_ineg (len := 0) c1 c2 (hks 0 _ _ _ _ h)
  · cases h
theorem bz_s_i2l {k : Nat} {N : bz_N} {i : Nat} {L : List (Option bz_V)} {st : List bz_V} {μ : bz_M} {res : bz_R} {rec : bz_X0} {ks : Nat → bz_K} (hc : bz_ok1 k i (.i2l) = true) (hk : k < bz_KM) (hr : bz_Rc N rec) (hks : bz_Ks k N i ks) (h : bz_step bz_ct bz_mls rec k (.i2l) ks L st μ = some res) : bz_H k N i L st μ res := by
  obtain ⟨c1, c2⟩ := bz_k1_inv hc
  unfold bz_step at h
  dsimp only at h
  split at h
  · exact bz_i_i2l (len := 0) c1 c2 (hks 0 _ _ _ _ h)
  · cases h
theorem bz_s_l2i {k : Nat} {N : bz_N} {i : Nat} {L : List (Option bz_V)} {st : List bz_V} {μ : bz_M} {res : bz_R} {rec : bz_X0} {ks : Nat → bz_K} (hc : bz_ok1 k i (.l2i) = true) (hk : k < bz_KM) (hr : bz_Rc N rec) (hks : bz_Ks k N i ks) (h : bz_step bz_ct bz_mls rec k (.l2i) ks L st μ = some res) : bz_H k N i L st μ res := by
  obtain ⟨c1, c2⟩ := bz_k1_inv hc
  unfold bz_step at h
  dsimp only at h
  split at h
  · exact bz_i_l2i (len := 0) c1 c2 (hks 0 _ _ _ _ h)
  · cases h
theorem bz_s_i2c {k : Nat} {N : bz_N} {i : Nat} {L : List (Option bz_V)} {st : List bz_V} {μ : bz_M} {res : bz_R} {rec : bz_X0} {ks : Nat → bz_K} (hc : bz_ok1 k i (.i2c) = true) (hk : k < bz_KM) (hr : bz_Rc N rec) (hks : bz_Ks k N i ks) (h : bz_step bz_ct bz_mls rec k (.i2c) ks L st μ = some res) : bz_H k N i L st μ res := by
  obtain ⟨c1, c2⟩ := bz_k1_inv hc
  unfold bz_step at h
  dsimp only at h
  split at h
  · exact bz_i_i2c (len := 0) c1 c2 (hks 0 _ _ _ _ h)
  · cases h
theorem bz_s_i2b {k : Nat} {N : bz_N} {i : Nat} {L : List (Option bz_V)} {st : List bz_V} {μ : bz_M} {res : bz_R} {rec : bz_X0} {ks : Nat → bz_K} (hc : bz_ok1 k i (.i2b) = true) (hk : k < bz_KM) (hr : bz_Rc N rec) (hks : bz_Ks k N i ks) (h : bz_step bz_ct bz_mls rec k (.i2b) ks L st μ = some res) : bz_H k N i L st μ res := by
  obtain ⟨c1, c2⟩ := bz_k1_inv hc
  unfold bz_step at h
  dsimp only at h
  split at h
  · exact bz_i_i2b (len := 0) c1 c2 (hks 0 _ _ _ _ h)
  · cases h
theorem bz_s_idiv {k : Nat} {N : bz_N} {i : Nat} {L : List (Option bz_V)} {st : List bz_V} {μ : bz_M} {res : bz_R} {rec : bz_X0} {ks : Nat → bz_K} (hc : bz_ok1 k i (.idiv) = true) (hk : k < bz_KM) (hr : bz_Rc N rec) (hks : bz_Ks k N i ks) (h : bz_step bz_ct bz_mls rec k (.idiv) ks L st μ = some res) : bz_H k N i L st μ res := by
  obtain ⟨c1, c2⟩ := bz_k1_inv hc
  unfold bz_step at h
  dsimp only at h
  split at h
  · unfold bz_dv at h
    split at h
    · cases h
    · rename_i hy
      exact bz_i_idiv (len := 0) hy c1 c2 (hks 0 _ _ _ _ h)
  · cases h
theorem bz_s_irem {k : Nat} {N : bz_N} {i : Nat} {L : List (Option bz_V)} {st : List bz_V} {μ : bz_M} {res : bz_R} {rec : bz_X0} {ks : Nat → bz_K} (hc : bz_ok1 k i (.irem) = true) (hk : k < bz_KM) (hr : bz_Rc N rec) (hks : bz_Ks k N i ks) (h : bz_step bz_ct bz_mls rec k (.irem) ks L st μ = some res) : bz_H k N i L st μ res := by
  obtain ⟨c1, c2⟩ := bz_k1_inv hc
  unfold bz_step at h
  dsimp only at h
  split at h
  · unfold bz_rm at h
    split at h
    · cases h
    · rename_i hy
      exact bz_i_irem (len := 0) hy c1 c2 (hks 0 _ _ _ _ h)
  · cases h
theorem bz_s_ldiv {k : Nat} {N : bz_N} {i : Nat} {L : List (Option bz_V)} {st : List bz_V} {μ : bz_M} {res : bz_R} {rec : bz_X0} {ks : Nat → bz_K} (hc : bz_ok1 k i (.ldiv) = true) (hk : k < bz_KM) (hr : bz_Rc N rec) (hks : bz_Ks k N i ks) (h : bz_step bz_ct bz_mls rec k (.ldiv) ks L st μ = some res) : bz_H k N i L st μ res := by
  obtain ⟨c1, c2⟩ := bz_k1_inv hc
  unfold bz_step at h
  dsimp only at h
  split at h
  · unfold bz_ld at h
    split at h
    · cases h
    · rename_i hy
      exact bz_i_ldiv (len := 0) hy c1 c2 (hks 0 _ _ _ _ h)
  · cases h
theorem bz_s_dup {k : Nat} {N : bz_N} {i : Nat} {L : List (Option bz_V)} {st : List bz_V} {μ : bz_M} {res : bz_R} {rec : bz_X0} {ks : Nat → bz_K} (hc : bz_ok1 k i (.dup) = true) (hk : k < bz_KM) (hr : bz_Rc N rec) (hks : bz_Ks k N i ks) (h : bz_step bz_ct bz_mls rec k (.dup) ks L st μ = some res) : bz_H k N i L st μ res := by
  obtain ⟨c1, c2⟩ := bz_k1_inv hc
  unfold bz_step at h
  dsimp only at h
  split at h
  · exact bz_i_dup (len := 0) rfl c1 c2 (hks 0 _ _ _ _ h)
  · exact bz_i_dup (len := 0) rfl c1 c2 (hks 0 _ _ _ _ h)
  · cases h
theorem bz_s_pop {k : Nat} {N : bz_N} {i : Nat} {L : List (Option bz_V)} {st : List bz_V} {μ : bz_M} {res : bz_R} {rec : bz_X0} {ks : Nat → bz_K} (hc : bz_ok1 k i (.pop) = true) (hk : k < bz_KM) (hr : bz_Rc N rec) (hks : bz_Ks k N i ks) (h : bz_step bz_ct bz_mls rec k (.pop) ks L st μ = some res) : bz_H k N i L st μ res := by
  obtain ⟨c1, c2⟩ := bz_k1_inv hc
  unfold bz_step at h
  dsimp only at h
  split at h
  · exact bz_i_pop (len := 0) rfl c1 c2 (hks 0 _ _ _ _ h)
  · exact bz_i_pop (len := 0) rfl c1 c2 (hks 0 _ _ _ _ h)
  · cases h
theorem bz_s_dup2 {k : Nat} {N : bz_N} {i : Nat} {L : List (Option bz_V)} {st : List bz_V} {μ : bz_M} {res : bz_R} {rec : bz_X0} {ks : Nat → bz_K} (hc : bz_ok1 k i (.dup2) = true) (hk : k < bz_KM) (hr : bz_Rc N rec) (hks : bz_Ks k N i ks) (h : bz_step bz_ct bz_mls rec k (.dup2) ks L st μ = some res) : bz_H k N i L st μ res := by
  obtain ⟨c1, c2⟩ := bz_k1_inv hc
  unfold bz_step at h
  dsimp only at h
  split at h
  · exact bz_i_dup2 (len := 0) rfl rfl c1 c2 (hks 0 _ _ _ _ h)
  · cases h
theorem bz_s_iaload {k : Nat} {N : bz_N} {i : Nat} {L : List (Option bz_V)} {st : List bz_V} {μ : bz_M} {res : bz_R} {rec : bz_X0} {ks : Nat → bz_K} (hc : bz_ok1 k i (.iaload) = true) (hk : k < bz_KM) (hr : bz_Rc N rec) (hks : bz_Ks k N i ks) (h : bz_step bz_ct bz_mls rec k (.iaload) ks L st μ = some res) : bz_H k N i L st μ res := by
  obtain ⟨c1, c2⟩ := bz_k1_inv hc
  unfold bz_step at h
  dsimp only at h
  split at h
  · unfold bz_rI at h
    split at h
    · rename_i g
      obtain ⟨g1, g2, g3⟩ := g
      rcases g1 with g1 | g1
      · exact bz_i_iald g1 g2 g3 c1 c2 (hks 0 _ _ _ _ h)
      · exact bz_i_iald2 g1 g2 g3 c1 c2 (hks 0 _ _ _ _ h)
    · cases h
  · cases h
theorem bz_s_baload {k : Nat} {N : bz_N} {i : Nat} {L : List (Option bz_V)} {st : List bz_V} {μ : bz_M} {res : bz_R} {rec : bz_X0} {ks : Nat → bz_K} (hc : bz_ok1 k i (.baload) = true) (hk : k < bz_KM) (hr : bz_Rc N rec) (hks : bz_Ks k N i ks) (h : bz_step bz_ct bz_mls rec k (.baload) ks L st μ = some res) : bz_H k N i L st μ res := by
  obtain ⟨c1, c2⟩ := bz_k1_inv hc
  unfold bz_step at h
  dsimp only at h
  split at h
  · unfold bz_rB at h
    split at h
    · rename_i g
      obtain ⟨g1, g2, g3⟩ := g
      rcases g1 with g1 | g1
      · exact bz_i_zald g1 g2 g3 c1 c2 (hks 0 _ _ _ _ h)
      · exact bz_i_bald2 g1 g2 g3 c1 c2 (hks 0 _ _ _ _ h)
    · cases h
  · cases h
theorem bz_s_laload {k : Nat} {N : bz_N} {i : Nat} {L : List (Option bz_V)} {st : List bz_V} {μ : bz_M} {res : bz_R} {rec : bz_X0} {ks : Nat → bz_K} (hc : bz_ok1 k i (.laload) = true) (hk : k < bz_KM) (hr : bz_Rc N rec) (hks : bz_Ks k N i ks) (h : bz_step bz_ct bz_mls rec k (.laload) ks L st μ = some res) : bz_H k N i L st μ res := by
  obtain ⟨c1, c2⟩ := bz_k1_inv hc
  unfold bz_step at h
  dsimp only at h
  split at h
  · unfold bz_rL at h
    split at h
    · rename_i g0
      obtain ⟨g1, g2, g3⟩ := g0
      exact bz_i_lald g1 g2 g3 c1 c2 (hks 0 _ _ _ _ h)
    · cases h
  · cases h
theorem bz_s_aaload {k : Nat} {N : bz_N} {i : Nat} {L : List (Option bz_V)} {st : List bz_V} {μ : bz_M} {res : bz_R} {rec : bz_X0} {ks : Nat → bz_K} (hc : bz_ok1 k i (.aaload) = true) (hk : k < bz_KM) (hr : bz_Rc N rec) (hks : bz_Ks k N i ks) (h : bz_step bz_ct bz_mls rec k (.aaload) ks L st μ = some res) : bz_H k N i L st μ res := by
  obtain ⟨c1, c2⟩ := bz_k1_inv hc
  unfold bz_step at h
  dsimp only at h
  split at h
  · unfold bz_rR at h
    split at h
    · rename_i g0
      obtain ⟨g1, ⟨g2, g3⟩, g4⟩ := g0
      exact bz_i_aald rfl g1 g2 g3 g4 c1 c2 (hks 0 _ _ _ _ h)
    · cases h
  · cases h
theorem bz_s_iastore {k : Nat} {N : bz_N} {i : Nat} {L : List (Option bz_V)} {st : List bz_V} {μ : bz_M} {res : bz_R} {rec : bz_X0} {ks : Nat → bz_K} (hc : bz_ok1 k i (.iastore) = true) (hk : k < bz_KM) (hr : bz_Rc N rec) (hks : bz_Ks k N i ks) (h : bz_step bz_ct bz_mls rec k (.iastore) ks L st μ = some res) : bz_H k N i L st μ res := by
  obtain ⟨c1, c2⟩ := bz_k1_inv hc
  unfold bz_step at h
  dsimp only at h
  split at h
  · unfold bz_wI at h
    split at h
    · rename_i g0
      obtain ⟨g1, g2, g3⟩ := g0
      exact bz_i_iast g1 g2 g3 c1 c2 (hks 0 _ _ _ _ h)
    · cases h
  · cases h
theorem bz_s_bastore {k : Nat} {N : bz_N} {i : Nat} {L : List (Option bz_V)} {st : List bz_V} {μ : bz_M} {res : bz_R} {rec : bz_X0} {ks : Nat → bz_K} (hc : bz_ok1 k i (.bastore) = true) (hk : k < bz_KM) (hr : bz_Rc N rec) (hks : bz_Ks k N i ks) (h : bz_step bz_ct bz_mls rec k (.bastore) ks L st μ = some res) : bz_H k N i L st μ res := by
  obtain ⟨c1, c2⟩ := bz_k1_inv hc
  unfold bz_step at h
  dsimp only at h
  split at h
  · unfold bz_wB at h
    split at h
    · rename_i g0
      obtain ⟨g1, ⟨g2, g3⟩, g4⟩ := g0
      exact bz_i_zast g1 g2 g3 g4 c1 c2 (hks 0 _ _ _ _ h)
    · cases h
  · cases h
theorem bz_s_lastore {k : Nat} {N : bz_N} {i : Nat} {L : List (Option bz_V)} {st : List bz_V} {μ : bz_M} {res : bz_R} {rec : bz_X0} {ks : Nat → bz_K} (hc : bz_ok1 k i (.lastore) = true) (hk : k < bz_KM) (hr : bz_Rc N rec) (hks : bz_Ks k N i ks) (h : bz_step bz_ct bz_mls rec k (.lastore) ks L st μ = some res) : bz_H k N i L st μ res := by
  obtain ⟨c1, c2⟩ := bz_k1_inv hc
  unfold bz_step at h
  dsimp only at h
  split at h
  · unfold bz_wL at h
    split at h
    · rename_i g0
      obtain ⟨g1, g2, g3⟩ := g0
      exact bz_i_last g1 g2 g3 c1 c2 (hks 0 _ _ _ _ h)
    · cases h
  · cases h
theorem bz_s_aastore {k : Nat} {N : bz_N} {i : Nat} {L : List (Option bz_V)} {st : List bz_V} {μ : bz_M} {res : bz_R} {rec : bz_X0} {ks : Nat → bz_K} (hc : bz_ok1 k i (.aastore) = true) (hk : k < bz_KM) (hr : bz_Rc N rec) (hks : bz_Ks k N i ks) (h : bz_step bz_ct bz_mls rec k (.aastore) ks L st μ = some res) : bz_H k N i L st μ res := by
  obtain ⟨c1, c2⟩ := bz_k1_inv hc
  unfold bz_step at h
  dsimp only at h
  split at h
  · unfold bz_wR at h
    split at h
    · rename_i g0
      obtain ⟨g1, g2, g3⟩ := g0
      exact bz_i_aast rfl g1 g2 g3 c1 c2 (hks 0 _ _ _ _ h)
    · cases h
  · cases h
theorem bz_s_arraylength {k : Nat} {N : bz_N} {i : Nat} {L : List (Option bz_V)} {st : List bz_V} {μ : bz_M} {res : bz_R} {rec : bz_X0} {ks : Nat → bz_K} (hc : bz_ok1 k i (.arraylength) = true) (hk : k < bz_KM) (hr : bz_Rc N rec) (hks : bz_Ks k N i ks) (h : bz_step bz_ct bz_mls rec k (.arraylength) ks L st μ = some res) : bz_H k N i L st μ res := by
  obtain ⟨c1, c2⟩ := bz_k1_inv hc
  unfold bz_step at h
  dsimp only at h
  split at h
  · unfold bz_al at h
    split at h
    · rename_i g0
      exact bz_i_alen g0 c1 c2 (hks 0 _ _ _ _ h)
    · cases h
  · cases h
theorem bz_s_goto {k : Nat} {N : bz_N} {i : Nat} {L : List (Option bz_V)} {st : List bz_V} {μ : bz_M} {res : bz_R} {o : Int} {rec : bz_X0} {ks : Nat → bz_K} (hc : bz_ok1 k i (.goto o) = true) (hk : k < bz_KM) (hr : bz_Rc N rec) (hks : bz_Ks k N i ks) (h : bz_step bz_ct bz_mls rec k (.goto o) ks L st μ = some res) : bz_H k N i L st μ res := by
  exact bz_q_goto hc (bz_j_ok hk hr hks h)
theorem bz_s_if {k : Nat} {N : bz_N} {i : Nat} {L : List (Option bz_V)} {st : List bz_V} {μ : bz_M} {res : bz_R} {c : ClassFile.Cond} {o : Int} {rec : bz_X0} {ks : Nat → bz_K} (hc : bz_ok1 k i (.ifCond c o) = true) (hk : k < bz_KM) (hr : bz_Rc N rec) (hks : bz_Ks k N i ks) (h : bz_step bz_ct bz_mls rec k (.ifCond c o) ks L st μ = some res) : bz_H k N i L st μ res := by
  unfold bz_step at h
  dsimp only at h
  split at h
  · exact bz_q_if hc h (fun z => bz_j_ok hk hr hks z) (fun z => hks 0 _ _ _ _ z)
  · cases h
theorem bz_s_icmp {k : Nat} {N : bz_N} {i : Nat} {L : List (Option bz_V)} {st : List bz_V} {μ : bz_M} {res : bz_R} {c : ClassFile.Cond} {o : Int} {rec : bz_X0} {ks : Nat → bz_K} (hc : bz_ok1 k i (.if_icmp c o) = true) (hk : k < bz_KM) (hr : bz_Rc N rec) (hks : bz_Ks k N i ks) (h : bz_step bz_ct bz_mls rec k (.if_icmp c o) ks L st μ = some res) : bz_H k N i L st μ res := by
  unfold bz_step at h
  dsimp only at h
  split at h
  · exact bz_q_icmp hc h (fun z => bz_j_ok hk hr hks z) (fun z => hks 0 _ _ _ _ z)
  · cases h
theorem bz_s_getfield {k : Nat} {N : bz_N} {i : Nat} {L : List (Option bz_V)} {st : List bz_V} {μ : bz_M} {res : bz_R} {p : Nat} {rec : bz_X0} {ks : Nat → bz_K} (hc : bz_ok1 k i (.getfield p) = true) (hk : k < bz_KM) (hr : bz_Rc N rec) (hks : bz_Ks k N i ks) (h : bz_step bz_ct bz_mls rec k (.getfield p) ks L st μ = some res) : bz_H k N i L st μ res := by
  have hc : cond (Nat.beq p 2801) (bz_kstr k i 2801) (bz_kget k i p 0) = true := hc
  unfold bz_step at h
  dsimp only at h
  split at h
  · unfold bz_fI at h
    split at h
    · rename_i g
      cases hb : Nat.beq p 2801 with
      | true =>
        have e := Nat.eq_of_beq_eq_true hb
        subst e
        rw [hb] at hc
        exact bz_q_strC hc g (hks 0 _ _ _ _ h)
      | false =>
        rw [hb] at hc
        exact bz_q_getfield hc g (hks 0 _ _ _ _ h)
    · cases h
  · cases h
theorem bz_s_getref {k : Nat} {N : bz_N} {i : Nat} {L : List (Option bz_V)} {st : List bz_V} {μ : bz_M} {res : bz_R} {p : Nat} {rec : bz_X0} {ks : Nat → bz_K} (hc : bz_ok1 k i (.getstatic p) = true) (hk : k < bz_KM) (hr : bz_Rc N rec) (hks : bz_Ks k N i ks) (h : bz_step bz_ct bz_mls rec k (.getstatic p) ks L st μ = some res) : bz_H k N i L st μ res := by
  have hc : cond (Nat.beq p 2800) (bz_kstr k i 2800) (bz_kget k i p 2) = true := hc
  unfold bz_step at h
  dsimp only at h
  split at h
  · unfold bz_fR at h
    split at h
    · rename_i g
      cases hb : Nat.beq p 2800 with
      | true =>
        have e := Nat.eq_of_beq_eq_true hb
        subst e
        rw [hb] at hc
        exact bz_q_strV hc g.1 g.2 (hks 0 _ _ _ _ h)
      | false =>
        rw [hb] at hc
        exact bz_q_getref hc g.1 g.2 (hks 0 _ _ _ _ h)
    · cases h
  · cases h
theorem bz_s_fload {k : Nat} {N : bz_N} {i : Nat} {L : List (Option bz_V)} {st : List bz_V} {μ : bz_M} {res : bz_R} {p : Nat} {rec : bz_X0} {ks : Nat → bz_K} (hc : bz_ok1 k i (.fload p) = true) (hk : k < bz_KM) (hr : bz_Rc N rec) (hks : bz_Ks k N i ks) (h : bz_step bz_ct bz_mls rec k (.fload p) ks L st μ = some res) : bz_H k N i L st μ res := by
  unfold bz_step at h
  dsimp only at h
  split at h
  · unfold bz_fL at h
    split at h
    · rename_i g
      exact bz_q_fload hc g (hks 0 _ _ _ _ h)
    · cases h
  · cases h
theorem bz_s_dload {k : Nat} {N : bz_N} {i : Nat} {L : List (Option bz_V)} {st : List bz_V} {μ : bz_M} {res : bz_R} {j : Nat} {rec : bz_X0} {ks : Nat → bz_K} (hc : bz_ok1 k i (.dload j) = true) (hk : k < bz_KM) (hr : bz_Rc N rec) (hks : bz_Ks k N i ks) (h : bz_step bz_ct bz_mls rec k (.dload j) ks L st μ = some res) : bz_H k N i L st μ res := by
  unfold bz_step at h
  dsimp only at h
  split at h
  · unfold bz_fS at h
    split at h
    · rename_i g
      exact bz_q_dload hc g (hks 0 _ _ _ _ h)
    · cases h
  · cases h
theorem bz_s_putS {k : Nat} {N : bz_N} {i : Nat} {L : List (Option bz_V)} {st : List bz_V} {μ : bz_M} {res : bz_R} {j : Nat} {rec : bz_X0} {ks : Nat → bz_K} (hc : bz_ok1 k i (.putstatic j) = true) (hk : k < bz_KM) (hr : bz_Rc N rec) (hks : bz_Ks k N i ks) (h : bz_step bz_ct bz_mls rec k (.putstatic j) ks L st μ = some res) : bz_H k N i L st μ res := by
  unfold bz_step at h
  dsimp only at h
  split at h
  · unfold bz_pS at h
    split at h
    · rename_i g
      exact bz_q_putS hc g (hks 0 _ _ _ _ h)
    · cases h
  · cases h
theorem bz_s_putfield {k : Nat} {N : bz_N} {i : Nat} {L : List (Option bz_V)} {st : List bz_V} {μ : bz_M} {res : bz_R} {p : Nat} {rec : bz_X0} {ks : Nat → bz_K} (hc : bz_ok1 k i (.putfield p) = true) (hk : k < bz_KM) (hr : bz_Rc N rec) (hks : bz_Ks k N i ks) (h : bz_step bz_ct bz_mls rec k (.putfield p) ks L st μ = some res) : bz_H k N i L st μ res := by
  have hc : (bz_kput k i p 0 && decide (bz_tyf (p / 100) (p % 100) = .int)) = true := hc
  rw [Bool.and_eq_true, decide_eq_true_eq] at hc
  unfold bz_step at h
  dsimp only at h
  split at h
  · unfold bz_pI at h
    split at h
    · rename_i g
      exact bz_q_putfield hc.1 g hc.2 (hks 0 _ _ _ _ h)
    · cases h
  · cases h
theorem bz_s_dstore {k : Nat} {N : bz_N} {i : Nat} {L : List (Option bz_V)} {st : List bz_V} {μ : bz_M} {res : bz_R} {p : Nat} {rec : bz_X0} {ks : Nat → bz_K} (hc : bz_ok1 k i (.dstore p) = true) (hk : k < bz_KM) (hr : bz_Rc N rec) (hks : bz_Ks k N i ks) (h : bz_step bz_ct bz_mls rec k (.dstore p) ks L st μ = some res) : bz_H k N i L st μ res := by
  have hc : (bz_kput k i p 0 && decide (bz_tyf (p / 100) (p % 100) = .boolean)) = true := hc
  rw [Bool.and_eq_true, decide_eq_true_eq] at hc
  unfold bz_step at h
  dsimp only at h
  split at h
  · unfold bz_pB at h
    split at h
    · rename_i g
      exact bz_q_dstore hc.1 g.1 hc.2 g.2 (hks 0 _ _ _ _ h)
    · cases h
  · cases h
theorem bz_s_fstore {k : Nat} {N : bz_N} {i : Nat} {L : List (Option bz_V)} {st : List bz_V} {μ : bz_M} {res : bz_R} {p : Nat} {rec : bz_X0} {ks : Nat → bz_K} (hc : bz_ok1 k i (.fstore p) = true) (hk : k < bz_KM) (hr : bz_Rc N rec) (hks : bz_Ks k N i ks) (h : bz_step bz_ct bz_mls rec k (.fstore p) ks L st μ = some res) : bz_H k N i L st μ res := by
  unfold bz_step at h
  dsimp only at h
  split at h
  · unfold bz_pL at h
    split at h
    · rename_i g
      exact bz_q_fstore hc g (hks 0 _ _ _ _ h)
    · cases h
  · cases h
theorem bz_s_putref {k : Nat} {N : bz_N} {i : Nat} {L : List (Option bz_V)} {st : List bz_V} {μ : bz_M} {res : bz_R} {p : Nat} {rec : bz_X0} {ks : Nat → bz_K} (hc : bz_ok1 k i (.astore p) = true) (hk : k < bz_KM) (hr : bz_Rc N rec) (hks : bz_Ks k N i ks) (h : bz_step bz_ct bz_mls rec k (.astore p) ks L st μ = some res) : bz_H k N i L st μ res := by
  unfold bz_step at h
  dsimp only at h
  split at h
  · unfold bz_pR at h
    split at h
    · rename_i g
      exact bz_q_putref hc g.1 g.2 (hks 0 _ _ _ _ h)
    · cases h
  · cases h
theorem bz_s_new {k : Nat} {N : bz_N} {i : Nat} {L : List (Option bz_V)} {st : List bz_V} {μ : bz_M} {res : bz_R} {c : Nat} {rec : bz_X0} {ks : Nat → bz_K} (hc : bz_ok1 k i (.new c) = true) (hk : k < bz_KM) (hr : bz_Rc N rec) (hks : bz_Ks k N i ks) (h : bz_step bz_ct bz_mls rec k (.new c) ks L st μ = some res) : bz_H k N i L st μ res := by
  have h : bz_nw μ c (fun a μ => ks 0 L (zR a :: st) μ) = some res := h
  unfold bz_nw at h
  split at h
  · rename_i g
    exact bz_q_new hc g (hks 0 _ _ _ _ h)
  · cases h
theorem bz_s_mk {k : Nat} {N : bz_N} {i : Nat} {L : List (Option bz_V)} {st : List bz_V} {μ : bz_M} {res : bz_R} {t : Nat} {rec : bz_X0} {ks : Nat → bz_K} (hc : bz_ok1 k i (.anewarray t) = true) (hk : k < bz_KM) (hr : bz_Rc N rec) (hks : bz_Ks k N i ks) (h : bz_step bz_ct bz_mls rec k (.anewarray t) ks L st μ = some res) : bz_H k N i L st μ res := by
  unfold bz_step at h
  dsimp only at h
  split at h
  · unfold bz_na at h
    split at h
    · rename_i g
      exact bz_q_mk hc g.1 g.2.1 g.2.2 (hks 0 _ _ _ _ h)
    · cases h
  · cases h
theorem bz_s_oinit {k : Nat} {N : bz_N} {i : Nat} {L : List (Option bz_V)} {st : List bz_V} {μ : bz_M} {res : bz_R} {j : Nat} {rec : bz_X0} {ks : Nat → bz_K} (hc : bz_ok1 k i (.invokespecial j) = true) (hk : k < bz_KM) (hr : bz_Rc N rec) (hks : bz_Ks k N i ks) (h : bz_step bz_ct bz_mls rec k (.invokespecial j) ks L st μ = some res) : bz_H k N i L st μ res := by
  unfold bz_step at h
  dsimp only at h
  split at h
  · rename_i a st'
    cases hb : Nat.ble (bz_sum st') 8 with
    | true =>
      rw [hb, cond_true] at h
      unfold bz_oi at h
      split at h
      · rename_i g
        refine ⟨(hks 0 _ _ _ _ h).1, ?_⟩
        intro p l e R s m args below meth c' H locs ls sv c0 s0 mc ms C a1 a2 a3 a4 a5 a6 hz hS hR hL hv
        exact (bz_q_oinit hc (Nat.le_of_ble_eq_true hb) (bz_no15 hR C.2.2.2.2 (Or.inl g)) (hks 0 _ _ _ _ h)).2 p l e R s m args below meth c' H locs ls sv c0 s0 mc ms C a1 a2 a3 a4 a5 a6 hz hS hR hL hv
      · cases h
    | false => rw [hb] at h; cases h
  · cases h
theorem bz_s_call {k : Nat} {N : bz_N} {i : Nat} {L : List (Option bz_V)} {st : List bz_V} {μ : bz_M} {res : bz_R} {q : Nat} {rec : bz_X0} {ks : Nat → bz_K} (hc : bz_ok1 k i (.invokevirtual q) = true) (hk : k < bz_KM) (hr : bz_Rc N rec) (hks : bz_Ks k N i ks) (h : bz_step bz_ct bz_mls rec k (.invokevirtual q) ks L st μ = some res) : bz_H k N i L st μ res := by
  exact bz_q_call hc hr hks h
theorem bz_s_callh {k : Nat} {N : bz_N} {i : Nat} {L : List (Option bz_V)} {st : List bz_V} {μ : bz_M} {res : bz_R} {q : Nat} {rec : bz_X0} {ks : Nat → bz_K} (hc : bz_ok1 k i (.checkcast q) = true) (hk : k < bz_KM) (hr : bz_Rc N rec) (hks : bz_Ks k N i ks) (h : bz_step bz_ct bz_mls rec k (.checkcast q) ks L st μ = some res) : bz_H k N i L st μ res := by
  exact bz_q_call hc hr hks h
theorem bz_s_throw {k : Nat} {N : bz_N} {i : Nat} {L : List (Option bz_V)} {st : List bz_V} {μ : bz_M} {res : bz_R} {c : Nat} {rec : bz_X0} {ks : Nat → bz_K} (hc : bz_ok1 k i (.ldc_w c) = true) (hk : k < bz_KM) (hr : bz_Rc N rec) (hks : bz_Ks k N i ks) (h : bz_step bz_ct bz_mls rec k (.ldc_w c) ks L st μ = some res) : bz_H k N i L st μ res := by
  have h : cond (Nat.ble (bz_sum st) 8) (some (.inr c, sX μ)) none = some res := h
  cases hb : Nat.ble (bz_sum st) 8 with
  | true =>
    rw [hb, cond_true] at h
    cases h
    exact bz_q_throw hc (Nat.le_of_ble_eq_true hb)
  | false => rw [hb] at h; cases h
theorem bz_s_ireturn {k : Nat} {N : bz_N} {i : Nat} {L : List (Option bz_V)} {st : List bz_V} {μ : bz_M} {res : bz_R} {rec : bz_X0} {ks : Nat → bz_K} (hc : bz_ok1 k i (.ireturn) = true) (hk : k < bz_KM) (hr : bz_Rc N rec) (hks : bz_Ks k N i ks) (h : bz_step bz_ct bz_mls rec k (.ireturn) ks L st μ = some res) : bz_H k N i L st μ res := by
  have hc : (decide (bz_rt k = some .int) && decide (bz_cs k i = some (.ireturn, 1))) = true := hc
  rw [Bool.and_eq_true] at hc
  unfold bz_step at h
  dsimp only at h
  split at h
  · cases h
    exact bz_i_iret (st := []) (of_decide_eq_true hc.1) (bz_cs_eq (of_decide_eq_true hc.2))
  · cases h
theorem bz_s_lreturn {k : Nat} {N : bz_N} {i : Nat} {L : List (Option bz_V)} {st : List bz_V} {μ : bz_M} {res : bz_R} {rec : bz_X0} {ks : Nat → bz_K} (hc : bz_ok1 k i (.lreturn) = true) (hk : k < bz_KM) (hr : bz_Rc N rec) (hks : bz_Ks k N i ks) (h : bz_step bz_ct bz_mls rec k (.lreturn) ks L st μ = some res) : bz_H k N i L st μ res := by
  have hc : (decide (bz_rt k = some .long) && decide (bz_cs k i = some (.lreturn, 1))) = true := hc
  rw [Bool.and_eq_true] at hc
  unfold bz_step at h
  dsimp only at h
  split at h
  · cases h
    exact bz_i_lret (st := []) (of_decide_eq_true hc.1) (bz_cs_eq (of_decide_eq_true hc.2))
  · cases h
theorem bz_s_areturn {k : Nat} {N : bz_N} {i : Nat} {L : List (Option bz_V)} {st : List bz_V} {μ : bz_M} {res : bz_R} {rec : bz_X0} {ks : Nat → bz_K} (hc : bz_ok1 k i (.areturn) = true) (hk : k < bz_KM) (hr : bz_Rc N rec) (hks : bz_Ks k N i ks) (h : bz_step bz_ct bz_mls rec k (.areturn) ks L st μ = some res) : bz_H k N i L st μ res := by
  have hc : (bz_kty 2 ((bz_rt k).getD .int) && decide (bz_cs k i = some (.areturn, 1))) = true := hc
  rw [Bool.and_eq_true] at hc
  unfold bz_step at h
  dsimp only at h
  split at h
  · cases h
    exact bz_i_aret (st := []) hc.1 (bz_cs_eq (of_decide_eq_true hc.2))
  · cases h
theorem bz_s_vreturn {k : Nat} {N : bz_N} {i : Nat} {L : List (Option bz_V)} {st : List bz_V} {μ : bz_M} {res : bz_R} {rec : bz_X0} {ks : Nat → bz_K} (hc : bz_ok1 k i (.return_) = true) (hk : k < bz_KM) (hr : bz_Rc N rec) (hks : bz_Ks k N i ks) (h : bz_step bz_ct bz_mls rec k (.return_) ks L st μ = some res) : bz_H k N i L st μ res := by
  have hc : (decide (bz_rt k = none) && decide (bz_cs k i = some (.return_, 1))) = true := hc
  rw [Bool.and_eq_true] at hc
  unfold bz_step at h
  dsimp only at h
  split at h
  · cases h
    exact bz_i_vret (st := []) (of_decide_eq_true hc.1) (bz_cs_eq (of_decide_eq_true hc.2))
  · cases h
theorem bz_s_dreturn {k : Nat} {N : bz_N} {i : Nat} {L : List (Option bz_V)} {st : List bz_V} {μ : bz_M} {res : bz_R} {rec : bz_X0} {ks : Nat → bz_K} (hc : bz_ok1 k i (.dreturn) = true) (hk : k < bz_KM) (hr : bz_Rc N rec) (hks : bz_Ks k N i ks) (h : bz_step bz_ct bz_mls rec k (.dreturn) ks L st μ = some res) : bz_H k N i L st μ res := by
  have hc : (decide (bz_rt k = some .boolean) && decide (bz_cs k i = some (.ireturn, 1))) = true := hc
  rw [Bool.and_eq_true] at hc
  unfold bz_step at h
  dsimp only at h
  split at h
  · unfold bz_zB at h
    split at h
    · rename_i g
      cases h
      exact bz_i_zret (st := []) (of_decide_eq_true hc.1) g (bz_cs_eq (of_decide_eq_true hc.2))
    · cases h
  · cases h
theorem bz_s_freturn {k : Nat} {N : bz_N} {i : Nat} {L : List (Option bz_V)} {st : List bz_V} {μ : bz_M} {res : bz_R} {rec : bz_X0} {ks : Nat → bz_K} (hc : bz_ok1 k i (.freturn) = true) (hk : k < bz_KM) (hr : bz_Rc N rec) (hks : bz_Ks k N i ks) (h : bz_step bz_ct bz_mls rec k (.freturn) ks L st μ = some res) : bz_H k N i L st μ res := by
  have hc : ((decide (bz_rt k = some .char) || decide (bz_rt k = some .byte)) && decide (bz_cs k i = some (.ireturn, 1))) = true := hc
  rw [Bool.and_eq_true] at hc
  unfold bz_step at h
  dsimp only at h
  split at h
  · unfold bz_zC at h
    split at h
    · rename_i g
      cases h
      rcases Bool.or_eq_true _ _ |>.mp hc.1 with q | q
      · exact bz_i_cret (st := []) (of_decide_eq_true q) g (bz_cs_eq (of_decide_eq_true hc.2))
      · exact bz_i_bret (st := []) (of_decide_eq_true q) g (bz_cs_eq (of_decide_eq_true hc.2))
    · cases h
  · cases h
theorem bz_s_table {k : Nat} {N : bz_N} {i : Nat} {L : List (Option bz_V)} {st : List bz_V} {μ : bz_M} {res : bz_R} {d lo hi : Int} {os : Array Int} {rec : bz_X0} {ks : Nat → bz_K} (hc : bz_ok1 k i (.tableswitch d lo hi os) = true) (hk : k < bz_KM) (hr : bz_Rc N rec) (hks : bz_Ks k N i ks) (h : bz_step bz_ct bz_mls rec k (.tableswitch d lo hi os) ks L st μ = some res) : bz_H k N i L st μ res := by
  unfold bz_ok1 at hc
  dsimp only at hc
  split at hc
  · rename_i cd lo' hi' cs len hd
    rw [Bool.and_eq_true, Bool.and_eq_true, Bool.and_eq_true, decide_eq_true_eq, decide_eq_true_eq] at hc
    obtain ⟨⟨⟨rfl, rfl⟩, h1⟩, h2⟩ := hc
    unfold bz_step at h
    dsimp only at h
    split at h
    · exact bz_i_table hk hr hks (bz_cs_eq hd) h1 h2 h
    · cases h
  · cases hc
theorem bz_s_look {k : Nat} {N : bz_N} {i : Nat} {L : List (Option bz_V)} {st : List bz_V} {μ : bz_M} {res : bz_R} {d : Int} {ps : Array (Int × Int)} {rec : bz_X0} {ks : Nat → bz_K} (hc : bz_ok1 k i (.lookupswitch d ps) = true) (hk : k < bz_KM) (hr : bz_Rc N rec) (hks : bz_Ks k N i ks) (h : bz_step bz_ct bz_mls rec k (.lookupswitch d ps) ks L st μ = some res) : bz_H k N i L st μ res := by
  unfold bz_ok1 at hc
  dsimp only at hc
  split at hc
  · rename_i cd cs len hd
    rw [Bool.and_eq_true, Bool.and_eq_true] at hc
    obtain ⟨⟨h0, h1⟩, h2⟩ := hc
    unfold bz_step at h
    dsimp only at h
    split at h
    · exact bz_i_look hk hr hks (bz_cs_eq hd) h0 h1 h2 h
    · cases h
  · cases hc
end
section
/-! THE MACHINE IS SOUND -/
theorem bz_step_sound {k : Nat} {N : bz_N} {i : Nat} {L : List (Option bz_V)} {st : List bz_V} {μ : bz_M} {res : bz_R} {ins : Instr} {rec : bz_X0} {ks : Nat → bz_K} (hc : bz_ok1 k i ins = true) (hk : k < bz_KM) (hr : bz_Rc N rec) (hks : bz_Ks k N i ks) (h : bz_step bz_ct bz_mls rec k ins ks L st μ = some res) : bz_H k N i L st μ res := by
  cases ins
  case iconst v => exact bz_s_iconst hc hk hr hks h
  case bipush v => exact bz_s_bipush hc hk hr hks h
  case ldc a => exact bz_s_ldc hc hk hr hks h
  case iload j => exact bz_s_iload hc hk hr hks h
  case lload j => exact bz_s_lload hc hk hr hks h
  case aload j => exact bz_s_aload hc hk hr hks h
  case istore j => exact bz_s_istore hc hk hr hks h
  case lstore j => exact bz_s_lstore hc hk hr hks h
  case iinc j c => exact bz_s_iinc hc hk hr hks h
  case iadd => exact bz_s_iadd hc hk hr hks h
  case isub => exact bz_s_isub hc hk hr hks h
  case imul => exact bz_s_imul hc hk hr hks h
  case idiv => exact bz_s_idiv hc hk hr hks h
  case irem => exact bz_s_irem hc hk hr hks h
  case ineg => exact bz_s_ineg hc hk hr hks h
  case iand => exact bz_s_iand hc hk hr hks h
  case ior => exact bz_s_ior hc hk hr hks h
  case ishl => exact bz_s_ishl hc hk hr hks h
  case ishr => exact bz_s_ishr hc hk hr hks h
  case iushr => exact bz_s_iushr hc hk hr hks h
  case ladd => exact bz_s_ladd hc hk hr hks h
  case lsub => exact bz_s_lsub hc hk hr hks h
  case lmul => exact bz_s_lmul hc hk hr hks h
  case ldiv => exact bz_s_ldiv hc hk hr hks h
  case lxor => exact bz_s_lxor hc hk hr hks h
  case lcmp => exact bz_s_lcmp hc hk hr hks h
  case i2l => exact bz_s_i2l hc hk hr hks h
  case l2i => exact bz_s_l2i hc hk hr hks h
  case i2c => exact bz_s_i2c hc hk hr hks h
  case i2b => exact bz_s_i2b hc hk hr hks h
  case dup => exact bz_s_dup hc hk hr hks h
  case pop => exact bz_s_pop hc hk hr hks h
  case dup2 => exact bz_s_dup2 hc hk hr hks h
  case iaload => exact bz_s_iaload hc hk hr hks h
  case baload => exact bz_s_baload hc hk hr hks h
  case laload => exact bz_s_laload hc hk hr hks h
  case aaload => exact bz_s_aaload hc hk hr hks h
  case iastore => exact bz_s_iastore hc hk hr hks h
  case bastore => exact bz_s_bastore hc hk hr hks h
  case lastore => exact bz_s_lastore hc hk hr hks h
  case aastore => exact bz_s_aastore hc hk hr hks h
  case arraylength => exact bz_s_arraylength hc hk hr hks h
  case goto o => exact bz_s_goto hc hk hr hks h
  case ifCond c o => exact bz_s_if hc hk hr hks h
  case if_icmp c o => exact bz_s_icmp hc hk hr hks h
  case getfield p => exact bz_s_getfield hc hk hr hks h
  case fload p => exact bz_s_fload hc hk hr hks h
  case getstatic p => exact bz_s_getref hc hk hr hks h
  case dload j => exact bz_s_dload hc hk hr hks h
  case putfield p => exact bz_s_putfield hc hk hr hks h
  case dstore p => exact bz_s_dstore hc hk hr hks h
  case fstore p => exact bz_s_fstore hc hk hr hks h
  case astore p => exact bz_s_putref hc hk hr hks h
  case putstatic j => exact bz_s_putS hc hk hr hks h
  case new c => exact bz_s_new hc hk hr hks h
  case anewarray t => exact bz_s_mk hc hk hr hks h
  case invokespecial j => exact bz_s_oinit hc hk hr hks h
  case invokevirtual q => exact bz_s_call hc hk hr hks h
  case checkcast q => exact bz_s_callh hc hk hr hks h
  case ldc_w c => exact bz_s_throw hc hk hr hks h
  case ireturn => exact bz_s_ireturn hc hk hr hks h
  case dreturn => exact bz_s_dreturn hc hk hr hks h
  case freturn => exact bz_s_freturn hc hk hr hks h
  case lreturn => exact bz_s_lreturn hc hk hr hks h
  case areturn => exact bz_s_areturn hc hk hr hks h
  case return_ => exact bz_s_vreturn hc hk hr hks h
  case tableswitch d lo hi os => exact bz_s_table hc hk hr hks h
  case lookupswitch d ps => exact bz_s_look hc hk hr hks h
  all_goals (cases h)
def bz_ckl (k : Nat) : Nat → List Instr → Bool
  | _, [] => true
  | i, ins :: cs => bz_ok1 k i ins && bz_ckl k (i + 1) cs
theorem bz_ckl_at {k : Nat} : ∀ {cs : List Instr} {o j : Nat} {ins : Instr}, bz_ckl k o cs = true → cs[j]? = some ins → bz_ok1 k (o + j) ins = true
  | [], _, _, _, _, h => by cases h
  | c :: cs, o, j, ins, hc, h => by
    rw [bz_ckl, Bool.and_eq_true] at hc
    cases j with
    | zero => cases h; exact hc.1
    | succ j =>
      have := bz_ckl_at (o := o + 1) (j := j) hc.2 (by simpa using h)
      rw [show o + (j + 1) = o + 1 + j by omega]
      exact this
theorem bz_go_sound {k : Nat} {N : bz_N} {rec : bz_X0} (hk : k < bz_KM) (hr : bz_Rc N rec) (hok : bz_ckl k 0 (bz_cds.getD k []) = true) : ∀ (m i : Nat), (bz_cds.getD k []).length - i ≤ m → ∀ (L : List (Option bz_V)) (st : List bz_V) (μ : bz_M) (res : bz_R), bz_go bz_ct bz_mls rec k (bz_cds.getD k []) i L st μ = some res → bz_H k N i L st μ res := by
  intro m
  induction m with
  | zero =>
    intro i hm L st μ res h
    rw [bz_go_at, List.getElem?_eq_none (by omega)] at h
    cases h
  | succ m ih =>
    intro i hm L st μ res h
    rw [bz_go_at] at h
    cases hi : (bz_cds.getD k [])[i]? with
    | none => rw [hi] at h; cases h
    | some ins =>
      rw [hi] at h
      have hlt : i < (bz_cds.getD k []).length := (List.getElem?_eq_some_iff.mp hi).1
      have h1 := bz_ckl_at hok hi
      rw [Nat.zero_add] at h1
      exact bz_step_sound h1 hk hr (fun d L st μ res hd => ih (i + 1 + d) (by omega) L st μ res hd) h
theorem bz_sound {N : bz_N} (hall : ∀ k, k < bz_KM → bz_ckl k 0 (bz_cds.getD k []) = true) : ∀ n, bz_Rc N (bz_Z bz_cds bz_ct bz_mls n) := by
  intro n
  induction n with
  | zero => intro k i L st μ res hk h; cases h
  | succ n ih => exact fun k i L st μ res hk h => bz_go_sound hk ih (hall k hk) _ i (Nat.le_refl _) L st μ res h
end
section
/-! A CHECK IN PIECES -/
theorem bz_ckl_of {k : Nat} : ∀ {cs : List Instr} {o : Nat}, (∀ i ins, cs[i]? = some ins → bz_ok1 k (o + i) ins = true) → bz_ckl k o cs = true
  | [], _, _ => rfl
  | c :: cs, o, h => by
    rw [bz_ckl, Bool.and_eq_true]
    refine ⟨h 0 c rfl, bz_ckl_of fun i ins hi => ?_⟩
    have := h (i + 1) ins (by simpa using hi)
    rw [show o + (i + 1) = o + 1 + i by omega] at this
    exact this
theorem bz_ckl_seg {k n m : Nat} {cs : List Instr} (hn : 0 < n) (h : ∀ j, j < m → bz_ckl k (n * j) ((cs.drop (n * j)).take n) = true) (hm : cs.length ≤ n * m) : bz_ckl k 0 cs = true := by
  refine bz_ckl_of fun i ins hi => ?_
  have hlt : i < cs.length := (List.getElem?_eq_some_iff.mp hi).1
  have h1 : i / n < m := Nat.div_lt_of_lt_mul (by omega)
  have h2 : i % n < n := Nat.mod_lt _ hn
  have h3 := Nat.div_add_mod i n
  have h4 := bz_ckl_at (j := i % n) (ins := ins) (h (i / n) h1) (by
    rw [List.getElem?_take, if_pos h2, List.getElem?_drop, h3]
    exact hi)
  rw [h3] at h4
  rw [Nat.zero_add]
  exact h4
end
section
/-! THE TABLE'S WORDS AT THE LAW'S START; Symbology's private methods as its subclasses select them -/
theorem bz_su1 {C : String} {y : MethodName} {n : Nat} {args : Array Value} {s : State} (hins : (Cond.instantiable C n).before args s = true) (hpriv : (Cond.privateMethod y).before args s = true) (hinst : (Cond.instanceMethod y).before args s = true) (hsm : (Cond.sameMethod y.cls y.cls y.name y.desc).before args s = true) : (Cond.selects C y y).before args s = true := by
  obtain ⟨c, k, hc, -, -, -, -, -⟩ := Cond.instantiable_spec hins
  obtain ⟨mk, methM, hnamed, hmethM, -, -⟩ := Cond.instanceMethod_spec hinst
  obtain ⟨c2, ck, r, h1, h2, h3, h4, h5⟩ := Cond.sameMethod_found hsm
  have h5 : s.methodNamed? y = some r := h5
  cases hnamed.symm.trans h5
  have hcls : mk.cls = c2 := Option.some.inj ((findClass_of_methodNamed hnamed).symm.trans h1)
  have hsel : selectMethod {} s.vm c mk = .method mk := selectMethod_private hmethM (Cond.privateMethod_at hpriv mk methM hnamed hmethM)
  simp only [Cond.before, Cond.holds, Cond.value, hc, h4, hnamed, hsel, hcls, h2]
  simp
  exact h3
theorem bz_suC_0 : Cond.instantiable "BarcodeEngine$Codabar" 4 ∈ lw_tbl := List.mem_of_getElem? (i := 180) (by decide +kernel)
theorem bz_suC_1 : Cond.instantiable "BarcodeEngine$Ean8" 4 ∈ lw_tbl := List.mem_of_getElem? (i := 141) (by decide +kernel)
theorem bz_suC_2 : Cond.instantiable "BarcodeEngine$Interleaved" 4 ∈ lw_tbl := List.mem_of_getElem? (i := 169) (by decide +kernel)
theorem bz_suP_0 : Cond.privateMethod ⟨"BarcodeEngine$Symbology", "findWhole", "(LBarcodeEngine$Row;LBarcodeEngine$Reading;)Z"⟩ ∈ lw_tbl := List.mem_of_getElem? (i := 453) (by decide +kernel)
theorem bz_suI_0 : Cond.instanceMethod ⟨"BarcodeEngine$Symbology", "findWhole", "(LBarcodeEngine$Row;LBarcodeEngine$Reading;)Z"⟩ ∈ lw_tbl := List.mem_of_getElem? (i := 454) (by decide +kernel)
theorem bz_suS_0 : Cond.sameMethod "BarcodeEngine$Symbology" "BarcodeEngine$Symbology" "findWhole" "(LBarcodeEngine$Row;LBarcodeEngine$Reading;)Z" ∈ lw_tbl := List.mem_of_getElem? (i := 1799) (by decide +kernel)
theorem bz_suP_1 : Cond.privateMethod ⟨"BarcodeEngine$Symbology", "findParts", "(LBarcodeEngine$Row;LBarcodeEngine$Reading;)Z"⟩ ∈ lw_tbl := List.mem_of_getElem? (i := 563) (by decide +kernel)
theorem bz_suI_1 : Cond.instanceMethod ⟨"BarcodeEngine$Symbology", "findParts", "(LBarcodeEngine$Row;LBarcodeEngine$Reading;)Z"⟩ ∈ lw_tbl := List.mem_of_getElem? (i := 564) (by decide +kernel)
theorem bz_suS_1 : Cond.sameMethod "BarcodeEngine$Symbology" "BarcodeEngine$Symbology" "findParts" "(LBarcodeEngine$Row;LBarcodeEngine$Reading;)Z" ∈ lw_tbl := List.mem_of_getElem? (i := 1800) (by decide +kernel)
theorem bz_suP_2 : Cond.privateMethod ⟨"BarcodeEngine$Symbology", "addHead", "(LBarcodeEngine$Row;ILBarcodeEngine$Sequence;)V"⟩ ∈ lw_tbl := List.mem_of_getElem? (i := 567) (by decide +kernel)
theorem bz_suI_2 : Cond.instanceMethod ⟨"BarcodeEngine$Symbology", "addHead", "(LBarcodeEngine$Row;ILBarcodeEngine$Sequence;)V"⟩ ∈ lw_tbl := List.mem_of_getElem? (i := 568) (by decide +kernel)
theorem bz_suS_2 : Cond.sameMethod "BarcodeEngine$Symbology" "BarcodeEngine$Symbology" "addHead" "(LBarcodeEngine$Row;ILBarcodeEngine$Sequence;)V" ∈ lw_tbl := List.mem_of_getElem? (i := 1801) (by decide +kernel)
theorem bz_suP_3 : Cond.privateMethod ⟨"BarcodeEngine$Symbology", "addTail", "(LBarcodeEngine$Row;ILBarcodeEngine$Sequence;)V"⟩ ∈ lw_tbl := List.mem_of_getElem? (i := 571) (by decide +kernel)
theorem bz_suI_3 : Cond.instanceMethod ⟨"BarcodeEngine$Symbology", "addTail", "(LBarcodeEngine$Row;ILBarcodeEngine$Sequence;)V"⟩ ∈ lw_tbl := List.mem_of_getElem? (i := 572) (by decide +kernel)
theorem bz_suS_3 : Cond.sameMethod "BarcodeEngine$Symbology" "BarcodeEngine$Symbology" "addTail" "(LBarcodeEngine$Row;ILBarcodeEngine$Sequence;)V" ∈ lw_tbl := List.mem_of_getElem? (i := 1802) (by decide +kernel)
theorem bz_T_ok {args : Array Value} {s : State} (h : ∀ w ∈ lw_tbl, w.before args s = true) : ∀ w ∈ bz_T, w.before args s = true := by
  intro w hw
  rcases List.mem_append.mp hw with hw | hw
  · simp only [bz_su, List.mem_cons, List.not_mem_nil, or_false] at hw
    rcases hw with rfl | rfl | rfl | rfl | rfl | rfl | rfl | rfl | rfl | rfl | rfl | rfl
    · exact bz_su1 (h _ bz_suC_0) (h _ bz_suP_0) (h _ bz_suI_0) (h _ bz_suS_0)
    · exact bz_su1 (h _ bz_suC_1) (h _ bz_suP_0) (h _ bz_suI_0) (h _ bz_suS_0)
    · exact bz_su1 (h _ bz_suC_2) (h _ bz_suP_0) (h _ bz_suI_0) (h _ bz_suS_0)
    · exact bz_su1 (h _ bz_suC_0) (h _ bz_suP_1) (h _ bz_suI_1) (h _ bz_suS_1)
    · exact bz_su1 (h _ bz_suC_1) (h _ bz_suP_1) (h _ bz_suI_1) (h _ bz_suS_1)
    · exact bz_su1 (h _ bz_suC_2) (h _ bz_suP_1) (h _ bz_suI_1) (h _ bz_suS_1)
    · exact bz_su1 (h _ bz_suC_0) (h _ bz_suP_2) (h _ bz_suI_2) (h _ bz_suS_2)
    · exact bz_su1 (h _ bz_suC_1) (h _ bz_suP_2) (h _ bz_suI_2) (h _ bz_suS_2)
    · exact bz_su1 (h _ bz_suC_2) (h _ bz_suP_2) (h _ bz_suI_2) (h _ bz_suS_2)
    · exact bz_su1 (h _ bz_suC_0) (h _ bz_suP_3) (h _ bz_suI_3) (h _ bz_suS_3)
    · exact bz_su1 (h _ bz_suC_1) (h _ bz_suP_3) (h _ bz_suI_3) (h _ bz_suS_3)
    · exact bz_su1 (h _ bz_suC_2) (h _ bz_suP_3) (h _ bz_suI_3) (h _ bz_suS_3)
  · exact h w hw
end
section
/-! THE CHECK OF EACH METHOD, by the kernel -/
theorem bz_c_0 : bz_ckl 0 0 ac_0 = true := by decide +kernel
theorem bz_c_1 : bz_ckl 1 0 ac_1 = true := by decide +kernel
theorem bz_c_2 : bz_ckl 2 0 ac_2 = true := by decide +kernel
theorem bz_c_3 : bz_ckl 3 0 ac_3 = true := by decide +kernel
theorem bz_c_4 : bz_ckl 4 0 ac_4 = true := by decide +kernel
theorem bz_c_5 : bz_ckl 5 0 ac_5 = true := by decide +kernel
theorem bz_c_6 : bz_ckl 6 0 ac_6 = true := by decide +kernel
theorem bz_c_7 : bz_ckl 7 0 ac_7 = true := by decide +kernel
theorem bz_c_8 : bz_ckl 8 0 ac_8 = true := by decide +kernel
theorem bz_c_9 : bz_ckl 9 0 ac_9 = true := by decide +kernel
theorem bz_c_10 : bz_ckl 10 0 ac_10 = true := by decide +kernel
theorem bz_c_11 : bz_ckl 11 0 ac_11 = true := by decide +kernel
theorem bz_c_12 : bz_ckl 12 0 ac_12 = true := by decide +kernel
theorem bz_c_13 : bz_ckl 13 0 ac_13 = true := by decide +kernel
theorem bz_c_14 : bz_ckl 14 0 ac_14 = true := by decide +kernel
theorem bz_c_15 : bz_ckl 15 0 ac_15 = true := by decide +kernel
theorem bz_c_16 : bz_ckl 16 0 ac_16 = true := by decide +kernel
theorem bz_c_17 : bz_ckl 17 0 ac_17 = true := by decide +kernel
theorem bz_c_18 : bz_ckl 18 0 ac_18 = true := by decide +kernel
theorem bz_c_19 : bz_ckl 19 0 ac_19 = true := by decide +kernel
theorem bz_c_20 : bz_ckl 20 0 ac_20 = true := by decide +kernel
theorem bz_c_21 : bz_ckl 21 0 ac_21 = true := by decide +kernel
theorem bz_c_22 : bz_ckl 22 0 ac_22 = true := by decide +kernel
theorem bz_c_23 : bz_ckl 23 0 ac_23 = true := by decide +kernel
theorem bz_c_24 : bz_ckl 24 0 ac_24 = true := by decide +kernel
theorem bz_c_25 : bz_ckl 25 0 ac_25 = true := by decide +kernel
theorem bz_c_26 : bz_ckl 26 0 ac_26 = true := by decide +kernel
theorem bz_c_27 : bz_ckl 27 0 ac_27 = true := by decide +kernel
theorem bz_c_28 : bz_ckl 28 0 ac_28 = true := by decide +kernel
theorem bz_c_29 : bz_ckl 29 0 ac_29 = true := by decide +kernel
theorem bz_c_30 : bz_ckl 30 0 ac_30 = true := by decide +kernel
theorem bz_c_31 : bz_ckl 31 0 ac_31 = true := by decide +kernel
theorem bz_c_32 : bz_ckl 32 0 ac_32 = true := by decide +kernel
theorem bz_c_33 : bz_ckl 33 0 ac_33 = true := by decide +kernel
theorem bz_c_34 : bz_ckl 34 0 ac_34 = true := by decide +kernel
theorem bz_c_35 : bz_ckl 35 0 ac_35 = true := by decide +kernel
theorem bz_c_36 : bz_ckl 36 0 ac_36 = true := by decide +kernel
theorem bz_c_37 : bz_ckl 37 0 ac_37 = true := by decide +kernel
theorem bz_c_38 : bz_ckl 38 0 ac_38 = true := by decide +kernel
theorem bz_c_39 : bz_ckl 39 0 ac_39 = true := by decide +kernel
theorem bz_c_40 : bz_ckl 40 0 ac_40 = true := by decide +kernel
theorem bz_c_41 : bz_ckl 41 0 ac_41 = true := by decide +kernel
theorem bz_c_42 : bz_ckl 42 0 ac_42 = true := by decide +kernel
theorem bz_c_43 : bz_ckl 43 0 ac_43 = true := by decide +kernel
theorem bz_c_44 : bz_ckl 44 0 ac_44 = true := by decide +kernel
theorem bz_c_45 : bz_ckl 45 0 ac_45 = true := by decide +kernel
theorem bz_c_46 : bz_ckl 46 0 ac_46 = true := by decide +kernel
theorem bz_c_47 : bz_ckl 47 0 ac_47 = true := by decide +kernel
theorem bz_c_48 : bz_ckl 48 0 ac_48 = true := by decide +kernel
theorem bz_c_49 : bz_ckl 49 0 ac_49 = true := by decide +kernel
theorem bz_c_50 : bz_ckl 50 0 ac_50 = true := by decide +kernel
theorem bz_c_51 : bz_ckl 51 0 ac_51 = true := by decide +kernel
theorem bz_c_52 : bz_ckl 52 0 ac_52 = true := by decide +kernel
theorem bz_c_53 : bz_ckl 53 0 ac_53 = true := by decide +kernel
theorem bz_c_54 : bz_ckl 54 0 ac_54 = true := by decide +kernel
theorem bz_c_55 : bz_ckl 55 0 ac_55 = true := by decide +kernel
theorem bz_c_56 : bz_ckl 56 0 ac_56 = true := by decide +kernel
theorem bz_c_57 : bz_ckl 57 0 ac_57 = true := by decide +kernel
theorem bz_c_58 : bz_ckl 58 0 ac_58 = true := by decide +kernel
theorem bz_c_59 : bz_ckl 59 0 ac_59 = true := by decide +kernel
theorem bz_c_60 : bz_ckl 60 0 ac_60 = true := by decide +kernel
theorem bz_c_61 : bz_ckl 61 0 ac_61 = true := by decide +kernel
theorem bz_c_62 : bz_ckl 62 0 ac_62 = true := by decide +kernel
theorem bz_c_63 : bz_ckl 63 0 ac_63 = true := by decide +kernel
theorem bz_c_64 : bz_ckl 64 0 ac_64 = true := by decide +kernel
theorem bz_c_65 : bz_ckl 65 0 ac_65 = true := by decide +kernel
theorem bz_c_66 : bz_ckl 66 0 ac_66 = true := by decide +kernel
theorem bz_c_67 : bz_ckl 67 0 ac_67 = true := by decide +kernel
theorem bz_c_68 : bz_ckl 68 0 ac_68 = true := by decide +kernel
theorem bz_c_69 : bz_ckl 69 0 ac_69 = true := by decide +kernel
theorem bz_c_70 : bz_ckl 70 0 ac_70 = true := by decide +kernel
theorem bz_c_71 : bz_ckl 71 0 ac_71 = true := by decide +kernel
theorem bz_c_72 : bz_ckl 72 0 ac_72 = true := by decide +kernel
theorem bz_c_73 : bz_ckl 73 0 ac_73 = true := by decide +kernel
theorem bz_c_74 : bz_ckl 74 0 ac_74 = true := by decide +kernel
theorem bz_c_75 : bz_ckl 75 0 ac_75 = true := by decide +kernel
theorem bz_c_76 : bz_ckl 76 0 ac_76 = true := by decide +kernel
theorem bz_c_77 : bz_ckl 77 0 ac_77 = true := by decide +kernel
theorem bz_c_78 : bz_ckl 78 0 ac_78 = true := by decide +kernel
theorem bz_c_79 : bz_ckl 79 0 ac_79 = true := by decide +kernel
theorem bz_c_80 : bz_ckl 80 0 ac_80 = true := by decide +kernel
theorem bz_c_81 : bz_ckl 81 0 ac_81 = true := by decide +kernel
theorem bz_c_82 : bz_ckl 82 0 ac_82 = true := by decide +kernel
theorem bz_c_83 : bz_ckl 83 0 ac_83 = true := by decide +kernel
theorem bz_c_84 : bz_ckl 84 0 ac_84 = true := by decide +kernel
theorem bz_c_85 : bz_ckl 85 0 ac_85 = true := by decide +kernel
theorem bz_c_86 : bz_ckl 86 0 ac_86 = true := by decide +kernel
theorem bz_c_87 : bz_ckl 87 0 ac_87 = true := by decide +kernel
theorem bz_c_88 : bz_ckl 88 0 ac_88 = true := by decide +kernel
theorem bz_c_89 : bz_ckl 89 0 ac_89 = true := by decide +kernel
theorem bz_c_90 : bz_ckl 90 0 ac_90 = true := by decide +kernel
theorem bz_c_91 : bz_ckl 91 0 ac_91 = true := by decide +kernel
theorem bz_c_92 : bz_ckl 92 0 ac_92 = true := by decide +kernel
theorem bz_c_93 : bz_ckl 93 0 ac_93 = true := by decide +kernel
theorem bz_c_94 : bz_ckl 94 0 ac_94 = true := by decide +kernel
theorem bz_c_95 : bz_ckl 95 0 ac_95 = true := by decide +kernel
theorem bz_c_96 : bz_ckl 96 0 ac_96 = true := by decide +kernel
theorem bz_c_97 : bz_ckl 97 0 ac_97 = true := by decide +kernel
theorem bz_c_98 : bz_ckl 98 0 ac_98 = true := by decide +kernel
theorem bz_c_99 : bz_ckl 99 0 ac_99 = true := by decide +kernel
theorem bz_c_100 : bz_ckl 100 0 ac_100 = true := by decide +kernel
theorem bz_c_101 : bz_ckl 101 0 ac_101 = true := by decide +kernel
theorem bz_c_102 : bz_ckl 102 0 ac_102 = true := by decide +kernel
theorem bz_c_103 : bz_ckl 103 0 ac_103 = true := by decide +kernel
theorem bz_c_104 : bz_ckl 104 0 ac_104 = true := by decide +kernel
theorem bz_c_105 : bz_ckl 105 0 ac_105 = true := by decide +kernel
theorem bz_c_106 : bz_ckl 106 0 ac_106 = true := by decide +kernel
theorem bz_c_107 : bz_ckl 107 0 ac_107 = true := by decide +kernel
theorem bz_c_108 : bz_ckl 108 0 ac_108 = true := by decide +kernel
theorem bz_c_109 : bz_ckl 109 0 ac_109 = true := by decide +kernel
theorem bz_c_110 : bz_ckl 110 0 ac_110 = true := by decide +kernel
theorem bz_c_111 : bz_ckl 111 0 ac_111 = true := by decide +kernel
theorem bz_c_112 : bz_ckl 112 0 ac_112 = true := by decide +kernel
theorem bz_c_113 : bz_ckl 113 0 ac_113 = true := by decide +kernel
theorem bz_c_114 : bz_ckl 114 0 ac_114 = true := by decide +kernel
theorem bz_c_115 : bz_ckl 115 0 ac_115 = true := by decide +kernel
theorem bz_c_116 : bz_ckl 116 0 ac_116 = true := by decide +kernel
theorem bz_c_117 : bz_ckl 117 0 ac_117 = true := by decide +kernel
theorem bz_c_118 : bz_ckl 118 0 ac_118 = true := by decide +kernel
theorem bz_c_119 : bz_ckl 119 0 ac_119 = true := by decide +kernel
theorem bz_c_120 : bz_ckl 120 0 ac_120 = true := by decide +kernel
theorem bz_c_121 : bz_ckl 121 0 ac_121 = true := by decide +kernel
theorem bz_c_122 : bz_ckl 122 0 ac_122 = true := by decide +kernel
theorem bz_c_123 : bz_ckl 123 0 ac_123 = true := by decide +kernel
theorem bz_c_124 : bz_ckl 124 0 ac_124 = true := by decide +kernel
theorem bz_c_125 : bz_ckl 125 0 ac_125 = true := by decide +kernel
theorem bz_c_126 : bz_ckl 126 0 ac_126 = true := by decide +kernel
theorem bz_c_127 : bz_ckl 127 0 ac_127 = true := by decide +kernel
theorem bz_c_128 : bz_ckl 128 0 ac_128 = true := by decide +kernel
theorem bz_c_129 : bz_ckl 129 0 ac_129 = true := by decide +kernel
theorem bz_c_130 : bz_ckl 130 0 ac_130 = true := by decide +kernel
theorem bz_c_131 : bz_ckl 131 0 ac_131 = true := by decide +kernel
theorem bz_c_132 : bz_ckl 132 0 ac_132 = true := by decide +kernel
theorem bz_c_133 : bz_ckl 133 0 ac_133 = true := by decide +kernel
theorem bz_c_134 : bz_ckl 134 0 ac_134 = true := by decide +kernel
theorem bz_c_135 : bz_ckl 135 0 ac_135 = true := by decide +kernel
theorem bz_c_136 : bz_ckl 136 0 ac_136 = true := by decide +kernel
theorem bz_c_137 : bz_ckl 137 0 ac_137 = true := by decide +kernel
theorem bz_c_138 : bz_ckl 138 0 ac_138 = true := by decide +kernel
theorem bz_c_139 : bz_ckl 139 0 ac_139 = true := by decide +kernel
theorem bz_c_140 : bz_ckl 140 0 ac_140 = true := by decide +kernel
theorem bz_c_141 : bz_ckl 141 0 ac_141 = true := by decide +kernel
theorem bz_c_142 : bz_ckl 142 0 ac_142 = true := by decide +kernel
theorem bz_c_143 : bz_ckl 143 0 ac_143 = true := by decide +kernel
theorem bz_c_144 : bz_ckl 144 0 ac_144 = true := by decide +kernel
theorem bz_c_145 : bz_ckl 145 0 ac_145 = true := by decide +kernel
theorem bz_c_146 : bz_ckl 146 0 ac_146 = true := by decide +kernel
end
section
/-! THE CHECK OF EACH METHOD, by the kernel -/
theorem bz_c_147 : bz_ckl 147 0 ac_147 = true := by decide +kernel
theorem bz_c_148 : bz_ckl 148 0 ac_148 = true := by decide +kernel
theorem bz_c_149 : bz_ckl 149 0 ac_149 = true := by decide +kernel
theorem bz_c_150 : bz_ckl 150 0 ac_150 = true := by decide +kernel
theorem bz_c_151 : bz_ckl 151 0 ac_151 = true := by decide +kernel
theorem bz_c_152 : bz_ckl 152 0 ac_152 = true := by decide +kernel
theorem bz_c_153 : bz_ckl 153 0 ac_153 = true := by decide +kernel
theorem bz_c_154 : bz_ckl 154 0 ac_154 = true := by decide +kernel
theorem bz_c_155 : bz_ckl 155 0 ac_155 = true := by decide +kernel
theorem bz_c_156 : bz_ckl 156 0 ac_156 = true := by decide +kernel
theorem bz_c_157 : bz_ckl 157 0 ac_157 = true := by decide +kernel
theorem bz_c_158 : bz_ckl 158 0 ac_158 = true := by decide +kernel
theorem bz_c_159 : bz_ckl 159 0 ac_159 = true := by decide +kernel
theorem bz_c_160 : bz_ckl 160 0 ac_160 = true := by decide +kernel
theorem bz_c_161 : bz_ckl 161 0 ac_161 = true := by decide +kernel
theorem bz_c_162 : bz_ckl 162 0 ac_162 = true := by decide +kernel
theorem bz_c_163 : bz_ckl 163 0 ac_163 = true := by decide +kernel
theorem bz_c_164 : bz_ckl 164 0 ac_164 = true := by decide +kernel
theorem bz_c_165 : bz_ckl 165 0 ac_165 = true := by decide +kernel
theorem bz_c_166 : bz_ckl 166 0 ac_166 = true := by decide +kernel
theorem bz_c_167 : bz_ckl 167 0 ac_167 = true := by decide +kernel
theorem bz_c_168 : bz_ckl 168 0 ac_168 = true := by decide +kernel
theorem bz_c_169 : bz_ckl 169 0 ac_169 = true := by decide +kernel
theorem bz_c_170 : bz_ckl 170 0 ac_170 = true := by decide +kernel
theorem bz_c_171 : bz_ckl 171 0 ac_171 = true := by decide +kernel
theorem bz_c_172 : bz_ckl 172 0 ac_172 = true := by decide +kernel
theorem bz_c_173 : bz_ckl 173 0 ac_173 = true := by decide +kernel
theorem bz_c_174 : bz_ckl 174 0 ac_174 = true := by decide +kernel
theorem bz_c_175 : bz_ckl 175 0 ac_175 = true := by decide +kernel
theorem bz_c_176 : bz_ckl 176 0 ac_176 = true := by decide +kernel
theorem bz_c_177 : bz_ckl 177 0 ac_177 = true := by decide +kernel
theorem bz_c_178 : bz_ckl 178 0 ac_178 = true := by decide +kernel
theorem bz_c_179 : bz_ckl 179 0 ac_179 = true := by decide +kernel
theorem bz_c_180 : bz_ckl 180 0 ac_180 = true := by decide +kernel
theorem bz_c_181 : bz_ckl 181 0 ac_181 = true := by decide +kernel
theorem bz_c_182 : bz_ckl 182 0 ac_182 = true := by decide +kernel
theorem bz_c_183 : bz_ckl 183 0 ac_183 = true := by decide +kernel
theorem bz_c_184 : bz_ckl 184 0 ac_184 = true := by decide +kernel
theorem bz_c_185 : bz_ckl 185 0 ac_185 = true := by decide +kernel
theorem bz_c_186 : bz_ckl 186 0 ac_186 = true := by decide +kernel
theorem bz_c_187 : bz_ckl 187 0 ac_187 = true := by decide +kernel
theorem bz_c_188 : bz_ckl 188 0 ac_188 = true := by decide +kernel
theorem bz_c_189 : bz_ckl 189 0 ac_189 = true := by decide +kernel
theorem bz_c_190 : bz_ckl 190 0 ac_190 = true := by decide +kernel
theorem bz_c_191 : bz_ckl 191 0 ac_191 = true := by decide +kernel
theorem bz_c_192 : bz_ckl 192 0 ac_192 = true := by decide +kernel
theorem bz_c_193 : bz_ckl 193 0 ac_193 = true := by decide +kernel
theorem bz_c_194 : bz_ckl 194 0 ac_194 = true := by decide +kernel
theorem bz_c_195 : bz_ckl 195 0 ac_195 = true := by decide +kernel
theorem bz_c_196 : bz_ckl 196 0 ac_196 = true := by decide +kernel
theorem bz_c_197 : bz_ckl 197 0 ac_197 = true := by decide +kernel
theorem bz_c_198 : bz_ckl 198 0 ac_198 = true := by decide +kernel
theorem bz_c_199 : bz_ckl 199 0 ac_199 = true := by decide +kernel
theorem bz_c_200 : bz_ckl 200 0 ac_200 = true := by decide +kernel
theorem bz_c_201 : bz_ckl 201 0 ac_201 = true := by decide +kernel
theorem bz_c_202 : bz_ckl 202 0 ac_202 = true := by decide +kernel
theorem bz_c_203 : bz_ckl 203 0 ac_203 = true := by decide +kernel
theorem bz_c_204 : bz_ckl 204 0 ac_204 = true := by decide +kernel
theorem bz_c_205 : bz_ckl 205 0 ac_205 = true := by decide +kernel
theorem bz_c_206 : bz_ckl 206 0 ac_206 = true := by decide +kernel
theorem bz_c_207 : bz_ckl 207 0 ac_207 = true := by decide +kernel
theorem bz_c_208 : bz_ckl 208 0 ac_208 = true := by decide +kernel
theorem bz_c_209 : bz_ckl 209 0 ac_209 = true := by decide +kernel
theorem bz_c_210 : bz_ckl 210 0 ac_210 = true := by decide +kernel
theorem bz_c_211 : bz_ckl 211 0 ac_211 = true := by decide +kernel
theorem bz_c_212 : bz_ckl 212 0 ac_212 = true := by decide +kernel
theorem bz_c_213 : bz_ckl 213 0 ac_213 = true := by decide +kernel
theorem bz_c_214 : bz_ckl 214 0 ac_214 = true := by decide +kernel
theorem bz_c_215 : bz_ckl 215 0 ac_215 = true := by decide +kernel
theorem bz_c_216 : bz_ckl 216 0 ac_216 = true := by decide +kernel
theorem bz_c_217 : bz_ckl 217 0 ac_217 = true := by decide +kernel
theorem bz_c_218 : bz_ckl 218 0 ac_218 = true := by decide +kernel
theorem bz_c_219 : bz_ckl 219 0 ac_219 = true := by decide +kernel
theorem bz_c_220 : bz_ckl 220 0 ac_220 = true := by decide +kernel
theorem bz_c_221 : bz_ckl 221 0 ac_221 = true := by decide +kernel
theorem bz_c_222 : bz_ckl 222 0 ac_222 = true := by decide +kernel
theorem bz_c_223 : bz_ckl 223 0 ac_223 = true := by decide +kernel
theorem bz_c_224 : bz_ckl 224 0 ac_224 = true := by decide +kernel
theorem bz_c_225 : bz_ckl 225 0 ac_225 = true := by decide +kernel
theorem bz_c_226 : bz_ckl 226 0 ac_226 = true := by decide +kernel
theorem bz_c_227 : bz_ckl 227 0 ac_227 = true := by decide +kernel
theorem bz_c_228 : bz_ckl 228 0 ac_228 = true := by decide +kernel
theorem bz_c_229 : bz_ckl 229 0 ac_229 = true := by decide +kernel
theorem bz_c_230 : bz_ckl 230 0 ac_230 = true := by decide +kernel
theorem bz_c_231 : bz_ckl 231 0 ac_231 = true := by decide +kernel
theorem bz_c_232 : bz_ckl 232 0 ac_232 = true := by decide +kernel
theorem bz_c_233 : bz_ckl 233 0 ac_233 = true := by decide +kernel
theorem bz_c_234 : bz_ckl 234 0 ac_234 = true := by decide +kernel
theorem bz_c_235 : bz_ckl 235 0 ac_235 = true := by decide +kernel
theorem bz_c_236 : bz_ckl 236 0 ac_236 = true := by decide +kernel
theorem bz_c_237 : bz_ckl 237 0 ac_237 = true := by decide +kernel
theorem bz_c_238 : bz_ckl 238 0 ac_238 = true := by decide +kernel
theorem bz_c_239 : bz_ckl 239 0 ac_239 = true := by decide +kernel
theorem bz_c_240 : bz_ckl 240 0 ac_240 = true := by decide +kernel
theorem bz_c_241 : bz_ckl 241 0 ac_241 = true := by decide +kernel
theorem bz_c_242 : bz_ckl 242 0 ac_242 = true := by decide +kernel
theorem bz_c_243 : bz_ckl 243 0 ac_243 = true := by decide +kernel
theorem bz_c_244 : bz_ckl 244 0 ac_244 = true := by decide +kernel
theorem bz_c_245 : bz_ckl 245 0 ac_245 = true := by decide +kernel
theorem bz_c_246 : bz_ckl 246 0 ac_246 = true := by decide +kernel
theorem bz_c_247 : bz_ckl 247 0 ac_247 = true := by decide +kernel
theorem bz_c_248 : bz_ckl 248 0 ac_248 = true := by decide +kernel
theorem bz_c_249 : bz_ckl 249 0 ac_249 = true := by decide +kernel
theorem bz_c_250 : bz_ckl 250 0 ac_250 = true := by decide +kernel
theorem bz_c_251 : bz_ckl 251 0 ac_251 = true := by decide +kernel
theorem bz_c_252 : bz_ckl 252 0 ac_252 = true := by decide +kernel
theorem bz_c_253 : bz_ckl 253 0 ac_253 = true := by decide +kernel
theorem bz_c_254 : bz_ckl 254 0 ac_254 = true := by decide +kernel
theorem bz_c_255 : bz_ckl 255 0 ac_255 = true := by decide +kernel
theorem bz_c_256 : bz_ckl 256 0 ac_256 = true := by decide +kernel
theorem bz_c_257 : bz_ckl 257 0 ac_257 = true := by decide +kernel
theorem bz_c_258 : bz_ckl 258 0 ac_258 = true := by decide +kernel
theorem bz_c_259 : bz_ckl 259 0 ac_259 = true := by decide +kernel
theorem bz_c_260 : bz_ckl 260 0 ac_260 = true := by decide +kernel
theorem bz_c_261 : bz_ckl 261 0 ac_261 = true := by decide +kernel
theorem bz_c_262 : bz_ckl 262 0 ac_262 = true := by decide +kernel
theorem bz_c_263 : bz_ckl 263 0 ac_263 = true := by decide +kernel
theorem bz_c_264 : bz_ckl 264 0 ac_264 = true := by decide +kernel
theorem bz_c_265 : bz_ckl 265 0 ac_265 = true := by decide +kernel
theorem bz_c_266 : bz_ckl 266 0 ac_266 = true := by decide +kernel
theorem bz_c_267 : bz_ckl 267 0 ac_267 = true := by decide +kernel
theorem bz_c_268 : bz_ckl 268 0 ac_268 = true := by decide +kernel
theorem bz_c_269 : bz_ckl 269 0 ac_269 = true := by decide +kernel
theorem bz_c_270 : bz_ckl 270 0 ac_270 = true := by decide +kernel
theorem bz_c_271 : bz_ckl 271 0 ac_271 = true := by decide +kernel
theorem bz_c_272 : bz_ckl 272 0 ac_272 = true := by decide +kernel
theorem bz_c_273 : bz_ckl 273 0 ac_273 = true := by decide +kernel
theorem bz_c_274 : bz_ckl 274 0 ac_274 = true := by decide +kernel
theorem bz_c_275 : bz_ckl 275 0 ac_275 = true := by decide +kernel
theorem bz_c_276 : bz_ckl 276 0 ac_276 = true := by decide +kernel
theorem bz_c_277 : bz_ckl 277 0 ac_277 = true := by decide +kernel
theorem bz_c_278 : bz_ckl 278 0 ac_278 = true := by decide +kernel
theorem bz_c_279 : bz_ckl 279 0 ac_279 = true := by decide +kernel
theorem bz_c_280 : bz_ckl 280 0 ac_280 = true := by decide +kernel
theorem bz_c_281 : bz_ckl 281 0 ac_281 = true := by decide +kernel
theorem bz_c_282 : bz_ckl 282 0 ac_282 = true := by decide +kernel
theorem bz_c_283 : bz_ckl 283 0 ac_283 = true := by decide +kernel
theorem bz_c_284 : bz_ckl 284 0 ac_284 = true := by decide +kernel
theorem bz_c_285 : bz_ckl 285 0 ac_285 = true := by decide +kernel
theorem bz_c_286 : bz_ckl 286 0 ac_286 = true := by decide +kernel
theorem bz_c_287 : bz_ckl 287 0 ac_287 = true := by decide +kernel
theorem bz_c_288 : bz_ckl 288 0 ac_288 = true := by decide +kernel
theorem bz_c_289 : bz_ckl 289 0 ac_289 = true := by decide +kernel
theorem bz_c_290 : bz_ckl 290 0 ac_290 = true := by decide +kernel
theorem bz_c_291 : bz_ckl 291 0 ac_291 = true := by decide +kernel
theorem bz_c_292 : bz_ckl 292 0 ac_292 = true := by decide +kernel
theorem bz_c_293 : bz_ckl 293 0 ac_293 = true := by decide +kernel
theorem bz_c_294 : bz_ckl 294 0 ac_294 = true := by decide +kernel
end
section
/-! ALL CHECKS TOGETHER -/
def bz_hl_0 : List (Nat × List Instr) := [(0, ac_0), (1, ac_1), (2, ac_2), (3, ac_3), (4, ac_4), (5, ac_5), (6, ac_6), (7, ac_7), (8, ac_8), (9, ac_9), (10, ac_10), (11, ac_11), (12, ac_12), (13, ac_13), (14, ac_14), (15, ac_15), (16, ac_16), (17, ac_17), (18, ac_18), (19, ac_19), (20, ac_20), (21, ac_21), (22, ac_22), (23, ac_23), (24, ac_24), (25, ac_25), (26, ac_26), (27, ac_27), (28, ac_28), (29, ac_29)]
theorem bz_h_0 : ∀ q ∈ bz_hl_0, bz_ckl q.1 0 q.2 = true := List.forall_mem_cons.mpr ⟨bz_c_0, List.forall_mem_cons.mpr ⟨bz_c_1, List.forall_mem_cons.mpr ⟨bz_c_2, List.forall_mem_cons.mpr ⟨bz_c_3, List.forall_mem_cons.mpr ⟨bz_c_4, List.forall_mem_cons.mpr ⟨bz_c_5, List.forall_mem_cons.mpr ⟨bz_c_6, List.forall_mem_cons.mpr ⟨bz_c_7, List.forall_mem_cons.mpr ⟨bz_c_8, List.forall_mem_cons.mpr ⟨bz_c_9, List.forall_mem_cons.mpr ⟨bz_c_10, List.forall_mem_cons.mpr ⟨bz_c_11, List.forall_mem_cons.mpr ⟨bz_c_12, List.forall_mem_cons.mpr ⟨bz_c_13, List.forall_mem_cons.mpr ⟨bz_c_14, List.forall_mem_cons.mpr ⟨bz_c_15, List.forall_mem_cons.mpr ⟨bz_c_16, List.forall_mem_cons.mpr ⟨bz_c_17, List.forall_mem_cons.mpr ⟨bz_c_18, List.forall_mem_cons.mpr ⟨bz_c_19, List.forall_mem_cons.mpr ⟨bz_c_20, List.forall_mem_cons.mpr ⟨bz_c_21, List.forall_mem_cons.mpr ⟨bz_c_22, List.forall_mem_cons.mpr ⟨bz_c_23, List.forall_mem_cons.mpr ⟨bz_c_24, List.forall_mem_cons.mpr ⟨bz_c_25, List.forall_mem_cons.mpr ⟨bz_c_26, List.forall_mem_cons.mpr ⟨bz_c_27, List.forall_mem_cons.mpr ⟨bz_c_28, List.forall_mem_cons.mpr ⟨bz_c_29, fun _ h => absurd h List.not_mem_nil⟩⟩⟩⟩⟩⟩⟩⟩⟩⟩⟩⟩⟩⟩⟩⟩⟩⟩⟩⟩⟩⟩⟩⟩⟩⟩⟩⟩⟩⟩
set_option maxRecDepth 20000 in
theorem bz_hm_0 : bz_hl_0 = (List.range 30).map (fun j => (0 + j, bz_cds.getD (0 + j) [])) := rfl
def bz_hl_1 : List (Nat × List Instr) := [(30, ac_30), (31, ac_31), (32, ac_32), (33, ac_33), (34, ac_34), (35, ac_35), (36, ac_36), (37, ac_37), (38, ac_38), (39, ac_39), (40, ac_40), (41, ac_41), (42, ac_42), (43, ac_43), (44, ac_44), (45, ac_45), (46, ac_46), (47, ac_47), (48, ac_48), (49, ac_49), (50, ac_50), (51, ac_51), (52, ac_52), (53, ac_53), (54, ac_54), (55, ac_55), (56, ac_56), (57, ac_57), (58, ac_58), (59, ac_59)]
theorem bz_h_1 : ∀ q ∈ bz_hl_1, bz_ckl q.1 0 q.2 = true := List.forall_mem_cons.mpr ⟨bz_c_30, List.forall_mem_cons.mpr ⟨bz_c_31, List.forall_mem_cons.mpr ⟨bz_c_32, List.forall_mem_cons.mpr ⟨bz_c_33, List.forall_mem_cons.mpr ⟨bz_c_34, List.forall_mem_cons.mpr ⟨bz_c_35, List.forall_mem_cons.mpr ⟨bz_c_36, List.forall_mem_cons.mpr ⟨bz_c_37, List.forall_mem_cons.mpr ⟨bz_c_38, List.forall_mem_cons.mpr ⟨bz_c_39, List.forall_mem_cons.mpr ⟨bz_c_40, List.forall_mem_cons.mpr ⟨bz_c_41, List.forall_mem_cons.mpr ⟨bz_c_42, List.forall_mem_cons.mpr ⟨bz_c_43, List.forall_mem_cons.mpr ⟨bz_c_44, List.forall_mem_cons.mpr ⟨bz_c_45, List.forall_mem_cons.mpr ⟨bz_c_46, List.forall_mem_cons.mpr ⟨bz_c_47, List.forall_mem_cons.mpr ⟨bz_c_48, List.forall_mem_cons.mpr ⟨bz_c_49, List.forall_mem_cons.mpr ⟨bz_c_50, List.forall_mem_cons.mpr ⟨bz_c_51, List.forall_mem_cons.mpr ⟨bz_c_52, List.forall_mem_cons.mpr ⟨bz_c_53, List.forall_mem_cons.mpr ⟨bz_c_54, List.forall_mem_cons.mpr ⟨bz_c_55, List.forall_mem_cons.mpr ⟨bz_c_56, List.forall_mem_cons.mpr ⟨bz_c_57, List.forall_mem_cons.mpr ⟨bz_c_58, List.forall_mem_cons.mpr ⟨bz_c_59, fun _ h => absurd h List.not_mem_nil⟩⟩⟩⟩⟩⟩⟩⟩⟩⟩⟩⟩⟩⟩⟩⟩⟩⟩⟩⟩⟩⟩⟩⟩⟩⟩⟩⟩⟩⟩
set_option maxRecDepth 20000 in
theorem bz_hm_1 : bz_hl_1 = (List.range 30).map (fun j => (30 + j, bz_cds.getD (30 + j) [])) := rfl
def bz_hl_2 : List (Nat × List Instr) := [(60, ac_60), (61, ac_61), (62, ac_62), (63, ac_63), (64, ac_64), (65, ac_65), (66, ac_66), (67, ac_67), (68, ac_68), (69, ac_69), (70, ac_70), (71, ac_71), (72, ac_72), (73, ac_73), (74, ac_74), (75, ac_75), (76, ac_76), (77, ac_77), (78, ac_78), (79, ac_79), (80, ac_80), (81, ac_81), (82, ac_82), (83, ac_83), (84, ac_84), (85, ac_85), (86, ac_86), (87, ac_87), (88, ac_88), (89, ac_89)]
theorem bz_h_2 : ∀ q ∈ bz_hl_2, bz_ckl q.1 0 q.2 = true := List.forall_mem_cons.mpr ⟨bz_c_60, List.forall_mem_cons.mpr ⟨bz_c_61, List.forall_mem_cons.mpr ⟨bz_c_62, List.forall_mem_cons.mpr ⟨bz_c_63, List.forall_mem_cons.mpr ⟨bz_c_64, List.forall_mem_cons.mpr ⟨bz_c_65, List.forall_mem_cons.mpr ⟨bz_c_66, List.forall_mem_cons.mpr ⟨bz_c_67, List.forall_mem_cons.mpr ⟨bz_c_68, List.forall_mem_cons.mpr ⟨bz_c_69, List.forall_mem_cons.mpr ⟨bz_c_70, List.forall_mem_cons.mpr ⟨bz_c_71, List.forall_mem_cons.mpr ⟨bz_c_72, List.forall_mem_cons.mpr ⟨bz_c_73, List.forall_mem_cons.mpr ⟨bz_c_74, List.forall_mem_cons.mpr ⟨bz_c_75, List.forall_mem_cons.mpr ⟨bz_c_76, List.forall_mem_cons.mpr ⟨bz_c_77, List.forall_mem_cons.mpr ⟨bz_c_78, List.forall_mem_cons.mpr ⟨bz_c_79, List.forall_mem_cons.mpr ⟨bz_c_80, List.forall_mem_cons.mpr ⟨bz_c_81, List.forall_mem_cons.mpr ⟨bz_c_82, List.forall_mem_cons.mpr ⟨bz_c_83, List.forall_mem_cons.mpr ⟨bz_c_84, List.forall_mem_cons.mpr ⟨bz_c_85, List.forall_mem_cons.mpr ⟨bz_c_86, List.forall_mem_cons.mpr ⟨bz_c_87, List.forall_mem_cons.mpr ⟨bz_c_88, List.forall_mem_cons.mpr ⟨bz_c_89, fun _ h => absurd h List.not_mem_nil⟩⟩⟩⟩⟩⟩⟩⟩⟩⟩⟩⟩⟩⟩⟩⟩⟩⟩⟩⟩⟩⟩⟩⟩⟩⟩⟩⟩⟩⟩
set_option maxRecDepth 20000 in
theorem bz_hm_2 : bz_hl_2 = (List.range 30).map (fun j => (60 + j, bz_cds.getD (60 + j) [])) := rfl
def bz_hl_3 : List (Nat × List Instr) := [(90, ac_90), (91, ac_91), (92, ac_92), (93, ac_93), (94, ac_94), (95, ac_95), (96, ac_96), (97, ac_97), (98, ac_98), (99, ac_99), (100, ac_100), (101, ac_101), (102, ac_102), (103, ac_103), (104, ac_104), (105, ac_105), (106, ac_106), (107, ac_107), (108, ac_108), (109, ac_109), (110, ac_110), (111, ac_111), (112, ac_112), (113, ac_113), (114, ac_114), (115, ac_115), (116, ac_116), (117, ac_117), (118, ac_118), (119, ac_119)]
theorem bz_h_3 : ∀ q ∈ bz_hl_3, bz_ckl q.1 0 q.2 = true := List.forall_mem_cons.mpr ⟨bz_c_90, List.forall_mem_cons.mpr ⟨bz_c_91, List.forall_mem_cons.mpr ⟨bz_c_92, List.forall_mem_cons.mpr ⟨bz_c_93, List.forall_mem_cons.mpr ⟨bz_c_94, List.forall_mem_cons.mpr ⟨bz_c_95, List.forall_mem_cons.mpr ⟨bz_c_96, List.forall_mem_cons.mpr ⟨bz_c_97, List.forall_mem_cons.mpr ⟨bz_c_98, List.forall_mem_cons.mpr ⟨bz_c_99, List.forall_mem_cons.mpr ⟨bz_c_100, List.forall_mem_cons.mpr ⟨bz_c_101, List.forall_mem_cons.mpr ⟨bz_c_102, List.forall_mem_cons.mpr ⟨bz_c_103, List.forall_mem_cons.mpr ⟨bz_c_104, List.forall_mem_cons.mpr ⟨bz_c_105, List.forall_mem_cons.mpr ⟨bz_c_106, List.forall_mem_cons.mpr ⟨bz_c_107, List.forall_mem_cons.mpr ⟨bz_c_108, List.forall_mem_cons.mpr ⟨bz_c_109, List.forall_mem_cons.mpr ⟨bz_c_110, List.forall_mem_cons.mpr ⟨bz_c_111, List.forall_mem_cons.mpr ⟨bz_c_112, List.forall_mem_cons.mpr ⟨bz_c_113, List.forall_mem_cons.mpr ⟨bz_c_114, List.forall_mem_cons.mpr ⟨bz_c_115, List.forall_mem_cons.mpr ⟨bz_c_116, List.forall_mem_cons.mpr ⟨bz_c_117, List.forall_mem_cons.mpr ⟨bz_c_118, List.forall_mem_cons.mpr ⟨bz_c_119, fun _ h => absurd h List.not_mem_nil⟩⟩⟩⟩⟩⟩⟩⟩⟩⟩⟩⟩⟩⟩⟩⟩⟩⟩⟩⟩⟩⟩⟩⟩⟩⟩⟩⟩⟩⟩
set_option maxRecDepth 20000 in
theorem bz_hm_3 : bz_hl_3 = (List.range 30).map (fun j => (90 + j, bz_cds.getD (90 + j) [])) := rfl
def bz_hl_4 : List (Nat × List Instr) := [(120, ac_120), (121, ac_121), (122, ac_122), (123, ac_123), (124, ac_124), (125, ac_125), (126, ac_126), (127, ac_127), (128, ac_128), (129, ac_129), (130, ac_130), (131, ac_131), (132, ac_132), (133, ac_133), (134, ac_134), (135, ac_135), (136, ac_136), (137, ac_137), (138, ac_138), (139, ac_139), (140, ac_140), (141, ac_141), (142, ac_142), (143, ac_143), (144, ac_144), (145, ac_145), (146, ac_146), (147, ac_147), (148, ac_148), (149, ac_149)]
theorem bz_h_4 : ∀ q ∈ bz_hl_4, bz_ckl q.1 0 q.2 = true := List.forall_mem_cons.mpr ⟨bz_c_120, List.forall_mem_cons.mpr ⟨bz_c_121, List.forall_mem_cons.mpr ⟨bz_c_122, List.forall_mem_cons.mpr ⟨bz_c_123, List.forall_mem_cons.mpr ⟨bz_c_124, List.forall_mem_cons.mpr ⟨bz_c_125, List.forall_mem_cons.mpr ⟨bz_c_126, List.forall_mem_cons.mpr ⟨bz_c_127, List.forall_mem_cons.mpr ⟨bz_c_128, List.forall_mem_cons.mpr ⟨bz_c_129, List.forall_mem_cons.mpr ⟨bz_c_130, List.forall_mem_cons.mpr ⟨bz_c_131, List.forall_mem_cons.mpr ⟨bz_c_132, List.forall_mem_cons.mpr ⟨bz_c_133, List.forall_mem_cons.mpr ⟨bz_c_134, List.forall_mem_cons.mpr ⟨bz_c_135, List.forall_mem_cons.mpr ⟨bz_c_136, List.forall_mem_cons.mpr ⟨bz_c_137, List.forall_mem_cons.mpr ⟨bz_c_138, List.forall_mem_cons.mpr ⟨bz_c_139, List.forall_mem_cons.mpr ⟨bz_c_140, List.forall_mem_cons.mpr ⟨bz_c_141, List.forall_mem_cons.mpr ⟨bz_c_142, List.forall_mem_cons.mpr ⟨bz_c_143, List.forall_mem_cons.mpr ⟨bz_c_144, List.forall_mem_cons.mpr ⟨bz_c_145, List.forall_mem_cons.mpr ⟨bz_c_146, List.forall_mem_cons.mpr ⟨bz_c_147, List.forall_mem_cons.mpr ⟨bz_c_148, List.forall_mem_cons.mpr ⟨bz_c_149, fun _ h => absurd h List.not_mem_nil⟩⟩⟩⟩⟩⟩⟩⟩⟩⟩⟩⟩⟩⟩⟩⟩⟩⟩⟩⟩⟩⟩⟩⟩⟩⟩⟩⟩⟩⟩
set_option maxRecDepth 20000 in
theorem bz_hm_4 : bz_hl_4 = (List.range 30).map (fun j => (120 + j, bz_cds.getD (120 + j) [])) := rfl
def bz_hl_5 : List (Nat × List Instr) := [(150, ac_150), (151, ac_151), (152, ac_152), (153, ac_153), (154, ac_154), (155, ac_155), (156, ac_156), (157, ac_157), (158, ac_158), (159, ac_159), (160, ac_160), (161, ac_161), (162, ac_162), (163, ac_163), (164, ac_164), (165, ac_165), (166, ac_166), (167, ac_167), (168, ac_168), (169, ac_169), (170, ac_170), (171, ac_171), (172, ac_172), (173, ac_173), (174, ac_174), (175, ac_175), (176, ac_176), (177, ac_177), (178, ac_178), (179, ac_179)]
theorem bz_h_5 : ∀ q ∈ bz_hl_5, bz_ckl q.1 0 q.2 = true := List.forall_mem_cons.mpr ⟨bz_c_150, List.forall_mem_cons.mpr ⟨bz_c_151, List.forall_mem_cons.mpr ⟨bz_c_152, List.forall_mem_cons.mpr ⟨bz_c_153, List.forall_mem_cons.mpr ⟨bz_c_154, List.forall_mem_cons.mpr ⟨bz_c_155, List.forall_mem_cons.mpr ⟨bz_c_156, List.forall_mem_cons.mpr ⟨bz_c_157, List.forall_mem_cons.mpr ⟨bz_c_158, List.forall_mem_cons.mpr ⟨bz_c_159, List.forall_mem_cons.mpr ⟨bz_c_160, List.forall_mem_cons.mpr ⟨bz_c_161, List.forall_mem_cons.mpr ⟨bz_c_162, List.forall_mem_cons.mpr ⟨bz_c_163, List.forall_mem_cons.mpr ⟨bz_c_164, List.forall_mem_cons.mpr ⟨bz_c_165, List.forall_mem_cons.mpr ⟨bz_c_166, List.forall_mem_cons.mpr ⟨bz_c_167, List.forall_mem_cons.mpr ⟨bz_c_168, List.forall_mem_cons.mpr ⟨bz_c_169, List.forall_mem_cons.mpr ⟨bz_c_170, List.forall_mem_cons.mpr ⟨bz_c_171, List.forall_mem_cons.mpr ⟨bz_c_172, List.forall_mem_cons.mpr ⟨bz_c_173, List.forall_mem_cons.mpr ⟨bz_c_174, List.forall_mem_cons.mpr ⟨bz_c_175, List.forall_mem_cons.mpr ⟨bz_c_176, List.forall_mem_cons.mpr ⟨bz_c_177, List.forall_mem_cons.mpr ⟨bz_c_178, List.forall_mem_cons.mpr ⟨bz_c_179, fun _ h => absurd h List.not_mem_nil⟩⟩⟩⟩⟩⟩⟩⟩⟩⟩⟩⟩⟩⟩⟩⟩⟩⟩⟩⟩⟩⟩⟩⟩⟩⟩⟩⟩⟩⟩
set_option maxRecDepth 20000 in
theorem bz_hm_5 : bz_hl_5 = (List.range 30).map (fun j => (150 + j, bz_cds.getD (150 + j) [])) := rfl
def bz_hl_6 : List (Nat × List Instr) := [(180, ac_180), (181, ac_181), (182, ac_182), (183, ac_183), (184, ac_184), (185, ac_185), (186, ac_186), (187, ac_187), (188, ac_188), (189, ac_189), (190, ac_190), (191, ac_191), (192, ac_192), (193, ac_193), (194, ac_194), (195, ac_195), (196, ac_196), (197, ac_197), (198, ac_198), (199, ac_199), (200, ac_200), (201, ac_201), (202, ac_202), (203, ac_203), (204, ac_204), (205, ac_205), (206, ac_206), (207, ac_207), (208, ac_208), (209, ac_209)]
theorem bz_h_6 : ∀ q ∈ bz_hl_6, bz_ckl q.1 0 q.2 = true := List.forall_mem_cons.mpr ⟨bz_c_180, List.forall_mem_cons.mpr ⟨bz_c_181, List.forall_mem_cons.mpr ⟨bz_c_182, List.forall_mem_cons.mpr ⟨bz_c_183, List.forall_mem_cons.mpr ⟨bz_c_184, List.forall_mem_cons.mpr ⟨bz_c_185, List.forall_mem_cons.mpr ⟨bz_c_186, List.forall_mem_cons.mpr ⟨bz_c_187, List.forall_mem_cons.mpr ⟨bz_c_188, List.forall_mem_cons.mpr ⟨bz_c_189, List.forall_mem_cons.mpr ⟨bz_c_190, List.forall_mem_cons.mpr ⟨bz_c_191, List.forall_mem_cons.mpr ⟨bz_c_192, List.forall_mem_cons.mpr ⟨bz_c_193, List.forall_mem_cons.mpr ⟨bz_c_194, List.forall_mem_cons.mpr ⟨bz_c_195, List.forall_mem_cons.mpr ⟨bz_c_196, List.forall_mem_cons.mpr ⟨bz_c_197, List.forall_mem_cons.mpr ⟨bz_c_198, List.forall_mem_cons.mpr ⟨bz_c_199, List.forall_mem_cons.mpr ⟨bz_c_200, List.forall_mem_cons.mpr ⟨bz_c_201, List.forall_mem_cons.mpr ⟨bz_c_202, List.forall_mem_cons.mpr ⟨bz_c_203, List.forall_mem_cons.mpr ⟨bz_c_204, List.forall_mem_cons.mpr ⟨bz_c_205, List.forall_mem_cons.mpr ⟨bz_c_206, List.forall_mem_cons.mpr ⟨bz_c_207, List.forall_mem_cons.mpr ⟨bz_c_208, List.forall_mem_cons.mpr ⟨bz_c_209, fun _ h => absurd h List.not_mem_nil⟩⟩⟩⟩⟩⟩⟩⟩⟩⟩⟩⟩⟩⟩⟩⟩⟩⟩⟩⟩⟩⟩⟩⟩⟩⟩⟩⟩⟩⟩
set_option maxRecDepth 20000 in
theorem bz_hm_6 : bz_hl_6 = (List.range 30).map (fun j => (180 + j, bz_cds.getD (180 + j) [])) := rfl
def bz_hl_7 : List (Nat × List Instr) := [(210, ac_210), (211, ac_211), (212, ac_212), (213, ac_213), (214, ac_214), (215, ac_215), (216, ac_216), (217, ac_217), (218, ac_218), (219, ac_219), (220, ac_220), (221, ac_221), (222, ac_222), (223, ac_223), (224, ac_224), (225, ac_225), (226, ac_226), (227, ac_227), (228, ac_228), (229, ac_229), (230, ac_230), (231, ac_231), (232, ac_232), (233, ac_233), (234, ac_234), (235, ac_235), (236, ac_236), (237, ac_237), (238, ac_238), (239, ac_239)]
theorem bz_h_7 : ∀ q ∈ bz_hl_7, bz_ckl q.1 0 q.2 = true := List.forall_mem_cons.mpr ⟨bz_c_210, List.forall_mem_cons.mpr ⟨bz_c_211, List.forall_mem_cons.mpr ⟨bz_c_212, List.forall_mem_cons.mpr ⟨bz_c_213, List.forall_mem_cons.mpr ⟨bz_c_214, List.forall_mem_cons.mpr ⟨bz_c_215, List.forall_mem_cons.mpr ⟨bz_c_216, List.forall_mem_cons.mpr ⟨bz_c_217, List.forall_mem_cons.mpr ⟨bz_c_218, List.forall_mem_cons.mpr ⟨bz_c_219, List.forall_mem_cons.mpr ⟨bz_c_220, List.forall_mem_cons.mpr ⟨bz_c_221, List.forall_mem_cons.mpr ⟨bz_c_222, List.forall_mem_cons.mpr ⟨bz_c_223, List.forall_mem_cons.mpr ⟨bz_c_224, List.forall_mem_cons.mpr ⟨bz_c_225, List.forall_mem_cons.mpr ⟨bz_c_226, List.forall_mem_cons.mpr ⟨bz_c_227, List.forall_mem_cons.mpr ⟨bz_c_228, List.forall_mem_cons.mpr ⟨bz_c_229, List.forall_mem_cons.mpr ⟨bz_c_230, List.forall_mem_cons.mpr ⟨bz_c_231, List.forall_mem_cons.mpr ⟨bz_c_232, List.forall_mem_cons.mpr ⟨bz_c_233, List.forall_mem_cons.mpr ⟨bz_c_234, List.forall_mem_cons.mpr ⟨bz_c_235, List.forall_mem_cons.mpr ⟨bz_c_236, List.forall_mem_cons.mpr ⟨bz_c_237, List.forall_mem_cons.mpr ⟨bz_c_238, List.forall_mem_cons.mpr ⟨bz_c_239, fun _ h => absurd h List.not_mem_nil⟩⟩⟩⟩⟩⟩⟩⟩⟩⟩⟩⟩⟩⟩⟩⟩⟩⟩⟩⟩⟩⟩⟩⟩⟩⟩⟩⟩⟩⟩
set_option maxRecDepth 20000 in
theorem bz_hm_7 : bz_hl_7 = (List.range 30).map (fun j => (210 + j, bz_cds.getD (210 + j) [])) := rfl
def bz_hl_8 : List (Nat × List Instr) := [(240, ac_240), (241, ac_241), (242, ac_242), (243, ac_243), (244, ac_244), (245, ac_245), (246, ac_246), (247, ac_247), (248, ac_248), (249, ac_249), (250, ac_250), (251, ac_251), (252, ac_252), (253, ac_253), (254, ac_254), (255, ac_255), (256, ac_256), (257, ac_257), (258, ac_258), (259, ac_259), (260, ac_260), (261, ac_261), (262, ac_262), (263, ac_263), (264, ac_264), (265, ac_265), (266, ac_266), (267, ac_267), (268, ac_268), (269, ac_269)]
theorem bz_h_8 : ∀ q ∈ bz_hl_8, bz_ckl q.1 0 q.2 = true := List.forall_mem_cons.mpr ⟨bz_c_240, List.forall_mem_cons.mpr ⟨bz_c_241, List.forall_mem_cons.mpr ⟨bz_c_242, List.forall_mem_cons.mpr ⟨bz_c_243, List.forall_mem_cons.mpr ⟨bz_c_244, List.forall_mem_cons.mpr ⟨bz_c_245, List.forall_mem_cons.mpr ⟨bz_c_246, List.forall_mem_cons.mpr ⟨bz_c_247, List.forall_mem_cons.mpr ⟨bz_c_248, List.forall_mem_cons.mpr ⟨bz_c_249, List.forall_mem_cons.mpr ⟨bz_c_250, List.forall_mem_cons.mpr ⟨bz_c_251, List.forall_mem_cons.mpr ⟨bz_c_252, List.forall_mem_cons.mpr ⟨bz_c_253, List.forall_mem_cons.mpr ⟨bz_c_254, List.forall_mem_cons.mpr ⟨bz_c_255, List.forall_mem_cons.mpr ⟨bz_c_256, List.forall_mem_cons.mpr ⟨bz_c_257, List.forall_mem_cons.mpr ⟨bz_c_258, List.forall_mem_cons.mpr ⟨bz_c_259, List.forall_mem_cons.mpr ⟨bz_c_260, List.forall_mem_cons.mpr ⟨bz_c_261, List.forall_mem_cons.mpr ⟨bz_c_262, List.forall_mem_cons.mpr ⟨bz_c_263, List.forall_mem_cons.mpr ⟨bz_c_264, List.forall_mem_cons.mpr ⟨bz_c_265, List.forall_mem_cons.mpr ⟨bz_c_266, List.forall_mem_cons.mpr ⟨bz_c_267, List.forall_mem_cons.mpr ⟨bz_c_268, List.forall_mem_cons.mpr ⟨bz_c_269, fun _ h => absurd h List.not_mem_nil⟩⟩⟩⟩⟩⟩⟩⟩⟩⟩⟩⟩⟩⟩⟩⟩⟩⟩⟩⟩⟩⟩⟩⟩⟩⟩⟩⟩⟩⟩
set_option maxRecDepth 20000 in
theorem bz_hm_8 : bz_hl_8 = (List.range 30).map (fun j => (240 + j, bz_cds.getD (240 + j) [])) := rfl
def bz_hl_9 : List (Nat × List Instr) := [(270, ac_270), (271, ac_271), (272, ac_272), (273, ac_273), (274, ac_274), (275, ac_275), (276, ac_276), (277, ac_277), (278, ac_278), (279, ac_279), (280, ac_280), (281, ac_281), (282, ac_282), (283, ac_283), (284, ac_284), (285, ac_285), (286, ac_286), (287, ac_287), (288, ac_288), (289, ac_289), (290, ac_290), (291, ac_291), (292, ac_292), (293, ac_293), (294, ac_294)]
theorem bz_h_9 : ∀ q ∈ bz_hl_9, bz_ckl q.1 0 q.2 = true := List.forall_mem_cons.mpr ⟨bz_c_270, List.forall_mem_cons.mpr ⟨bz_c_271, List.forall_mem_cons.mpr ⟨bz_c_272, List.forall_mem_cons.mpr ⟨bz_c_273, List.forall_mem_cons.mpr ⟨bz_c_274, List.forall_mem_cons.mpr ⟨bz_c_275, List.forall_mem_cons.mpr ⟨bz_c_276, List.forall_mem_cons.mpr ⟨bz_c_277, List.forall_mem_cons.mpr ⟨bz_c_278, List.forall_mem_cons.mpr ⟨bz_c_279, List.forall_mem_cons.mpr ⟨bz_c_280, List.forall_mem_cons.mpr ⟨bz_c_281, List.forall_mem_cons.mpr ⟨bz_c_282, List.forall_mem_cons.mpr ⟨bz_c_283, List.forall_mem_cons.mpr ⟨bz_c_284, List.forall_mem_cons.mpr ⟨bz_c_285, List.forall_mem_cons.mpr ⟨bz_c_286, List.forall_mem_cons.mpr ⟨bz_c_287, List.forall_mem_cons.mpr ⟨bz_c_288, List.forall_mem_cons.mpr ⟨bz_c_289, List.forall_mem_cons.mpr ⟨bz_c_290, List.forall_mem_cons.mpr ⟨bz_c_291, List.forall_mem_cons.mpr ⟨bz_c_292, List.forall_mem_cons.mpr ⟨bz_c_293, List.forall_mem_cons.mpr ⟨bz_c_294, fun _ h => absurd h List.not_mem_nil⟩⟩⟩⟩⟩⟩⟩⟩⟩⟩⟩⟩⟩⟩⟩⟩⟩⟩⟩⟩⟩⟩⟩⟩⟩
set_option maxRecDepth 20000 in
theorem bz_hm_9 : bz_hl_9 = (List.range 25).map (fun j => (270 + j, bz_cds.getD (270 + j) [])) := rfl
theorem bz_hq {hl : List (Nat × List Instr)} {a n k : Nat} (h : ∀ q ∈ hl, bz_ckl q.1 0 q.2 = true) (hm : hl = (List.range n).map (fun j => (a + j, bz_cds.getD (a + j) []))) (h1 : a ≤ k) (h2 : k < a + n) : bz_ckl k 0 (bz_cds.getD k []) = true := by
  have : (k, bz_cds.getD k []) ∈ hl := by
    rw [hm]
    exact List.mem_map.mpr ⟨k - a, List.mem_range.mpr (by omega), by rw [show a + (k - a) = k by omega]⟩
  exact h _ this
theorem bz_hall (hlaw : bz_ckl 295 0 ac_295 = true) : ∀ k, k < bz_KM → bz_ckl k 0 (bz_cds.getD k []) = true := by
  intro k hk
  have hk : k < 296 := hk
  rcases Nat.lt_or_ge k 30 with q0 | q0
  · exact bz_hq bz_h_0 bz_hm_0 (Nat.zero_le _) q0
  rcases Nat.lt_or_ge k 60 with q1 | q1
  · exact bz_hq bz_h_1 bz_hm_1 q0 q1
  rcases Nat.lt_or_ge k 90 with q2 | q2
  · exact bz_hq bz_h_2 bz_hm_2 q1 q2
  rcases Nat.lt_or_ge k 120 with q3 | q3
  · exact bz_hq bz_h_3 bz_hm_3 q2 q3
  rcases Nat.lt_or_ge k 150 with q4 | q4
  · exact bz_hq bz_h_4 bz_hm_4 q3 q4
  rcases Nat.lt_or_ge k 180 with q5 | q5
  · exact bz_hq bz_h_5 bz_hm_5 q4 q5
  rcases Nat.lt_or_ge k 210 with q6 | q6
  · exact bz_hq bz_h_6 bz_hm_6 q5 q6
  rcases Nat.lt_or_ge k 240 with q7 | q7
  · exact bz_hq bz_h_7 bz_hm_7 q6 q7
  rcases Nat.lt_or_ge k 270 with q8 | q8
  · exact bz_hq bz_h_8 bz_hm_8 q7 q8
  rcases Nat.lt_or_ge k 295 with q9 | q9
  · exact bz_hq bz_h_9 bz_hm_9 q8 q9
  · have e : k = 295 := by omega
    subst e
    exact hlaw
end
section
theorem i_vc : Claimed_1_1 ∧ Claimed_1_2 := sorry
end
