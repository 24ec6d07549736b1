-- ===== PART A: goes FIRST, ahead of the names: the tables' words, and 'selects' of the private methods out of them =====
/-- a private method of a class that the tables say can be made, by its rows of tables_1 -/
def lw_okq (q : MethodName × Nat) : Prop := (q.1.cls ≠ "java/lang/invoke/MethodHandle" ∧ q.1.cls ≠ "java/lang/invoke/VarHandle") ∧ Cond.instantiable q.1.cls q.2 ∈ tables_1 ∧ Cond.privateMethod q.1 ∈ tables_1 ∧ Cond.instanceMethod q.1 ∈ tables_1
theorem lw_p0 : lw_okq (⟨"ConstructionLedger", "project", "()LConstructionLedger$Project;"⟩, 5) := ⟨⟨by decide +kernel, by decide +kernel⟩, List.mem_of_getElem? (i := 24) (by decide +kernel), List.mem_of_getElem? (i := 350) (by decide +kernel), List.mem_of_getElem? (i := 351) (by decide +kernel)⟩
theorem lw_p1 : lw_okq (⟨"java/lang/Throwable", "fillInStackTrace", "(I)Ljava/lang/Throwable;"⟩, 6) := ⟨⟨by decide +kernel, by decide +kernel⟩, List.mem_of_getElem? (i := 492) (by decide +kernel), List.mem_of_getElem? (i := 490) (by decide +kernel), List.mem_of_getElem? (i := 491) (by decide +kernel)⟩
theorem lw_p2 : lw_okq (⟨"ConstructionLedger$SetupReader", "advance", "()V"⟩, 12) := ⟨⟨by decide +kernel, by decide +kernel⟩, List.mem_of_getElem? (i := 32) (by decide +kernel), List.mem_of_getElem? (i := 534) (by decide +kernel), List.mem_of_getElem? (i := 535) (by decide +kernel)⟩
theorem lw_p3 : lw_okq (⟨"ConstructionLedger$SetupReader", "readHead", "()V"⟩, 12) := ⟨⟨by decide +kernel, by decide +kernel⟩, List.mem_of_getElem? (i := 32) (by decide +kernel), List.mem_of_getElem? (i := 539) (by decide +kernel), List.mem_of_getElem? (i := 540) (by decide +kernel)⟩
theorem lw_p4 : lw_okq (⟨"ConstructionLedger$SetupReader", "takeWord", "(Ljava/lang/String;)V"⟩, 12) := ⟨⟨by decide +kernel, by decide +kernel⟩, List.mem_of_getElem? (i := 32) (by decide +kernel), List.mem_of_getElem? (i := 544) (by decide +kernel), List.mem_of_getElem? (i := 545) (by decide +kernel)⟩
theorem lw_p5 : lw_okq (⟨"ConstructionLedger$SetupReader", "isWord", "(Ljava/lang/String;)Z"⟩, 12) := ⟨⟨by decide +kernel, by decide +kernel⟩, List.mem_of_getElem? (i := 32) (by decide +kernel), List.mem_of_getElem? (i := 548) (by decide +kernel), List.mem_of_getElem? (i := 549) (by decide +kernel)⟩
theorem lw_p6 : lw_okq (⟨"ConstructionLedger$SetupReader", "failAt", "(II)V"⟩, 12) := ⟨⟨by decide +kernel, by decide +kernel⟩, List.mem_of_getElem? (i := 32) (by decide +kernel), List.mem_of_getElem? (i := 600) (by decide +kernel), List.mem_of_getElem? (i := 601) (by decide +kernel)⟩
theorem lw_p7 : lw_okq (⟨"ConstructionLedger$SetupReader", "takeNumber", "(II)I"⟩, 12) := ⟨⟨by decide +kernel, by decide +kernel⟩, List.mem_of_getElem? (i := 32) (by decide +kernel), List.mem_of_getElem? (i := 605) (by decide +kernel), List.mem_of_getElem? (i := 606) (by decide +kernel)⟩
theorem lw_p8 : lw_okq (⟨"ConstructionLedger$SetupReader", "take", "(I)V"⟩, 12) := ⟨⟨by decide +kernel, by decide +kernel⟩, List.mem_of_getElem? (i := 32) (by decide +kernel), List.mem_of_getElem? (i := 609) (by decide +kernel), List.mem_of_getElem? (i := 610) (by decide +kernel)⟩
theorem lw_p9 : lw_okq (⟨"ConstructionLedger$SetupReader", "readStatement", "()V"⟩, 12) := ⟨⟨by decide +kernel, by decide +kernel⟩, List.mem_of_getElem? (i := 32) (by decide +kernel), List.mem_of_getElem? (i := 618) (by decide +kernel), List.mem_of_getElem? (i := 619) (by decide +kernel)⟩
theorem lw_p10 : lw_okq (⟨"ConstructionLedger$SetupReader", "readSub", "()V"⟩, 12) := ⟨⟨by decide +kernel, by decide +kernel⟩, List.mem_of_getElem? (i := 32) (by decide +kernel), List.mem_of_getElem? (i := 623) (by decide +kernel), List.mem_of_getElem? (i := 624) (by decide +kernel)⟩
theorem lw_p11 : lw_okq (⟨"ConstructionLedger$SetupReader", "readItem", "()V"⟩, 12) := ⟨⟨by decide +kernel, by decide +kernel⟩, List.mem_of_getElem? (i := 32) (by decide +kernel), List.mem_of_getElem? (i := 629) (by decide +kernel), List.mem_of_getElem? (i := 630) (by decide +kernel)⟩
theorem lw_p12 : lw_okq (⟨"ConstructionLedger$SetupReader", "readSum", "(I)V"⟩, 12) := ⟨⟨by decide +kernel, by decide +kernel⟩, List.mem_of_getElem? (i := 32) (by decide +kernel), List.mem_of_getElem? (i := 640) (by decide +kernel), List.mem_of_getElem? (i := 641) (by decide +kernel)⟩
theorem lw_p13 : lw_okq (⟨"ConstructionLedger$SetupReader", "readTerm", "(I)V"⟩, 12) := ⟨⟨by decide +kernel, by decide +kernel⟩, List.mem_of_getElem? (i := 32) (by decide +kernel), List.mem_of_getElem? (i := 644) (by decide +kernel), List.mem_of_getElem? (i := 645) (by decide +kernel)⟩
theorem lw_p14 : lw_okq (⟨"ConstructionLedger$SetupReader", "readFactor", "(I)V"⟩, 12) := ⟨⟨by decide +kernel, by decide +kernel⟩, List.mem_of_getElem? (i := 32) (by decide +kernel), List.mem_of_getElem? (i := 648) (by decide +kernel), List.mem_of_getElem? (i := 649) (by decide +kernel)⟩
theorem lw_p15 : lw_okq (⟨"ConstructionLedger$SetupReader", "addOperand", "(I)V"⟩, 12) := ⟨⟨by decide +kernel, by decide +kernel⟩, List.mem_of_getElem? (i := 32) (by decide +kernel), List.mem_of_getElem? (i := 653) (by decide +kernel), List.mem_of_getElem? (i := 654) (by decide +kernel)⟩
def lw_privs_1 : List (MethodName × Nat) := [(⟨"ConstructionLedger", "project", "()LConstructionLedger$Project;"⟩, 5), (⟨"java/lang/Throwable", "fillInStackTrace", "(I)Ljava/lang/Throwable;"⟩, 6), (⟨"ConstructionLedger$SetupReader", "advance", "()V"⟩, 12), (⟨"ConstructionLedger$SetupReader", "readHead", "()V"⟩, 12), (⟨"ConstructionLedger$SetupReader", "takeWord", "(Ljava/lang/String;)V"⟩, 12), (⟨"ConstructionLedger$SetupReader", "isWord", "(Ljava/lang/String;)Z"⟩, 12), (⟨"ConstructionLedger$SetupReader", "failAt", "(II)V"⟩, 12), (⟨"ConstructionLedger$SetupReader", "takeNumber", "(II)I"⟩, 12), (⟨"ConstructionLedger$SetupReader", "take", "(I)V"⟩, 12), (⟨"ConstructionLedger$SetupReader", "readStatement", "()V"⟩, 12), (⟨"ConstructionLedger$SetupReader", "readSub", "()V"⟩, 12), (⟨"ConstructionLedger$SetupReader", "readItem", "()V"⟩, 12), (⟨"ConstructionLedger$SetupReader", "readSum", "(I)V"⟩, 12), (⟨"ConstructionLedger$SetupReader", "readTerm", "(I)V"⟩, 12), (⟨"ConstructionLedger$SetupReader", "readFactor", "(I)V"⟩, 12), (⟨"ConstructionLedger$SetupReader", "addOperand", "(I)V"⟩, 12)]
theorem lw_r1 : ∀ q ∈ lw_privs_1, lw_okq q := List.forall_mem_cons.mpr ⟨lw_p0, List.forall_mem_cons.mpr ⟨lw_p1, List.forall_mem_cons.mpr ⟨lw_p2, List.forall_mem_cons.mpr ⟨lw_p3, List.forall_mem_cons.mpr ⟨lw_p4, List.forall_mem_cons.mpr ⟨lw_p5, List.forall_mem_cons.mpr ⟨lw_p6, List.forall_mem_cons.mpr ⟨lw_p7, List.forall_mem_cons.mpr ⟨lw_p8, List.forall_mem_cons.mpr ⟨lw_p9, List.forall_mem_cons.mpr ⟨lw_p10, List.forall_mem_cons.mpr ⟨lw_p11, List.forall_mem_cons.mpr ⟨lw_p12, List.forall_mem_cons.mpr ⟨lw_p13, List.forall_mem_cons.mpr ⟨lw_p14, List.forall_mem_cons.mpr ⟨lw_p15, fun _ h => absurd h List.not_mem_nil⟩⟩⟩⟩⟩⟩⟩⟩⟩⟩⟩⟩⟩⟩⟩⟩
theorem lw_p16 : lw_okq (⟨"ConstructionLedger", "beginChange", "()LConstructionLedger$Project;"⟩, 5) := ⟨⟨by decide +kernel, by decide +kernel⟩, List.mem_of_getElem? (i := 24) (by decide +kernel), List.mem_of_getElem? (i := 663) (by decide +kernel), List.mem_of_getElem? (i := 664) (by decide +kernel)⟩
theorem lw_p17 : lw_okq (⟨"ConstructionLedger", "checkContract", "(I)V"⟩, 5) := ⟨⟨by decide +kernel, by decide +kernel⟩, List.mem_of_getElem? (i := 24) (by decide +kernel), List.mem_of_getElem? (i := 708) (by decide +kernel), List.mem_of_getElem? (i := 709) (by decide +kernel)⟩
theorem lw_p18 : lw_okq (⟨"ConstructionLedger", "checkItem", "(II)V"⟩, 5) := ⟨⟨by decide +kernel, by decide +kernel⟩, List.mem_of_getElem? (i := 24) (by decide +kernel), List.mem_of_getElem? (i := 745) (by decide +kernel), List.mem_of_getElem? (i := 746) (by decide +kernel)⟩
theorem lw_p19 : lw_okq (⟨"ConstructionLedger", "checkCertificate", "(I)V"⟩, 5) := ⟨⟨by decide +kernel, by decide +kernel⟩, List.mem_of_getElem? (i := 24) (by decide +kernel), List.mem_of_getElem? (i := 886) (by decide +kernel), List.mem_of_getElem? (i := 887) (by decide +kernel)⟩
theorem lw_p20 : lw_okq (⟨"ConstructionLedger", "checkVariation", "(I)V"⟩, 5) := ⟨⟨by decide +kernel, by decide +kernel⟩, List.mem_of_getElem? (i := 24) (by decide +kernel), List.mem_of_getElem? (i := 974) (by decide +kernel), List.mem_of_getElem? (i := 975) (by decide +kernel)⟩
theorem lw_p21 : lw_okq (⟨"ConstructionLedger", "checkLien", "(I)V"⟩, 5) := ⟨⟨by decide +kernel, by decide +kernel⟩, List.mem_of_getElem? (i := 24) (by decide +kernel), List.mem_of_getElem? (i := 1000) (by decide +kernel), List.mem_of_getElem? (i := 1001) (by decide +kernel)⟩
theorem lw_p22 : lw_okq (⟨"ConstructionLedger", "checkProject", "()V"⟩, 5) := ⟨⟨by decide +kernel, by decide +kernel⟩, List.mem_of_getElem? (i := 24) (by decide +kernel), List.mem_of_getElem? (i := 1136) (by decide +kernel), List.mem_of_getElem? (i := 1137) (by decide +kernel)⟩
theorem lw_p23 : lw_okq (⟨"ConstructionLedgerModel", "right", "(ZI)Z"⟩, 17) := ⟨⟨by decide +kernel, by decide +kernel⟩, List.mem_of_getElem? (i := 1178) (by decide +kernel), List.mem_of_getElem? (i := 1252) (by decide +kernel), List.mem_of_getElem? (i := 1253) (by decide +kernel)⟩
theorem lw_p24 : lw_okq (⟨"ConstructionLedgerModel", "texts", "()V"⟩, 17) := ⟨⟨by decide +kernel, by decide +kernel⟩, List.mem_of_getElem? (i := 1178) (by decide +kernel), List.mem_of_getElem? (i := 1256) (by decide +kernel), List.mem_of_getElem? (i := 1257) (by decide +kernel)⟩
theorem lw_p25 : lw_okq (⟨"ConstructionLedgerModel", "needs", "(Ljava/lang/String;)V"⟩, 17) := ⟨⟨by decide +kernel, by decide +kernel⟩, List.mem_of_getElem? (i := 1178) (by decide +kernel), List.mem_of_getElem? (i := 1261) (by decide +kernel), List.mem_of_getElem? (i := 1262) (by decide +kernel)⟩
theorem lw_p26 : lw_okq (⟨"ConstructionLedgerModel", "takes", "(Ljava/lang/String;)Z"⟩, 17) := ⟨⟨by decide +kernel, by decide +kernel⟩, List.mem_of_getElem? (i := 1178) (by decide +kernel), List.mem_of_getElem? (i := 1265) (by decide +kernel), List.mem_of_getElem? (i := 1266) (by decide +kernel)⟩
theorem lw_p27 : lw_okq (⟨"ConstructionLedgerModel", "isWord", "(Ljava/lang/String;)Z"⟩, 17) := ⟨⟨by decide +kernel, by decide +kernel⟩, List.mem_of_getElem? (i := 1178) (by decide +kernel), List.mem_of_getElem? (i := 1269) (by decide +kernel), List.mem_of_getElem? (i := 1270) (by decide +kernel)⟩
theorem lw_p28 : lw_okq (⟨"ConstructionLedgerModel", "sees", "()I"⟩, 17) := ⟨⟨by decide +kernel, by decide +kernel⟩, List.mem_of_getElem? (i := 1178) (by decide +kernel), List.mem_of_getElem? (i := 1273) (by decide +kernel), List.mem_of_getElem? (i := 1274) (by decide +kernel)⟩
theorem lw_p29 : lw_okq (⟨"ConstructionLedgerModel", "fails", "(II)V"⟩, 17) := ⟨⟨by decide +kernel, by decide +kernel⟩, List.mem_of_getElem? (i := 1178) (by decide +kernel), List.mem_of_getElem? (i := 1279) (by decide +kernel), List.mem_of_getElem? (i := 1280) (by decide +kernel)⟩
theorem lw_p30 : lw_okq (⟨"ConstructionLedgerModel", "reads", "(II)I"⟩, 17) := ⟨⟨by decide +kernel, by decide +kernel⟩, List.mem_of_getElem? (i := 1178) (by decide +kernel), List.mem_of_getElem? (i := 1284) (by decide +kernel), List.mem_of_getElem? (i := 1285) (by decide +kernel)⟩
theorem lw_p31 : lw_okq (⟨"ConstructionLedgerModel", "isDigit", "()Z"⟩, 17) := ⟨⟨by decide +kernel, by decide +kernel⟩, List.mem_of_getElem? (i := 1178) (by decide +kernel), List.mem_of_getElem? (i := 1288) (by decide +kernel), List.mem_of_getElem? (i := 1289) (by decide +kernel)⟩
def lw_privs_2 : List (MethodName × Nat) := [(⟨"ConstructionLedger", "beginChange", "()LConstructionLedger$Project;"⟩, 5), (⟨"ConstructionLedger", "checkContract", "(I)V"⟩, 5), (⟨"ConstructionLedger", "checkItem", "(II)V"⟩, 5), (⟨"ConstructionLedger", "checkCertificate", "(I)V"⟩, 5), (⟨"ConstructionLedger", "checkVariation", "(I)V"⟩, 5), (⟨"ConstructionLedger", "checkLien", "(I)V"⟩, 5), (⟨"ConstructionLedger", "checkProject", "()V"⟩, 5), (⟨"ConstructionLedgerModel", "right", "(ZI)Z"⟩, 17), (⟨"ConstructionLedgerModel", "texts", "()V"⟩, 17), (⟨"ConstructionLedgerModel", "needs", "(Ljava/lang/String;)V"⟩, 17), (⟨"ConstructionLedgerModel", "takes", "(Ljava/lang/String;)Z"⟩, 17), (⟨"ConstructionLedgerModel", "isWord", "(Ljava/lang/String;)Z"⟩, 17), (⟨"ConstructionLedgerModel", "sees", "()I"⟩, 17), (⟨"ConstructionLedgerModel", "fails", "(II)V"⟩, 17), (⟨"ConstructionLedgerModel", "reads", "(II)I"⟩, 17), (⟨"ConstructionLedgerModel", "isDigit", "()Z"⟩, 17)]
theorem lw_r2 : ∀ q ∈ lw_privs_2, lw_okq q := List.forall_mem_cons.mpr ⟨lw_p16, List.forall_mem_cons.mpr ⟨lw_p17, List.forall_mem_cons.mpr ⟨lw_p18, List.forall_mem_cons.mpr ⟨lw_p19, List.forall_mem_cons.mpr ⟨lw_p20, List.forall_mem_cons.mpr ⟨lw_p21, List.forall_mem_cons.mpr ⟨lw_p22, List.forall_mem_cons.mpr ⟨lw_p23, List.forall_mem_cons.mpr ⟨lw_p24, List.forall_mem_cons.mpr ⟨lw_p25, List.forall_mem_cons.mpr ⟨lw_p26, List.forall_mem_cons.mpr ⟨lw_p27, List.forall_mem_cons.mpr ⟨lw_p28, List.forall_mem_cons.mpr ⟨lw_p29, List.forall_mem_cons.mpr ⟨lw_p30, List.forall_mem_cons.mpr ⟨lw_p31, fun _ h => absurd h List.not_mem_nil⟩⟩⟩⟩⟩⟩⟩⟩⟩⟩⟩⟩⟩⟩⟩⟩
theorem lw_p32 : lw_okq (⟨"ConstructionLedgerModel", "wants", "(I)V"⟩, 17) := ⟨⟨by decide +kernel, by decide +kernel⟩, List.mem_of_getElem? (i := 1178) (by decide +kernel), List.mem_of_getElem? (i := 1294) (by decide +kernel), List.mem_of_getElem? (i := 1295) (by decide +kernel)⟩
theorem lw_p33 : lw_okq (⟨"ConstructionLedgerModel", "terms", "(I)V"⟩, 17) := ⟨⟨by decide +kernel, by decide +kernel⟩, List.mem_of_getElem? (i := 1178) (by decide +kernel), List.mem_of_getElem? (i := 1300) (by decide +kernel), List.mem_of_getElem? (i := 1301) (by decide +kernel)⟩
theorem lw_p34 : lw_okq (⟨"ConstructionLedgerModel", "statement", "()V"⟩, 17) := ⟨⟨by decide +kernel, by decide +kernel⟩, List.mem_of_getElem? (i := 1178) (by decide +kernel), List.mem_of_getElem? (i := 1304) (by decide +kernel), List.mem_of_getElem? (i := 1305) (by decide +kernel)⟩
theorem lw_p35 : lw_okq (⟨"ConstructionLedgerModel", "subLine", "(I)V"⟩, 17) := ⟨⟨by decide +kernel, by decide +kernel⟩, List.mem_of_getElem? (i := 1178) (by decide +kernel), List.mem_of_getElem? (i := 1309) (by decide +kernel), List.mem_of_getElem? (i := 1310) (by decide +kernel)⟩
theorem lw_p36 : lw_okq (⟨"ConstructionLedgerModel", "itemLine", "()V"⟩, 17) := ⟨⟨by decide +kernel, by decide +kernel⟩, List.mem_of_getElem? (i := 1178) (by decide +kernel), List.mem_of_getElem? (i := 1315) (by decide +kernel), List.mem_of_getElem? (i := 1316) (by decide +kernel)⟩
theorem lw_p37 : lw_okq (⟨"ConstructionLedgerModel", "first", "(II)Z"⟩, 17) := ⟨⟨by decide +kernel, by decide +kernel⟩, List.mem_of_getElem? (i := 1178) (by decide +kernel), List.mem_of_getElem? (i := 1321) (by decide +kernel), List.mem_of_getElem? (i := 1322) (by decide +kernel)⟩
theorem lw_p38 : lw_okq (⟨"ConstructionLedgerModel", "sum", "()V"⟩, 17) := ⟨⟨by decide +kernel, by decide +kernel⟩, List.mem_of_getElem? (i := 1178) (by decide +kernel), List.mem_of_getElem? (i := 1326) (by decide +kernel), List.mem_of_getElem? (i := 1327) (by decide +kernel)⟩
theorem lw_p39 : lw_okq (⟨"ConstructionLedgerModel", "term", "()V"⟩, 17) := ⟨⟨by decide +kernel, by decide +kernel⟩, List.mem_of_getElem? (i := 1178) (by decide +kernel), List.mem_of_getElem? (i := 1330) (by decide +kernel), List.mem_of_getElem? (i := 1331) (by decide +kernel)⟩
theorem lw_p40 : lw_okq (⟨"ConstructionLedgerModel", "factor", "()V"⟩, 17) := ⟨⟨by decide +kernel, by decide +kernel⟩, List.mem_of_getElem? (i := 1178) (by decide +kernel), List.mem_of_getElem? (i := 1334) (by decide +kernel), List.mem_of_getElem? (i := 1335) (by decide +kernel)⟩
theorem lw_p41 : lw_okq (⟨"ConstructionLedgerModel", "codes", "(II)V"⟩, 17) := ⟨⟨by decide +kernel, by decide +kernel⟩, List.mem_of_getElem? (i := 1178) (by decide +kernel), List.mem_of_getElem? (i := 1338) (by decide +kernel), List.mem_of_getElem? (i := 1339) (by decide +kernel)⟩
theorem lw_p42 : lw_okq (⟨"ConstructionLedgerModel", "change", "()V"⟩, 17) := ⟨⟨by decide +kernel, by decide +kernel⟩, List.mem_of_getElem? (i := 1178) (by decide +kernel), List.mem_of_getElem? (i := 1346) (by decide +kernel), List.mem_of_getElem? (i := 1347) (by decide +kernel)⟩
theorem lw_p43 : lw_okq (⟨"ConstructionLedgerModel", "get", "(I)J"⟩, 17) := ⟨⟨by decide +kernel, by decide +kernel⟩, List.mem_of_getElem? (i := 1178) (by decide +kernel), List.mem_of_getElem? (i := 1350) (by decide +kernel), List.mem_of_getElem? (i := 1351) (by decide +kernel)⟩
theorem lw_p44 : lw_okq (⟨"ConstructionLedgerModel", "put", "(IJ)V"⟩, 17) := ⟨⟨by decide +kernel, by decide +kernel⟩, List.mem_of_getElem? (i := 1178) (by decide +kernel), List.mem_of_getElem? (i := 1354) (by decide +kernel), List.mem_of_getElem? (i := 1355) (by decide +kernel)⟩
theorem lw_p45 : lw_okq (⟨"ConstructionLedgerModel", "small", "(I)I"⟩, 17) := ⟨⟨by decide +kernel, by decide +kernel⟩, List.mem_of_getElem? (i := 1178) (by decide +kernel), List.mem_of_getElem? (i := 1358) (by decide +kernel), List.mem_of_getElem? (i := 1359) (by decide +kernel)⟩
theorem lw_p46 : lw_okq (⟨"ConstructionLedgerModel", "isContract", "(I)Z"⟩, 17) := ⟨⟨by decide +kernel, by decide +kernel⟩, List.mem_of_getElem? (i := 1178) (by decide +kernel), List.mem_of_getElem? (i := 1378) (by decide +kernel), List.mem_of_getElem? (i := 1379) (by decide +kernel)⟩
theorem lw_p47 : lw_okq (⟨"ConstructionLedgerModel", "at", "(I)I"⟩, 17) := ⟨⟨by decide +kernel, by decide +kernel⟩, List.mem_of_getElem? (i := 1178) (by decide +kernel), List.mem_of_getElem? (i := 1382) (by decide +kernel), List.mem_of_getElem? (i := 1383) (by decide +kernel)⟩
def lw_privs_3 : List (MethodName × Nat) := [(⟨"ConstructionLedgerModel", "wants", "(I)V"⟩, 17), (⟨"ConstructionLedgerModel", "terms", "(I)V"⟩, 17), (⟨"ConstructionLedgerModel", "statement", "()V"⟩, 17), (⟨"ConstructionLedgerModel", "subLine", "(I)V"⟩, 17), (⟨"ConstructionLedgerModel", "itemLine", "()V"⟩, 17), (⟨"ConstructionLedgerModel", "first", "(II)Z"⟩, 17), (⟨"ConstructionLedgerModel", "sum", "()V"⟩, 17), (⟨"ConstructionLedgerModel", "term", "()V"⟩, 17), (⟨"ConstructionLedgerModel", "factor", "()V"⟩, 17), (⟨"ConstructionLedgerModel", "codes", "(II)V"⟩, 17), (⟨"ConstructionLedgerModel", "change", "()V"⟩, 17), (⟨"ConstructionLedgerModel", "get", "(I)J"⟩, 17), (⟨"ConstructionLedgerModel", "put", "(IJ)V"⟩, 17), (⟨"ConstructionLedgerModel", "small", "(I)I"⟩, 17), (⟨"ConstructionLedgerModel", "isContract", "(I)Z"⟩, 17), (⟨"ConstructionLedgerModel", "at", "(I)I"⟩, 17)]
theorem lw_r3 : ∀ q ∈ lw_privs_3, lw_okq q := List.forall_mem_cons.mpr ⟨lw_p32, List.forall_mem_cons.mpr ⟨lw_p33, List.forall_mem_cons.mpr ⟨lw_p34, List.forall_mem_cons.mpr ⟨lw_p35, List.forall_mem_cons.mpr ⟨lw_p36, List.forall_mem_cons.mpr ⟨lw_p37, List.forall_mem_cons.mpr ⟨lw_p38, List.forall_mem_cons.mpr ⟨lw_p39, List.forall_mem_cons.mpr ⟨lw_p40, List.forall_mem_cons.mpr ⟨lw_p41, List.forall_mem_cons.mpr ⟨lw_p42, List.forall_mem_cons.mpr ⟨lw_p43, List.forall_mem_cons.mpr ⟨lw_p44, List.forall_mem_cons.mpr ⟨lw_p45, List.forall_mem_cons.mpr ⟨lw_p46, List.forall_mem_cons.mpr ⟨lw_p47, fun _ h => absurd h List.not_mem_nil⟩⟩⟩⟩⟩⟩⟩⟩⟩⟩⟩⟩⟩⟩⟩⟩
theorem lw_p48 : lw_okq (⟨"ConstructionLedgerModel", "isItem", "(II)Z"⟩, 17) := ⟨⟨by decide +kernel, by decide +kernel⟩, List.mem_of_getElem? (i := 1178) (by decide +kernel), List.mem_of_getElem? (i := 1394) (by decide +kernel), List.mem_of_getElem? (i := 1395) (by decide +kernel)⟩
theorem lw_p49 : lw_okq (⟨"ConstructionLedgerModel", "quantityOf", "(II)J"⟩, 17) := ⟨⟨by decide +kernel, by decide +kernel⟩, List.mem_of_getElem? (i := 1178) (by decide +kernel), List.mem_of_getElem? (i := 1398) (by decide +kernel), List.mem_of_getElem? (i := 1399) (by decide +kernel)⟩
theorem lw_p50 : lw_okq (⟨"ConstructionLedgerModel", "itemAt", "(II)I"⟩, 17) := ⟨⟨by decide +kernel, by decide +kernel⟩, List.mem_of_getElem? (i := 1178) (by decide +kernel), List.mem_of_getElem? (i := 1402) (by decide +kernel), List.mem_of_getElem? (i := 1403) (by decide +kernel)⟩
theorem lw_p51 : lw_okq (⟨"ConstructionLedgerModel", "rateBy", "(IIJ)J"⟩, 17) := ⟨⟨by decide +kernel, by decide +kernel⟩, List.mem_of_getElem? (i := 1178) (by decide +kernel), List.mem_of_getElem? (i := 1410) (by decide +kernel), List.mem_of_getElem? (i := 1411) (by decide +kernel)⟩
theorem lw_p52 : lw_okq (⟨"ConstructionLedgerModel", "boundOf", "(II)J"⟩, 17) := ⟨⟨by decide +kernel, by decide +kernel⟩, List.mem_of_getElem? (i := 1178) (by decide +kernel), List.mem_of_getElem? (i := 1414) (by decide +kernel), List.mem_of_getElem? (i := 1415) (by decide +kernel)⟩
theorem lw_p53 : lw_okq (⟨"ConstructionLedgerModel", "rateOf", "(JJJ)J"⟩, 17) := ⟨⟨by decide +kernel, by decide +kernel⟩, List.mem_of_getElem? (i := 1178) (by decide +kernel), List.mem_of_getElem? (i := 1420) (by decide +kernel), List.mem_of_getElem? (i := 1421) (by decide +kernel)⟩
theorem lw_p54 : lw_okq (⟨"ConstructionLedgerModel", "valueOf", "(II)J"⟩, 17) := ⟨⟨by decide +kernel, by decide +kernel⟩, List.mem_of_getElem? (i := 1178) (by decide +kernel), List.mem_of_getElem? (i := 1434) (by decide +kernel), List.mem_of_getElem? (i := 1435) (by decide +kernel)⟩
theorem lw_p55 : lw_okq (⟨"ConstructionLedgerModel", "fullBy", "(IIJ)J"⟩, 17) := ⟨⟨by decide +kernel, by decide +kernel⟩, List.mem_of_getElem? (i := 1178) (by decide +kernel), List.mem_of_getElem? (i := 1438) (by decide +kernel), List.mem_of_getElem? (i := 1439) (by decide +kernel)⟩
theorem lw_p56 : lw_okq (⟨"ConstructionLedgerModel", "firstOf", "(I)J"⟩, 17) := ⟨⟨by decide +kernel, by decide +kernel⟩, List.mem_of_getElem? (i := 1178) (by decide +kernel), List.mem_of_getElem? (i := 1446) (by decide +kernel), List.mem_of_getElem? (i := 1447) (by decide +kernel)⟩
theorem lw_p57 : lw_okq (⟨"ConstructionLedgerModel", "presentOf", "(I)J"⟩, 17) := ⟨⟨by decide +kernel, by decide +kernel⟩, List.mem_of_getElem? (i := 1178) (by decide +kernel), List.mem_of_getElem? (i := 1454) (by decide +kernel), List.mem_of_getElem? (i := 1455) (by decide +kernel)⟩
theorem lw_p58 : lw_okq (⟨"ConstructionLedgerModel", "grossOf", "(I)J"⟩, 17) := ⟨⟨by decide +kernel, by decide +kernel⟩, List.mem_of_getElem? (i := 1178) (by decide +kernel), List.mem_of_getElem? (i := 1462) (by decide +kernel), List.mem_of_getElem? (i := 1463) (by decide +kernel)⟩
theorem lw_p59 : lw_okq (⟨"ConstructionLedgerModel", "heldOf", "(I)J"⟩, 17) := ⟨⟨by decide +kernel, by decide +kernel⟩, List.mem_of_getElem? (i := 1178) (by decide +kernel), List.mem_of_getElem? (i := 1470) (by decide +kernel), List.mem_of_getElem? (i := 1471) (by decide +kernel)⟩
theorem lw_p60 : lw_okq (⟨"ConstructionLedgerModel", "certifiedOf", "(I)J"⟩, 17) := ⟨⟨by decide +kernel, by decide +kernel⟩, List.mem_of_getElem? (i := 1178) (by decide +kernel), List.mem_of_getElem? (i := 1491) (by decide +kernel), List.mem_of_getElem? (i := 1492) (by decide +kernel)⟩
theorem lw_p61 : lw_okq (⟨"ConstructionLedgerModel", "unpaidOf", "(I)J"⟩, 17) := ⟨⟨by decide +kernel, by decide +kernel⟩, List.mem_of_getElem? (i := 1178) (by decide +kernel), List.mem_of_getElem? (i := 1502) (by decide +kernel), List.mem_of_getElem? (i := 1503) (by decide +kernel)⟩
theorem lw_p62 : lw_okq (⟨"ConstructionLedgerModel", "openBefore", "(IJ)J"⟩, 17) := ⟨⟨by decide +kernel, by decide +kernel⟩, List.mem_of_getElem? (i := 1178) (by decide +kernel), List.mem_of_getElem? (i := 1506) (by decide +kernel), List.mem_of_getElem? (i := 1507) (by decide +kernel)⟩
theorem lw_p63 : lw_okq (⟨"ConstructionLedgerModel", "openOf", "(I)J"⟩, 17) := ⟨⟨by decide +kernel, by decide +kernel⟩, List.mem_of_getElem? (i := 1178) (by decide +kernel), List.mem_of_getElem? (i := 1510) (by decide +kernel), List.mem_of_getElem? (i := 1511) (by decide +kernel)⟩
def lw_privs_4 : List (MethodName × Nat) := [(⟨"ConstructionLedgerModel", "isItem", "(II)Z"⟩, 17), (⟨"ConstructionLedgerModel", "quantityOf", "(II)J"⟩, 17), (⟨"ConstructionLedgerModel", "itemAt", "(II)I"⟩, 17), (⟨"ConstructionLedgerModel", "rateBy", "(IIJ)J"⟩, 17), (⟨"ConstructionLedgerModel", "boundOf", "(II)J"⟩, 17), (⟨"ConstructionLedgerModel", "rateOf", "(JJJ)J"⟩, 17), (⟨"ConstructionLedgerModel", "valueOf", "(II)J"⟩, 17), (⟨"ConstructionLedgerModel", "fullBy", "(IIJ)J"⟩, 17), (⟨"ConstructionLedgerModel", "firstOf", "(I)J"⟩, 17), (⟨"ConstructionLedgerModel", "presentOf", "(I)J"⟩, 17), (⟨"ConstructionLedgerModel", "grossOf", "(I)J"⟩, 17), (⟨"ConstructionLedgerModel", "heldOf", "(I)J"⟩, 17), (⟨"ConstructionLedgerModel", "certifiedOf", "(I)J"⟩, 17), (⟨"ConstructionLedgerModel", "unpaidOf", "(I)J"⟩, 17), (⟨"ConstructionLedgerModel", "openBefore", "(IJ)J"⟩, 17), (⟨"ConstructionLedgerModel", "openOf", "(I)J"⟩, 17)]
theorem lw_r4 : ∀ q ∈ lw_privs_4, lw_okq q := List.forall_mem_cons.mpr ⟨lw_p48, List.forall_mem_cons.mpr ⟨lw_p49, List.forall_mem_cons.mpr ⟨lw_p50, List.forall_mem_cons.mpr ⟨lw_p51, List.forall_mem_cons.mpr ⟨lw_p52, List.forall_mem_cons.mpr ⟨lw_p53, List.forall_mem_cons.mpr ⟨lw_p54, List.forall_mem_cons.mpr ⟨lw_p55, List.forall_mem_cons.mpr ⟨lw_p56, List.forall_mem_cons.mpr ⟨lw_p57, List.forall_mem_cons.mpr ⟨lw_p58, List.forall_mem_cons.mpr ⟨lw_p59, List.forall_mem_cons.mpr ⟨lw_p60, List.forall_mem_cons.mpr ⟨lw_p61, List.forall_mem_cons.mpr ⟨lw_p62, List.forall_mem_cons.mpr ⟨lw_p63, fun _ h => absurd h List.not_mem_nil⟩⟩⟩⟩⟩⟩⟩⟩⟩⟩⟩⟩⟩⟩⟩⟩
theorem lw_p64 : lw_okq (⟨"ConstructionLedgerModel", "isBill", "(I)Z"⟩, 17) := ⟨⟨by decide +kernel, by decide +kernel⟩, List.mem_of_getElem? (i := 1178) (by decide +kernel), List.mem_of_getElem? (i := 1526) (by decide +kernel), List.mem_of_getElem? (i := 1527) (by decide +kernel)⟩
theorem lw_p65 : lw_okq (⟨"ConstructionLedgerModel", "isHeld", "(I)Z"⟩, 17) := ⟨⟨by decide +kernel, by decide +kernel⟩, List.mem_of_getElem? (i := 1178) (by decide +kernel), List.mem_of_getElem? (i := 1546) (by decide +kernel), List.mem_of_getElem? (i := 1547) (by decide +kernel)⟩
theorem lw_p66 : lw_okq (⟨"ConstructionLedgerModel", "settles", "()J"⟩, 17) := ⟨⟨by decide +kernel, by decide +kernel⟩, List.mem_of_getElem? (i := 1178) (by decide +kernel), List.mem_of_getElem? (i := 1559) (by decide +kernel), List.mem_of_getElem? (i := 1560) (by decide +kernel)⟩
theorem lw_p67 : lw_okq (⟨"ConstructionLedgerModel", "dueNext", "(JIJ)I"⟩, 17) := ⟨⟨by decide +kernel, by decide +kernel⟩, List.mem_of_getElem? (i := 1178) (by decide +kernel), List.mem_of_getElem? (i := 1563) (by decide +kernel), List.mem_of_getElem? (i := 1564) (by decide +kernel)⟩
theorem lw_p68 : lw_okq (⟨"ConstructionLedgerModel", "payerOf", "(I)I"⟩, 17) := ⟨⟨by decide +kernel, by decide +kernel⟩, List.mem_of_getElem? (i := 1178) (by decide +kernel), List.mem_of_getElem? (i := 1567) (by decide +kernel), List.mem_of_getElem? (i := 1568) (by decide +kernel)⟩
theorem lw_p69 : lw_okq (⟨"ConstructionLedgerModel", "pays", "(IJ)V"⟩, 17) := ⟨⟨by decide +kernel, by decide +kernel⟩, List.mem_of_getElem? (i := 1178) (by decide +kernel), List.mem_of_getElem? (i := 1571) (by decide +kernel), List.mem_of_getElem? (i := 1572) (by decide +kernel)⟩
theorem lw_p70 : lw_okq (⟨"ConstructionLedgerModel", "isVariation", "(I)Z"⟩, 17) := ⟨⟨by decide +kernel, by decide +kernel⟩, List.mem_of_getElem? (i := 1178) (by decide +kernel), List.mem_of_getElem? (i := 1583) (by decide +kernel), List.mem_of_getElem? (i := 1584) (by decide +kernel)⟩
theorem lw_p71 : lw_okq (⟨"ConstructionLedgerModel", "quantityBy", "(I)J"⟩, 17) := ⟨⟨by decide +kernel, by decide +kernel⟩, List.mem_of_getElem? (i := 1178) (by decide +kernel), List.mem_of_getElem? (i := 1591) (by decide +kernel), List.mem_of_getElem? (i := 1592) (by decide +kernel)⟩
theorem lw_p72 : lw_okq (⟨"ConstructionLedgerModel", "isLien", "(I)Z"⟩, 17) := ⟨⟨by decide +kernel, by decide +kernel⟩, List.mem_of_getElem? (i := 1178) (by decide +kernel), List.mem_of_getElem? (i := 1603) (by decide +kernel), List.mem_of_getElem? (i := 1604) (by decide +kernel)⟩
theorem lw_p73 : lw_okq (⟨"ConstructionLedgerModel", "claimOf", "(I)J"⟩, 17) := ⟨⟨by decide +kernel, by decide +kernel⟩, List.mem_of_getElem? (i := 1178) (by decide +kernel), List.mem_of_getElem? (i := 1607) (by decide +kernel), List.mem_of_getElem? (i := 1608) (by decide +kernel)⟩
theorem lw_p74 : lw_okq (⟨"ConstructionLedgerModel", "placeOf", "(I)I"⟩, 17) := ⟨⟨by decide +kernel, by decide +kernel⟩, List.mem_of_getElem? (i := 1178) (by decide +kernel), List.mem_of_getElem? (i := 1618) (by decide +kernel), List.mem_of_getElem? (i := 1619) (by decide +kernel)⟩
theorem lw_p75 : lw_okq (⟨"ConstructionLedgerModel", "isAhead", "(II)Z"⟩, 17) := ⟨⟨by decide +kernel, by decide +kernel⟩, List.mem_of_getElem? (i := 1178) (by decide +kernel), List.mem_of_getElem? (i := 1622) (by decide +kernel), List.mem_of_getElem? (i := 1623) (by decide +kernel)⟩
theorem lw_p76 : lw_okq (⟨"ConstructionLedgerModel", "rankOf", "(I)J"⟩, 17) := ⟨⟨by decide +kernel, by decide +kernel⟩, List.mem_of_getElem? (i := 1178) (by decide +kernel), List.mem_of_getElem? (i := 1626) (by decide +kernel), List.mem_of_getElem? (i := 1627) (by decide +kernel)⟩
theorem lw_p77 : lw_okq (⟨"ConstructionLedgerModel", "claimsOf", "(J)J"⟩, 17) := ⟨⟨by decide +kernel, by decide +kernel⟩, List.mem_of_getElem? (i := 1178) (by decide +kernel), List.mem_of_getElem? (i := 1635) (by decide +kernel), List.mem_of_getElem? (i := 1636) (by decide +kernel)⟩
theorem lw_p78 : lw_okq (⟨"ConstructionLedgerModel", "partsOf", "(JJJ)J"⟩, 17) := ⟨⟨by decide +kernel, by decide +kernel⟩, List.mem_of_getElem? (i := 1178) (by decide +kernel), List.mem_of_getElem? (i := 1639) (by decide +kernel), List.mem_of_getElem? (i := 1640) (by decide +kernel)⟩
theorem lw_p79 : lw_okq (⟨"ConstructionLedgerModel", "aheadWith", "(IJJ)J"⟩, 17) := ⟨⟨by decide +kernel, by decide +kernel⟩, List.mem_of_getElem? (i := 1178) (by decide +kernel), List.mem_of_getElem? (i := 1643) (by decide +kernel), List.mem_of_getElem? (i := 1644) (by decide +kernel)⟩
def lw_privs_5 : List (MethodName × Nat) := [(⟨"ConstructionLedgerModel", "isBill", "(I)Z"⟩, 17), (⟨"ConstructionLedgerModel", "isHeld", "(I)Z"⟩, 17), (⟨"ConstructionLedgerModel", "settles", "()J"⟩, 17), (⟨"ConstructionLedgerModel", "dueNext", "(JIJ)I"⟩, 17), (⟨"ConstructionLedgerModel", "payerOf", "(I)I"⟩, 17), (⟨"ConstructionLedgerModel", "pays", "(IJ)V"⟩, 17), (⟨"ConstructionLedgerModel", "isVariation", "(I)Z"⟩, 17), (⟨"ConstructionLedgerModel", "quantityBy", "(I)J"⟩, 17), (⟨"ConstructionLedgerModel", "isLien", "(I)Z"⟩, 17), (⟨"ConstructionLedgerModel", "claimOf", "(I)J"⟩, 17), (⟨"ConstructionLedgerModel", "placeOf", "(I)I"⟩, 17), (⟨"ConstructionLedgerModel", "isAhead", "(II)Z"⟩, 17), (⟨"ConstructionLedgerModel", "rankOf", "(I)J"⟩, 17), (⟨"ConstructionLedgerModel", "claimsOf", "(J)J"⟩, 17), (⟨"ConstructionLedgerModel", "partsOf", "(JJJ)J"⟩, 17), (⟨"ConstructionLedgerModel", "aheadWith", "(IJJ)J"⟩, 17)]
theorem lw_r5 : ∀ q ∈ lw_privs_5, lw_okq q := List.forall_mem_cons.mpr ⟨lw_p64, List.forall_mem_cons.mpr ⟨lw_p65, List.forall_mem_cons.mpr ⟨lw_p66, List.forall_mem_cons.mpr ⟨lw_p67, List.forall_mem_cons.mpr ⟨lw_p68, List.forall_mem_cons.mpr ⟨lw_p69, List.forall_mem_cons.mpr ⟨lw_p70, List.forall_mem_cons.mpr ⟨lw_p71, List.forall_mem_cons.mpr ⟨lw_p72, List.forall_mem_cons.mpr ⟨lw_p73, List.forall_mem_cons.mpr ⟨lw_p74, List.forall_mem_cons.mpr ⟨lw_p75, List.forall_mem_cons.mpr ⟨lw_p76, List.forall_mem_cons.mpr ⟨lw_p77, List.forall_mem_cons.mpr ⟨lw_p78, List.forall_mem_cons.mpr ⟨lw_p79, fun _ h => absurd h List.not_mem_nil⟩⟩⟩⟩⟩⟩⟩⟩⟩⟩⟩⟩⟩⟩⟩⟩
theorem lw_p80 : lw_okq (⟨"ConstructionLedgerModel", "isDone", "(I)Z"⟩, 17) := ⟨⟨by decide +kernel, by decide +kernel⟩, List.mem_of_getElem? (i := 1178) (by decide +kernel), List.mem_of_getElem? (i := 1671) (by decide +kernel), List.mem_of_getElem? (i := 1672) (by decide +kernel)⟩
theorem lw_p81 : lw_okq (⟨"ConstructionLedgerModel", "hasClaim", "(I)Z"⟩, 17) := ⟨⟨by decide +kernel, by decide +kernel⟩, List.mem_of_getElem? (i := 1178) (by decide +kernel), List.mem_of_getElem? (i := 1699) (by decide +kernel), List.mem_of_getElem? (i := 1700) (by decide +kernel)⟩
def lw_privs_6 : List (MethodName × Nat) := [(⟨"ConstructionLedgerModel", "isDone", "(I)Z"⟩, 17), (⟨"ConstructionLedgerModel", "hasClaim", "(I)Z"⟩, 17)]
theorem lw_r6 : ∀ q ∈ lw_privs_6, lw_okq q := List.forall_mem_cons.mpr ⟨lw_p80, List.forall_mem_cons.mpr ⟨lw_p81, fun _ h => absurd h List.not_mem_nil⟩⟩
def lw_privs : List (MethodName × Nat) := lw_privs_1 ++ (lw_privs_2 ++ (lw_privs_3 ++ (lw_privs_4 ++ (lw_privs_5 ++ (lw_privs_6)))))
def lw_tbl : List Cond := k2_sels lw_privs ++ tables_1
theorem lw_privs_ok : ∀ q ∈ lw_privs, lw_okq q := by
  show ∀ q ∈ lw_privs_1 ++ (lw_privs_2 ++ (lw_privs_3 ++ (lw_privs_4 ++ (lw_privs_5 ++ (lw_privs_6))))), lw_okq q
  exact List.forall_mem_append.mpr ⟨lw_r1, List.forall_mem_append.mpr ⟨lw_r2, List.forall_mem_append.mpr ⟨lw_r3, List.forall_mem_append.mpr ⟨lw_r4, List.forall_mem_append.mpr ⟨lw_r5, lw_r6⟩⟩⟩⟩⟩

def RX0 : String := "ConstructionLedger$Certificates"
def TX0 : u_T := fun k => match k with
  | 0 => ("ConstructionLedger$Certificates", "count", "I", false)
  | 1 => ("ConstructionLedger$Certificates", "contract", "[I", true)
  | 2 => ("ConstructionLedger$Certificates", "amount", "[J", true)
  | 3 => ("ConstructionLedger$Certificates", "open", "[J", true)
  | 4 => ("ConstructionLedger$Certificates", "issued", "[I", true)
  | _ => ("ConstructionLedger$Certificates", "due", "[I", true)
def tyX0 : Nat → FieldType := fun k => match k with
  | 0 => .int
  | 1 => .array .int
  | 2 => .array .long
  | 3 => .array .long
  | 4 => .array .int
  | _ => .array .int
abbrev wsX00 : List Cond := u_ws RX0 TX0 6
theorem nmX0 : ∀ a, a < 6 → ∀ b, b < 6 → a ≠ b → (TX0 a).2.1 ≠ (TX0 b).2.1 := by decide +kernel
theorem tyX0_ok : ∀ k, k < 6 → parseFieldDescriptor (TX0 k).2.2.1 = some (tyX0 k) := by decide +kernel
abbrev cX0_init : ByteArray := prog_2_method_1_code
def yX0_init : MethodName := ⟨RX0, "<init>", "()V"⟩
abbrev cX0_add : ByteArray := prog_2_method_2_code
def yX0_add : MethodName := ⟨RX0, "add", "(IJII)I"⟩
abbrev cX0_copyFrom : ByteArray := prog_2_method_3_code
def yX0_copyFrom : MethodName := ⟨RX0, "copyFrom", "(LConstructionLedger$Certificates;)V"⟩
abbrev cX0_certifiedOf : ByteArray := prog_2_method_4_code
def yX0_certifiedOf : MethodName := ⟨RX0, "certifiedOf", "(I)J"⟩
abbrev cX0_unpaidOf : ByteArray := prog_2_method_5_code
def yX0_unpaidOf : MethodName := ⟨RX0, "unpaidOf", "(I)J"⟩
abbrev cX0_overdueOf : ByteArray := prog_2_method_6_code
def yX0_overdueOf : MethodName := ⟨RX0, "overdueOf", "(II)J"⟩
abbrev cX0_openDueBetween : ByteArray := prog_2_method_7_code
def yX0_openDueBetween : MethodName := ⟨RX0, "openDueBetween", "(II)J"⟩
abbrev cX0_hasOpenUpTo : ByteArray := prog_2_method_8_code
def yX0_hasOpenUpTo : MethodName := ⟨RX0, "hasOpenUpTo", "(II)Z"⟩
abbrev cX0_isPaid : ByteArray := prog_2_method_9_code
def yX0_isPaid : MethodName := ⟨RX0, "isPaid", "(I)Z"⟩
abbrev cX0_nextDueDay : ByteArray := prog_2_method_10_code
def yX0_nextDueDay : MethodName := ⟨RX0, "nextDueDay", "(II)I"⟩
abbrev cX0_sortByDueDay : ByteArray := prog_2_method_11_code
def yX0_sortByDueDay : MethodName := ⟨RX0, "sortByDueDay", "([I)V"⟩
def RX1 : String := "ConstructionLedger$Contracts"
def TX1 : u_T := fun k => match k with
  | 0 => ("ConstructionLedger$Contracts", "count", "I", false)
  | 1 => ("ConstructionLedger$Contracts", "parent", "[I", true)
  | 2 => ("ConstructionLedger$Contracts", "retentionPercent", "[I", true)
  | 3 => ("ConstructionLedger$Contracts", "limitPercent", "[I", true)
  | 4 => ("ConstructionLedger$Contracts", "paymentDays", "[I", true)
  | 5 => ("ConstructionLedger$Contracts", "rank", "[I", true)
  | 6 => ("ConstructionLedger$Contracts", "linked", "[Z", true)
  | _ => ("ConstructionLedger$Contracts", "stage", "[I", true)
def tyX1 : Nat → FieldType := fun k => match k with
  | 0 => .int
  | 1 => .array .int
  | 2 => .array .int
  | 3 => .array .int
  | 4 => .array .int
  | 5 => .array .int
  | 6 => .array .boolean
  | _ => .array .int
abbrev wsX10 : List Cond := u_ws RX1 TX1 8
theorem nmX1 : ∀ a, a < 8 → ∀ b, b < 8 → a ≠ b → (TX1 a).2.1 ≠ (TX1 b).2.1 := by decide +kernel
theorem tyX1_ok : ∀ k, k < 8 → parseFieldDescriptor (TX1 k).2.2.1 = some (tyX1 k) := by decide +kernel
abbrev cX1_init : ByteArray := prog_3_method_1_code
def yX1_init : MethodName := ⟨RX1, "<init>", "()V"⟩
abbrev cX1_add : ByteArray := prog_3_method_2_code
def yX1_add : MethodName := ⟨RX1, "add", "(IIIIIZ)V"⟩
abbrev cX1_copyFrom : ByteArray := prog_3_method_3_code
def yX1_copyFrom : MethodName := ⟨RX1, "copyFrom", "(LConstructionLedger$Contracts;)V"⟩
def RX2 : String := "ConstructionLedger$Items"
def TX2 : u_T := fun k => match k with
  | 0 => ("ConstructionLedger$Items", "count", "[I", true)
  | 1 => ("ConstructionLedger$Items", "first", "[I", true)
  | 2 => ("ConstructionLedger$Items", "price", "[I", true)
  | 3 => ("ConstructionLedger$Items", "quantity", "[I", true)
  | _ => ("ConstructionLedger$Items", "progress", "[I", true)
def tyX2 : Nat → FieldType := fun k => match k with
  | 0 => .array .int
  | 1 => .array .int
  | 2 => .array .int
  | 3 => .array .int
  | _ => .array .int
abbrev wsX20 : List Cond := u_ws RX2 TX2 5
theorem nmX2 : ∀ a, a < 5 → ∀ b, b < 5 → a ≠ b → (TX2 a).2.1 ≠ (TX2 b).2.1 := by decide +kernel
theorem tyX2_ok : ∀ k, k < 5 → parseFieldDescriptor (TX2 k).2.2.1 = some (tyX2 k) := by decide +kernel
abbrev cX2_init : ByteArray := prog_4_method_1_code
def yX2_init : MethodName := ⟨RX2, "<init>", "()V"⟩
abbrev cX2_slotOf : ByteArray := prog_4_method_2_code
def yX2_slotOf : MethodName := ⟨RX2, "slotOf", "(II)I"⟩
abbrev cX2_clear : ByteArray := prog_4_method_3_code
def yX2_clear : MethodName := ⟨RX2, "clear", "()V"⟩
abbrev cX2_add : ByteArray := prog_4_method_4_code
def yX2_add : MethodName := ⟨RX2, "add", "(III)V"⟩
abbrev cX2_copyFrom : ByteArray := prog_4_method_5_code
def yX2_copyFrom : MethodName := ⟨RX2, "copyFrom", "(LConstructionLedger$Items;)V"⟩
abbrev cX2_specialRateOf : ByteArray := prog_4_method_6_code
def yX2_specialRateOf : MethodName := ⟨RX2, "specialRateOf", "(ILConstructionLedger$Pricing;)I"⟩
abbrev cX2_fullValueOf : ByteArray := prog_4_method_7_code
def yX2_fullValueOf : MethodName := ⟨RX2, "fullValueOf", "(IILConstructionLedger$Pricing;)J"⟩
abbrev cX2_valueOf : ByteArray := prog_4_method_8_code
def yX2_valueOf : MethodName := ⟨RX2, "valueOf", "(ILConstructionLedger$Pricing;)J"⟩
abbrev cX2_firstSumOf : ByteArray := prog_4_method_9_code
def yX2_firstSumOf : MethodName := ⟨RX2, "firstSumOf", "(I)J"⟩
abbrev cX2_areComplete : ByteArray := prog_4_method_10_code
def yX2_areComplete : MethodName := ⟨RX2, "areComplete", "(I)Z"⟩
def RX3 : String := "ConstructionLedger$Liens"
def TX3 : u_T := fun k => match k with
  | 0 => ("ConstructionLedger$Liens", "count", "I", false)
  | 1 => ("ConstructionLedger$Liens", "contract", "[I", true)
  | 2 => ("ConstructionLedger$Liens", "amount", "[J", true)
  | 3 => ("ConstructionLedger$Liens", "filed", "[I", true)
  | _ => ("ConstructionLedger$Liens", "withdrawn", "[Z", true)
def tyX3 : Nat → FieldType := fun k => match k with
  | 0 => .int
  | 1 => .array .int
  | 2 => .array .long
  | 3 => .array .int
  | _ => .array .boolean
abbrev wsX30 : List Cond := u_ws RX3 TX3 5
theorem nmX3 : ∀ a, a < 5 → ∀ b, b < 5 → a ≠ b → (TX3 a).2.1 ≠ (TX3 b).2.1 := by decide +kernel
theorem tyX3_ok : ∀ k, k < 5 → parseFieldDescriptor (TX3 k).2.2.1 = some (tyX3 k) := by decide +kernel
abbrev cX3_init : ByteArray := prog_5_method_1_code
def yX3_init : MethodName := ⟨RX3, "<init>", "()V"⟩
abbrev cX3_add : ByteArray := prog_5_method_2_code
def yX3_add : MethodName := ⟨RX3, "add", "(IJI)I"⟩
abbrev cX3_copyFrom : ByteArray := prog_5_method_3_code
def yX3_copyFrom : MethodName := ⟨RX3, "copyFrom", "(LConstructionLedger$Liens;)V"⟩
def RX4 : String := "ConstructionLedger$Pricing"
def TX4 : u_T := fun k => match k with
  | 0 => ("ConstructionLedger$Pricing", "threshold", "I", false)
  | 1 => ("ConstructionLedger$Pricing", "length", "I", false)
  | 2 => ("ConstructionLedger$Pricing", "code", "[I", true)
  | _ => ("ConstructionLedger$Pricing", "stack", "[I", true)
def tyX4 : Nat → FieldType := fun k => match k with
  | 0 => .int
  | 1 => .int
  | 2 => .array .int
  | _ => .array .int
abbrev wsX40 : List Cond := u_ws RX4 TX4 4
theorem nmX4 : ∀ a, a < 4 → ∀ b, b < 4 → a ≠ b → (TX4 a).2.1 ≠ (TX4 b).2.1 := by decide +kernel
theorem tyX4_ok : ∀ k, k < 4 → parseFieldDescriptor (TX4 k).2.2.1 = some (tyX4 k) := by decide +kernel
abbrev cX4_init : ByteArray := prog_6_method_1_code
def yX4_init : MethodName := ⟨RX4, "<init>", "(I)V"⟩
abbrev cX4_add : ByteArray := prog_6_method_2_code
def yX4_add : MethodName := ⟨RX4, "add", "(I)V"⟩
abbrev cX4_fullValue : ByteArray := prog_6_method_3_code
def yX4_fullValue : MethodName := ⟨RX4, "fullValue", "(III)J"⟩
abbrev cX4_excessOf : ByteArray := prog_6_method_4_code
def yX4_excessOf : MethodName := ⟨RX4, "excessOf", "(II)I"⟩
abbrev cX4_boundOf : ByteArray := prog_6_method_5_code
def yX4_boundOf : MethodName := ⟨RX4, "boundOf", "(I)I"⟩
abbrev cX4_rate : ByteArray := prog_6_method_6_code
def yX4_rate : MethodName := ⟨RX4, "rate", "(III)I"⟩
abbrev cX4_operand : ByteArray := prog_6_method_7_code
def yX4_operand : MethodName := ⟨RX4, "operand", "(IIII)I"⟩
abbrev cX4_result : ByteArray := prog_6_method_8_code
def yX4_result : MethodName := ⟨RX4, "result", "(III)I"⟩
def RX5 : String := "ConstructionLedger$Project"
def TX5 : u_T := fun k => match k with
  | 0 => ("ConstructionLedger$Project", "day", "I", false)
  | 1 => ("ConstructionLedger$Project", "accounts", "[J", true)
  | 2 => ("ConstructionLedger$Project", "contracts", "LConstructionLedger$Contracts;", true)
  | 3 => ("ConstructionLedger$Project", "pricing", "LConstructionLedger$Pricing;", false)
  | 4 => ("ConstructionLedger$Project", "items", "LConstructionLedger$Items;", true)
  | 5 => ("ConstructionLedger$Project", "variations", "LConstructionLedger$Variations;", true)
  | 6 => ("ConstructionLedger$Project", "certificates", "LConstructionLedger$Certificates;", true)
  | 7 => ("ConstructionLedger$Project", "liens", "LConstructionLedger$Liens;", true)
  | _ => ("ConstructionLedger$Project", "order", "[I", true)
def tyX5 : Nat → FieldType := fun k => match k with
  | 0 => .int
  | 1 => .array .long
  | 2 => .object "ConstructionLedger$Contracts"
  | 3 => .object "ConstructionLedger$Pricing"
  | 4 => .object "ConstructionLedger$Items"
  | 5 => .object "ConstructionLedger$Variations"
  | 6 => .object "ConstructionLedger$Certificates"
  | 7 => .object "ConstructionLedger$Liens"
  | _ => .array .int
abbrev wsX50 : List Cond := u_ws RX5 TX5 9
theorem nmX5 : ∀ a, a < 9 → ∀ b, b < 9 → a ≠ b → (TX5 a).2.1 ≠ (TX5 b).2.1 := by decide +kernel
theorem tyX5_ok : ∀ k, k < 9 → parseFieldDescriptor (TX5 k).2.2.1 = some (tyX5 k) := by decide +kernel
abbrev cX5_init : ByteArray := prog_7_method_1_code
def yX5_init : MethodName := ⟨RX5, "<init>", "()V"⟩
abbrev cX5_clear : ByteArray := prog_7_method_2_code
def yX5_clear : MethodName := ⟨RX5, "clear", "(I)V"⟩
abbrev cX5_copyFrom : ByteArray := prog_7_method_3_code
def yX5_copyFrom : MethodName := ⟨RX5, "copyFrom", "(LConstructionLedger$Project;)V"⟩
abbrev cX5_presentSumOf : ByteArray := prog_7_method_4_code
def yX5_presentSumOf : MethodName := ⟨RX5, "presentSumOf", "(I)J"⟩
abbrev cX5_grossOf : ByteArray := prog_7_method_5_code
def yX5_grossOf : MethodName := ⟨RX5, "grossOf", "(I)J"⟩
abbrev cX5_retentionOf : ByteArray := prog_7_method_6_code
def yX5_retentionOf : MethodName := ⟨RX5, "retentionOf", "(IJ)J"⟩
abbrev cX5_amountToCertify : ByteArray := prog_7_method_7_code
def yX5_amountToCertify : MethodName := ⟨RX5, "amountToCertify", "(I)J"⟩
abbrev cX5_marginOf : ByteArray := prog_7_method_8_code
def yX5_marginOf : MethodName := ⟨RX5, "marginOf", "(I)J"⟩
abbrev cX5_overdueOf : ByteArray := prog_7_method_9_code
def yX5_overdueOf : MethodName := ⟨RX5, "overdueOf", "(I)J"⟩
abbrev cX5_quantityWith : ByteArray := prog_7_method_10_code
def yX5_quantityWith : MethodName := ⟨RX5, "quantityWith", "(I)I"⟩
abbrev cX5_worthOf : ByteArray := prog_7_method_11_code
def yX5_worthOf : MethodName := ⟨RX5, "worthOf", "(I)J"⟩
abbrev cX5_isHeldBack : ByteArray := prog_7_method_12_code
def yX5_isHeldBack : MethodName := ⟨RX5, "isHeldBack", "(I)Z"⟩
abbrev cX5_payerHolds : ByteArray := prog_7_method_13_code
def yX5_payerHolds : MethodName := ⟨RX5, "payerHolds", "(I)J"⟩
abbrev cX5_transfer : ByteArray := prog_7_method_14_code
def yX5_transfer : MethodName := ⟨RX5, "transfer", "(IJ)V"⟩
abbrev cX5_settleUntilPaid : ByteArray := prog_7_method_15_code
def yX5_settleUntilPaid : MethodName := ⟨RX5, "settleUntilPaid", "(II)J"⟩
abbrev cX5_settleOneDay : ByteArray := prog_7_method_16_code
def yX5_settleOneDay : MethodName := ⟨RX5, "settleOneDay", "()J"⟩
abbrev cX5_payFromAccount : ByteArray := prog_7_method_17_code
def yX5_payFromAccount : MethodName := ⟨RX5, "payFromAccount", "(I)J"⟩
abbrev cX5_claimOf : ByteArray := prog_7_method_18_code
def yX5_claimOf : MethodName := ⟨RX5, "claimOf", "(I)J"⟩
abbrev cX5_hasClaim : ByteArray := prog_7_method_19_code
def yX5_hasClaim : MethodName := ⟨RX5, "hasClaim", "(I)Z"⟩
abbrev cX5_rankOf : ByteArray := prog_7_method_20_code
def yX5_rankOf : MethodName := ⟨RX5, "rankOf", "(I)I"⟩
abbrev cX5_precedes : ByteArray := prog_7_method_21_code
def yX5_precedes : MethodName := ⟨RX5, "precedes", "(II)Z"⟩
abbrev cX5_lienAt : ByteArray := prog_7_method_22_code
def yX5_lienAt : MethodName := ⟨RX5, "lienAt", "(I)I"⟩
abbrev cX5_claimsOfRank : ByteArray := prog_7_method_23_code
def yX5_claimsOfRank : MethodName := ⟨RX5, "claimsOfRank", "(I)J"⟩
abbrev cX5_shareOf : ByteArray := prog_7_method_24_code
def yX5_shareOf : MethodName := ⟨RX5, "shareOf", "(IJ)J"⟩
abbrev cX5_partOf : ByteArray := prog_7_method_25_code
def yX5_partOf : MethodName := ⟨RX5, "partOf", "(IJJ)J"⟩
abbrev cX5_checksumOfAll : ByteArray := prog_7_method_26_code
def yX5_checksumOfAll : MethodName := ⟨RX5, "checksumOfAll", "()J"⟩
def RX6 : String := "ConstructionLedger$SetupReader"
def TX6 : u_T := fun k => match k with
  | 0 => ("ConstructionLedger$SetupReader", "text", "[B", true)
  | 1 => ("ConstructionLedger$SetupReader", "filled", "I", false)
  | 2 => ("ConstructionLedger$SetupReader", "draft", "LConstructionLedger$Project;", true)
  | 3 => ("ConstructionLedger$SetupReader", "length", "I", false)
  | 4 => ("ConstructionLedger$SetupReader", "at", "I", false)
  | 5 => ("ConstructionLedger$SetupReader", "kind", "I", false)
  | 6 => ("ConstructionLedger$SetupReader", "start", "I", false)
  | 7 => ("ConstructionLedger$SetupReader", "value", "I", false)
  | 8 => ("ConstructionLedger$SetupReader", "error", "I", false)
  | 9 => ("ConstructionLedger$SetupReader", "errorAt", "I", false)
  | 10 => ("ConstructionLedger$SetupReader", "hasThreshold", "Z", false)
  | _ => ("ConstructionLedger$SetupReader", "hasRate", "Z", false)
def tyX6 : Nat → FieldType := fun k => match k with
  | 0 => .array .byte
  | 1 => .int
  | 2 => .object "ConstructionLedger$Project"
  | 3 => .int
  | 4 => .int
  | 5 => .int
  | 6 => .int
  | 7 => .int
  | 8 => .int
  | 9 => .int
  | 10 => .boolean
  | _ => .boolean
abbrev wsX60 : List Cond := u_ws RX6 TX6 12
theorem nmX6 : ∀ a, a < 12 → ∀ b, b < 12 → a ≠ b → (TX6 a).2.1 ≠ (TX6 b).2.1 := by decide +kernel
theorem tyX6_ok : ∀ k, k < 12 → parseFieldDescriptor (TX6 k).2.2.1 = some (tyX6 k) := by decide +kernel
abbrev cX6_init : ByteArray := prog_8_method_1_code
def yX6_init : MethodName := ⟨RX6, "<init>", "()V"⟩
abbrev cX6_addBytes : ByteArray := prog_8_method_2_code
def yX6_addBytes : MethodName := ⟨RX6, "addBytes", "(I)V"⟩
abbrev cX6_read : ByteArray := prog_8_method_3_code
def yX6_read : MethodName := ⟨RX6, "read", "(I)I"⟩
abbrev cX6_readHead : ByteArray := prog_8_method_4_code
def yX6_readHead : MethodName := ⟨RX6, "readHead", "()V"⟩
abbrev cX6_readStatement : ByteArray := prog_8_method_5_code
def yX6_readStatement : MethodName := ⟨RX6, "readStatement", "()V"⟩
abbrev cX6_readSub : ByteArray := prog_8_method_6_code
def yX6_readSub : MethodName := ⟨RX6, "readSub", "()V"⟩
abbrev cX6_readItem : ByteArray := prog_8_method_7_code
def yX6_readItem : MethodName := ⟨RX6, "readItem", "()V"⟩
abbrev cX6_readSum : ByteArray := prog_8_method_8_code
def yX6_readSum : MethodName := ⟨RX6, "readSum", "(I)V"⟩
abbrev cX6_readTerm : ByteArray := prog_8_method_9_code
def yX6_readTerm : MethodName := ⟨RX6, "readTerm", "(I)V"⟩
abbrev cX6_readFactor : ByteArray := prog_8_method_10_code
def yX6_readFactor : MethodName := ⟨RX6, "readFactor", "(I)V"⟩
abbrev cX6_addOperand : ByteArray := prog_8_method_11_code
def yX6_addOperand : MethodName := ⟨RX6, "addOperand", "(I)V"⟩
abbrev cX6_failAt : ByteArray := prog_8_method_12_code
def yX6_failAt : MethodName := ⟨RX6, "failAt", "(II)V"⟩
abbrev cX6_take : ByteArray := prog_8_method_13_code
def yX6_take : MethodName := ⟨RX6, "take", "(I)V"⟩
abbrev cX6_takeWord : ByteArray := prog_8_method_14_code
def yX6_takeWord : MethodName := ⟨RX6, "takeWord", "(Ljava/lang/String;)V"⟩
abbrev cX6_takeNumber : ByteArray := prog_8_method_15_code
def yX6_takeNumber : MethodName := ⟨RX6, "takeNumber", "(II)I"⟩
abbrev cX6_isWord : ByteArray := prog_8_method_16_code
def yX6_isWord : MethodName := ⟨RX6, "isWord", "(Ljava/lang/String;)Z"⟩
abbrev cX6_advance : ByteArray := prog_8_method_17_code
def yX6_advance : MethodName := ⟨RX6, "advance", "()V"⟩
def RX7 : String := "ConstructionLedger$Variations"
def TX7 : u_T := fun k => match k with
  | 0 => ("ConstructionLedger$Variations", "count", "I", false)
  | 1 => ("ConstructionLedger$Variations", "slot", "[I", true)
  | 2 => ("ConstructionLedger$Variations", "change", "[I", true)
  | _ => ("ConstructionLedger$Variations", "approved", "[Z", true)
def tyX7 : Nat → FieldType := fun k => match k with
  | 0 => .int
  | 1 => .array .int
  | 2 => .array .int
  | _ => .array .boolean
abbrev wsX70 : List Cond := u_ws RX7 TX7 4
theorem nmX7 : ∀ a, a < 4 → ∀ b, b < 4 → a ≠ b → (TX7 a).2.1 ≠ (TX7 b).2.1 := by decide +kernel
theorem tyX7_ok : ∀ k, k < 4 → parseFieldDescriptor (TX7 k).2.2.1 = some (tyX7 k) := by decide +kernel
abbrev cX7_init : ByteArray := prog_9_method_1_code
def yX7_init : MethodName := ⟨RX7, "<init>", "()V"⟩
abbrev cX7_add : ByteArray := prog_9_method_2_code
def yX7_add : MethodName := ⟨RX7, "add", "(II)I"⟩
abbrev cX7_copyFrom : ByteArray := prog_9_method_3_code
def yX7_copyFrom : MethodName := ⟨RX7, "copyFrom", "(LConstructionLedger$Variations;)V"⟩
def RX8 : String := "ConstructionLedger"
def TX8 : u_T := fun k => match k with
  | 0 => ("ConstructionLedger", "reader", "LConstructionLedger$SetupReader;", true)
  | 1 => ("ConstructionLedger", "states", "[LConstructionLedger$Project;", true)
  | 2 => ("ConstructionLedger", "present", "I", false)
  | 3 => ("ConstructionLedger", "undoSteps", "I", false)
  | _ => ("ConstructionLedger", "forecast", "LConstructionLedger$Project;", true)
def tyX8 : Nat → FieldType := fun k => match k with
  | 0 => .object "ConstructionLedger$SetupReader"
  | 1 => .array (.object "ConstructionLedger$Project")
  | 2 => .int
  | 3 => .int
  | _ => .object "ConstructionLedger$Project"
abbrev wsX80 : List Cond := u_ws RX8 TX8 5
theorem nmX8 : ∀ a, a < 5 → ∀ b, b < 5 → a ≠ b → (TX8 a).2.1 ≠ (TX8 b).2.1 := by decide +kernel
theorem tyX8_ok : ∀ k, k < 5 → parseFieldDescriptor (TX8 k).2.2.1 = some (tyX8 k) := by decide +kernel
abbrev cX8_init : ByteArray := prog_1_method_1_code
def yX8_init : MethodName := ⟨RX8, "<init>", "()V"⟩
abbrev cX8_append : ByteArray := prog_1_method_2_code
def yX8_append : MethodName := ⟨RX8, "append", "(IIIII)I"⟩
abbrev cX8_load : ByteArray := prog_1_method_3_code
def yX8_load : MethodName := ⟨RX8, "load", "(I)I"⟩
abbrev cX8_errorOffset : ByteArray := prog_1_method_4_code
def yX8_errorOffset : MethodName := ⟨RX8, "errorOffset", "()I"⟩
abbrev cX8_day : ByteArray := prog_1_method_5_code
def yX8_day : MethodName := ⟨RX8, "day", "()I"⟩
abbrev cX8_contractCount : ByteArray := prog_1_method_6_code
def yX8_contractCount : MethodName := ⟨RX8, "contractCount", "()I"⟩
abbrev cX8_parent : ByteArray := prog_1_method_7_code
def yX8_parent : MethodName := ⟨RX8, "parent", "(I)I"⟩
abbrev cX8_itemCount : ByteArray := prog_1_method_8_code
def yX8_itemCount : MethodName := ⟨RX8, "itemCount", "(I)I"⟩
abbrev cX8_quantity : ByteArray := prog_1_method_9_code
def yX8_quantity : MethodName := ⟨RX8, "quantity", "(II)I"⟩
abbrev cX8_specialRate : ByteArray := prog_1_method_10_code
def yX8_specialRate : MethodName := ⟨RX8, "specialRate", "(II)I"⟩
abbrev cX8_itemValue : ByteArray := prog_1_method_11_code
def yX8_itemValue : MethodName := ⟨RX8, "itemValue", "(II)J"⟩
abbrev cX8_firstSum : ByteArray := prog_1_method_12_code
def yX8_firstSum : MethodName := ⟨RX8, "firstSum", "(I)J"⟩
abbrev cX8_presentSum : ByteArray := prog_1_method_13_code
def yX8_presentSum : MethodName := ⟨RX8, "presentSum", "(I)J"⟩
abbrev cX8_grossValue : ByteArray := prog_1_method_14_code
def yX8_grossValue : MethodName := ⟨RX8, "grossValue", "(I)J"⟩
abbrev cX8_retention : ByteArray := prog_1_method_15_code
def yX8_retention : MethodName := ⟨RX8, "retention", "(I)J"⟩
abbrev cX8_certified : ByteArray := prog_1_method_16_code
def yX8_certified : MethodName := ⟨RX8, "certified", "(I)J"⟩
abbrev cX8_unpaid : ByteArray := prog_1_method_17_code
def yX8_unpaid : MethodName := ⟨RX8, "unpaid", "(I)J"⟩
abbrev cX8_overdue : ByteArray := prog_1_method_18_code
def yX8_overdue : MethodName := ⟨RX8, "overdue", "(I)J"⟩
abbrev cX8_stage : ByteArray := prog_1_method_19_code
def yX8_stage : MethodName := ⟨RX8, "stage", "(I)I"⟩
abbrev cX8_margin : ByteArray := prog_1_method_20_code
def yX8_margin : MethodName := ⟨RX8, "margin", "(I)J"⟩
abbrev cX8_account : ByteArray := prog_1_method_21_code
def yX8_account : MethodName := ⟨RX8, "account", "(I)J"⟩
abbrev cX8_certificateCount : ByteArray := prog_1_method_22_code
def yX8_certificateCount : MethodName := ⟨RX8, "certificateCount", "()I"⟩
abbrev cX8_certificateContract : ByteArray := prog_1_method_23_code
def yX8_certificateContract : MethodName := ⟨RX8, "certificateContract", "(I)I"⟩
abbrev cX8_amount : ByteArray := prog_1_method_24_code
def yX8_amount : MethodName := ⟨RX8, "amount", "(I)J"⟩
abbrev cX8_openAmount : ByteArray := prog_1_method_25_code
def yX8_openAmount : MethodName := ⟨RX8, "openAmount", "(I)J"⟩
abbrev cX8_dueDay : ByteArray := prog_1_method_26_code
def yX8_dueDay : MethodName := ⟨RX8, "dueDay", "(I)I"⟩
abbrev cX8_isBlocked : ByteArray := prog_1_method_27_code
def yX8_isBlocked : MethodName := ⟨RX8, "isBlocked", "(I)Z"⟩
abbrev cX8_dueBetween : ByteArray := prog_1_method_28_code
def yX8_dueBetween : MethodName := ⟨RX8, "dueBetween", "(II)J"⟩
abbrev cX8_settleDays : ByteArray := prog_1_method_29_code
def yX8_settleDays : MethodName := ⟨RX8, "settleDays", "(II)I"⟩
abbrev cX8_variationCount : ByteArray := prog_1_method_30_code
def yX8_variationCount : MethodName := ⟨RX8, "variationCount", "()I"⟩
abbrev cX8_isApproved : ByteArray := prog_1_method_31_code
def yX8_isApproved : MethodName := ⟨RX8, "isApproved", "(I)Z"⟩
abbrev cX8_variationWorth : ByteArray := prog_1_method_32_code
def yX8_variationWorth : MethodName := ⟨RX8, "variationWorth", "(I)J"⟩
abbrev cX8_lienCount : ByteArray := prog_1_method_33_code
def yX8_lienCount : MethodName := ⟨RX8, "lienCount", "()I"⟩
abbrev cX8_claim : ByteArray := prog_1_method_34_code
def yX8_claim : MethodName := ⟨RX8, "claim", "(I)J"⟩
abbrev cX8_priority : ByteArray := prog_1_method_35_code
def yX8_priority : MethodName := ⟨RX8, "priority", "(I)I"⟩
abbrev cX8_share : ByteArray := prog_1_method_36_code
def yX8_share : MethodName := ⟨RX8, "share", "(II)J"⟩
abbrev cX8_measure : ByteArray := prog_1_method_37_code
def yX8_measure : MethodName := ⟨RX8, "measure", "(III)I"⟩
abbrev cX8_propose : ByteArray := prog_1_method_38_code
def yX8_propose : MethodName := ⟨RX8, "propose", "(III)I"⟩
abbrev cX8_approve : ByteArray := prog_1_method_39_code
def yX8_approve : MethodName := ⟨RX8, "approve", "(I)I"⟩
abbrev cX8_certify : ByteArray := prog_1_method_40_code
def yX8_certify : MethodName := ⟨RX8, "certify", "(I)I"⟩
abbrev cX8_nextStage : ByteArray := prog_1_method_41_code
def yX8_nextStage : MethodName := ⟨RX8, "nextStage", "(I)I"⟩
abbrev cX8_pay : ByteArray := prog_1_method_42_code
def yX8_pay : MethodName := ⟨RX8, "pay", "(II)J"⟩
abbrev cX8_deposit : ByteArray := prog_1_method_43_code
def yX8_deposit : MethodName := ⟨RX8, "deposit", "(I)J"⟩
abbrev cX8_pass : ByteArray := prog_1_method_44_code
def yX8_pass : MethodName := ⟨RX8, "pass", "(I)I"⟩
abbrev cX8_settle : ByteArray := prog_1_method_45_code
def yX8_settle : MethodName := ⟨RX8, "settle", "(I)J"⟩
abbrev cX8_fileLien : ByteArray := prog_1_method_46_code
def yX8_fileLien : MethodName := ⟨RX8, "fileLien", "(I)I"⟩
abbrev cX8_withdrawLien : ByteArray := prog_1_method_47_code
def yX8_withdrawLien : MethodName := ⟨RX8, "withdrawLien", "(I)J"⟩
abbrev cX8_undo : ByteArray := prog_1_method_48_code
def yX8_undo : MethodName := ⟨RX8, "undo", "()I"⟩
abbrev cX8_checksum : ByteArray := prog_1_method_49_code
def yX8_checksum : MethodName := ⟨RX8, "checksum", "()J"⟩
abbrev cX8_project : ByteArray := prog_1_method_50_code
def yX8_project : MethodName := ⟨RX8, "project", "()LConstructionLedger$Project;"⟩
abbrev cX8_beginChange : ByteArray := prog_1_method_51_code
def yX8_beginChange : MethodName := ⟨RX8, "beginChange", "()LConstructionLedger$Project;"⟩
abbrev cX8_checkContract : ByteArray := prog_1_method_52_code
def yX8_checkContract : MethodName := ⟨RX8, "checkContract", "(I)V"⟩
abbrev cX8_checkItem : ByteArray := prog_1_method_53_code
def yX8_checkItem : MethodName := ⟨RX8, "checkItem", "(II)V"⟩
abbrev cX8_checkCertificate : ByteArray := prog_1_method_54_code
def yX8_checkCertificate : MethodName := ⟨RX8, "checkCertificate", "(I)V"⟩
abbrev cX8_checkVariation : ByteArray := prog_1_method_55_code
def yX8_checkVariation : MethodName := ⟨RX8, "checkVariation", "(I)V"⟩
abbrev cX8_checkLien : ByteArray := prog_1_method_56_code
def yX8_checkLien : MethodName := ⟨RX8, "checkLien", "(I)V"⟩
abbrev cX8_checkProject : ByteArray := prog_1_method_57_code
def yX8_checkProject : MethodName := ⟨RX8, "checkProject", "()V"⟩
abbrev cX8_checkIndex : ByteArray := prog_1_method_58_code
def yX8_checkIndex : MethodName := ⟨RX8, "checkIndex", "(II)V"⟩
abbrev cX8_checkRange : ByteArray := prog_1_method_59_code
def yX8_checkRange : MethodName := ⟨RX8, "checkRange", "(III)V"⟩
abbrev cX8_checkState : ByteArray := prog_1_method_60_code
def yX8_checkState : MethodName := ⟨RX8, "checkState", "(Z)V"⟩
def RX9 : String := "ConstructionLedgerModel"
def TX9 : u_T := fun k => match k with
  | 0 => ("ConstructionLedgerModel", "thrown", "I", false)
  | 1 => ("ConstructionLedgerModel", "rows", "[J", true)
  | 2 => ("ConstructionLedgerModel", "read", "[J", true)
  | 3 => ("ConstructionLedgerModel", "aside", "[J", true)
  | 4 => ("ConstructionLedgerModel", "now", "I", false)
  | 5 => ("ConstructionLedgerModel", "undoable", "I", false)
  | 6 => ("ConstructionLedgerModel", "text", "[I", true)
  | 7 => ("ConstructionLedgerModel", "bytes", "I", false)
  | 8 => ("ConstructionLedgerModel", "errorAt", "I", false)
  | 9 => ("ConstructionLedgerModel", "size", "I", false)
  | 10 => ("ConstructionLedgerModel", "next", "I", false)
  | 11 => ("ConstructionLedgerModel", "error", "I", false)
  | 12 => ("ConstructionLedgerModel", "place", "I", false)
  | 13 => ("ConstructionLedgerModel", "began", "I", false)
  | 14 => ("ConstructionLedgerModel", "nested", "I", false)
  | 15 => ("ConstructionLedgerModel", "once", "I", false)
  | _ => ("ConstructionLedgerModel", "pile", "[J", true)
def tyX9 : Nat → FieldType := fun k => match k with
  | 0 => .int
  | 1 => .array .long
  | 2 => .array .long
  | 3 => .array .long
  | 4 => .int
  | 5 => .int
  | 6 => .array .int
  | 7 => .int
  | 8 => .int
  | 9 => .int
  | 10 => .int
  | 11 => .int
  | 12 => .int
  | 13 => .int
  | 14 => .int
  | 15 => .int
  | _ => .array .long
abbrev wsX90 : List Cond := u_ws RX9 TX9 17
theorem nmX9 : ∀ a, a < 17 → ∀ b, b < 17 → a ≠ b → (TX9 a).2.1 ≠ (TX9 b).2.1 := by decide +kernel
theorem tyX9_ok : ∀ k, k < 17 → parseFieldDescriptor (TX9 k).2.2.1 = some (tyX9 k) := by decide +kernel
abbrev cX9_init : ByteArray := prog_11_method_1_code
def yX9_init : MethodName := ⟨RX9, "<init>", "()V"⟩
abbrev cX9_thrown : ByteArray := prog_11_method_2_code
def yX9_thrown : MethodName := ⟨RX9, "thrown", "()I"⟩
abbrev cX9_isIn : ByteArray := prog_11_method_3_code
def yX9_isIn : MethodName := ⟨RX9, "isIn", "(JJJ)Z"⟩
abbrev cX9_clamped : ByteArray := prog_11_method_4_code
def yX9_clamped : MethodName := ⟨RX9, "clamped", "(JJJ)J"⟩
abbrev cX9_get : ByteArray := prog_11_method_5_code
def yX9_get : MethodName := ⟨RX9, "get", "(I)J"⟩
abbrev cX9_small : ByteArray := prog_11_method_6_code
def yX9_small : MethodName := ⟨RX9, "small", "(I)I"⟩
abbrev cX9_put : ByteArray := prog_11_method_7_code
def yX9_put : MethodName := ⟨RX9, "put", "(IJ)V"⟩
abbrev cX9_change : ByteArray := prog_11_method_8_code
def yX9_change : MethodName := ⟨RX9, "change", "()V"⟩
abbrev cX9_right : ByteArray := prog_11_method_9_code
def yX9_right : MethodName := ⟨RX9, "right", "(ZI)Z"⟩
abbrev cX9_append : ByteArray := prog_11_method_10_code
def yX9_append : MethodName := ⟨RX9, "append", "(IIIII)I"⟩
abbrev cX9_fails : ByteArray := prog_11_method_11_code
def yX9_fails : MethodName := ⟨RX9, "fails", "(II)V"⟩
abbrev cX9_sees : ByteArray := prog_11_method_12_code
def yX9_sees : MethodName := ⟨RX9, "sees", "()I"⟩
abbrev cX9_isWord : ByteArray := prog_11_method_13_code
def yX9_isWord : MethodName := ⟨RX9, "isWord", "(Ljava/lang/String;)Z"⟩
abbrev cX9_takes : ByteArray := prog_11_method_14_code
def yX9_takes : MethodName := ⟨RX9, "takes", "(Ljava/lang/String;)Z"⟩
abbrev cX9_needs : ByteArray := prog_11_method_15_code
def yX9_needs : MethodName := ⟨RX9, "needs", "(Ljava/lang/String;)V"⟩
abbrev cX9_wants : ByteArray := prog_11_method_16_code
def yX9_wants : MethodName := ⟨RX9, "wants", "(I)V"⟩
abbrev cX9_isDigit : ByteArray := prog_11_method_17_code
def yX9_isDigit : MethodName := ⟨RX9, "isDigit", "()Z"⟩
abbrev cX9_reads : ByteArray := prog_11_method_18_code
def yX9_reads : MethodName := ⟨RX9, "reads", "(II)I"⟩
abbrev cX9_codes : ByteArray := prog_11_method_19_code
def yX9_codes : MethodName := ⟨RX9, "codes", "(II)V"⟩
abbrev cX9_sum : ByteArray := prog_11_method_20_code
def yX9_sum : MethodName := ⟨RX9, "sum", "()V"⟩
abbrev cX9_term : ByteArray := prog_11_method_21_code
def yX9_term : MethodName := ⟨RX9, "term", "()V"⟩
abbrev cX9_factor : ByteArray := prog_11_method_22_code
def yX9_factor : MethodName := ⟨RX9, "factor", "()V"⟩
abbrev cX9_first : ByteArray := prog_11_method_23_code
def yX9_first : MethodName := ⟨RX9, "first", "(II)Z"⟩
abbrev cX9_terms : ByteArray := prog_11_method_24_code
def yX9_terms : MethodName := ⟨RX9, "terms", "(I)V"⟩
abbrev cX9_subLine : ByteArray := prog_11_method_25_code
def yX9_subLine : MethodName := ⟨RX9, "subLine", "(I)V"⟩
abbrev cX9_itemLine : ByteArray := prog_11_method_26_code
def yX9_itemLine : MethodName := ⟨RX9, "itemLine", "()V"⟩
abbrev cX9_statement : ByteArray := prog_11_method_27_code
def yX9_statement : MethodName := ⟨RX9, "statement", "()V"⟩
abbrev cX9_texts : ByteArray := prog_11_method_28_code
def yX9_texts : MethodName := ⟨RX9, "texts", "()V"⟩
abbrev cX9_load : ByteArray := prog_11_method_29_code
def yX9_load : MethodName := ⟨RX9, "load", "(I)I"⟩
abbrev cX9_errorOffset : ByteArray := prog_11_method_30_code
def yX9_errorOffset : MethodName := ⟨RX9, "errorOffset", "()I"⟩
abbrev cX9_rateOf : ByteArray := prog_11_method_31_code
def yX9_rateOf : MethodName := ⟨RX9, "rateOf", "(JJJ)J"⟩
abbrev cX9_at : ByteArray := prog_11_method_32_code
def yX9_at : MethodName := ⟨RX9, "at", "(I)I"⟩
abbrev cX9_itemAt : ByteArray := prog_11_method_33_code
def yX9_itemAt : MethodName := ⟨RX9, "itemAt", "(II)I"⟩
abbrev cX9_quantityOf : ByteArray := prog_11_method_34_code
def yX9_quantityOf : MethodName := ⟨RX9, "quantityOf", "(II)J"⟩
abbrev cX9_boundOf : ByteArray := prog_11_method_35_code
def yX9_boundOf : MethodName := ⟨RX9, "boundOf", "(II)J"⟩
abbrev cX9_rateBy : ByteArray := prog_11_method_36_code
def yX9_rateBy : MethodName := ⟨RX9, "rateBy", "(IIJ)J"⟩
abbrev cX9_fullBy : ByteArray := prog_11_method_37_code
def yX9_fullBy : MethodName := ⟨RX9, "fullBy", "(IIJ)J"⟩
abbrev cX9_valueOf : ByteArray := prog_11_method_38_code
def yX9_valueOf : MethodName := ⟨RX9, "valueOf", "(II)J"⟩
abbrev cX9_isContract : ByteArray := prog_11_method_39_code
def yX9_isContract : MethodName := ⟨RX9, "isContract", "(I)Z"⟩
abbrev cX9_isItem : ByteArray := prog_11_method_40_code
def yX9_isItem : MethodName := ⟨RX9, "isItem", "(II)Z"⟩
abbrev cX9_day : ByteArray := prog_11_method_41_code
def yX9_day : MethodName := ⟨RX9, "day", "()I"⟩
abbrev cX9_contractCount : ByteArray := prog_11_method_42_code
def yX9_contractCount : MethodName := ⟨RX9, "contractCount", "()I"⟩
abbrev cX9_parent : ByteArray := prog_11_method_43_code
def yX9_parent : MethodName := ⟨RX9, "parent", "(I)I"⟩
abbrev cX9_itemCount : ByteArray := prog_11_method_44_code
def yX9_itemCount : MethodName := ⟨RX9, "itemCount", "(I)I"⟩
abbrev cX9_quantity : ByteArray := prog_11_method_45_code
def yX9_quantity : MethodName := ⟨RX9, "quantity", "(II)I"⟩
abbrev cX9_specialRate : ByteArray := prog_11_method_46_code
def yX9_specialRate : MethodName := ⟨RX9, "specialRate", "(II)I"⟩
abbrev cX9_itemValue : ByteArray := prog_11_method_47_code
def yX9_itemValue : MethodName := ⟨RX9, "itemValue", "(II)J"⟩
abbrev cX9_firstOf : ByteArray := prog_11_method_48_code
def yX9_firstOf : MethodName := ⟨RX9, "firstOf", "(I)J"⟩
abbrev cX9_presentOf : ByteArray := prog_11_method_49_code
def yX9_presentOf : MethodName := ⟨RX9, "presentOf", "(I)J"⟩
abbrev cX9_grossOf : ByteArray := prog_11_method_50_code
def yX9_grossOf : MethodName := ⟨RX9, "grossOf", "(I)J"⟩
abbrev cX9_heldOf : ByteArray := prog_11_method_51_code
def yX9_heldOf : MethodName := ⟨RX9, "heldOf", "(I)J"⟩
abbrev cX9_firstSum : ByteArray := prog_11_method_52_code
def yX9_firstSum : MethodName := ⟨RX9, "firstSum", "(I)J"⟩
abbrev cX9_presentSum : ByteArray := prog_11_method_53_code
def yX9_presentSum : MethodName := ⟨RX9, "presentSum", "(I)J"⟩
abbrev cX9_grossValue : ByteArray := prog_11_method_54_code
def yX9_grossValue : MethodName := ⟨RX9, "grossValue", "(I)J"⟩
abbrev cX9_retention : ByteArray := prog_11_method_55_code
def yX9_retention : MethodName := ⟨RX9, "retention", "(I)J"⟩
abbrev cX9_stage : ByteArray := prog_11_method_56_code
def yX9_stage : MethodName := ⟨RX9, "stage", "(I)I"⟩
abbrev cX9_margin : ByteArray := prog_11_method_57_code
def yX9_margin : MethodName := ⟨RX9, "margin", "(I)J"⟩
abbrev cX9_account : ByteArray := prog_11_method_58_code
def yX9_account : MethodName := ⟨RX9, "account", "(I)J"⟩
abbrev cX9_bill : ByteArray := prog_11_method_59_code
def yX9_bill : MethodName := ⟨RX9, "bill", "(I)I"⟩
abbrev cX9_openOf : ByteArray := prog_11_method_60_code
def yX9_openOf : MethodName := ⟨RX9, "openOf", "(I)J"⟩
abbrev cX9_certifiedOf : ByteArray := prog_11_method_61_code
def yX9_certifiedOf : MethodName := ⟨RX9, "certifiedOf", "(I)J"⟩
abbrev cX9_openBefore : ByteArray := prog_11_method_62_code
def yX9_openBefore : MethodName := ⟨RX9, "openBefore", "(IJ)J"⟩
abbrev cX9_unpaidOf : ByteArray := prog_11_method_63_code
def yX9_unpaidOf : MethodName := ⟨RX9, "unpaidOf", "(I)J"⟩
abbrev cX9_certified : ByteArray := prog_11_method_64_code
def yX9_certified : MethodName := ⟨RX9, "certified", "(I)J"⟩
abbrev cX9_unpaid : ByteArray := prog_11_method_65_code
def yX9_unpaid : MethodName := ⟨RX9, "unpaid", "(I)J"⟩
abbrev cX9_overdue : ByteArray := prog_11_method_66_code
def yX9_overdue : MethodName := ⟨RX9, "overdue", "(I)J"⟩
abbrev cX9_certificateCount : ByteArray := prog_11_method_67_code
def yX9_certificateCount : MethodName := ⟨RX9, "certificateCount", "()I"⟩
abbrev cX9_isBill : ByteArray := prog_11_method_68_code
def yX9_isBill : MethodName := ⟨RX9, "isBill", "(I)Z"⟩
abbrev cX9_certificateContract : ByteArray := prog_11_method_69_code
def yX9_certificateContract : MethodName := ⟨RX9, "certificateContract", "(I)I"⟩
abbrev cX9_amount : ByteArray := prog_11_method_70_code
def yX9_amount : MethodName := ⟨RX9, "amount", "(I)J"⟩
abbrev cX9_openAmount : ByteArray := prog_11_method_71_code
def yX9_openAmount : MethodName := ⟨RX9, "openAmount", "(I)J"⟩
abbrev cX9_dueDay : ByteArray := prog_11_method_72_code
def yX9_dueDay : MethodName := ⟨RX9, "dueDay", "(I)I"⟩
abbrev cX9_isHeld : ByteArray := prog_11_method_73_code
def yX9_isHeld : MethodName := ⟨RX9, "isHeld", "(I)Z"⟩
abbrev cX9_isBlocked : ByteArray := prog_11_method_74_code
def yX9_isBlocked : MethodName := ⟨RX9, "isBlocked", "(I)Z"⟩
abbrev cX9_dueBetween : ByteArray := prog_11_method_75_code
def yX9_dueBetween : MethodName := ⟨RX9, "dueBetween", "(II)J"⟩
abbrev cX9_payerOf : ByteArray := prog_11_method_76_code
def yX9_payerOf : MethodName := ⟨RX9, "payerOf", "(I)I"⟩
abbrev cX9_pays : ByteArray := prog_11_method_77_code
def yX9_pays : MethodName := ⟨RX9, "pays", "(IJ)V"⟩
abbrev cX9_dueNext : ByteArray := prog_11_method_78_code
def yX9_dueNext : MethodName := ⟨RX9, "dueNext", "(JIJ)I"⟩
abbrev cX9_settles : ByteArray := prog_11_method_79_code
def yX9_settles : MethodName := ⟨RX9, "settles", "()J"⟩
abbrev cX9_settleDays : ByteArray := prog_11_method_80_code
def yX9_settleDays : MethodName := ⟨RX9, "settleDays", "(II)I"⟩
abbrev cX9_variationCount : ByteArray := prog_11_method_81_code
def yX9_variationCount : MethodName := ⟨RX9, "variationCount", "()I"⟩
abbrev cX9_isVariation : ByteArray := prog_11_method_82_code
def yX9_isVariation : MethodName := ⟨RX9, "isVariation", "(I)Z"⟩
abbrev cX9_isApproved : ByteArray := prog_11_method_83_code
def yX9_isApproved : MethodName := ⟨RX9, "isApproved", "(I)Z"⟩
abbrev cX9_quantityBy : ByteArray := prog_11_method_84_code
def yX9_quantityBy : MethodName := ⟨RX9, "quantityBy", "(I)J"⟩
abbrev cX9_variationWorth : ByteArray := prog_11_method_85_code
def yX9_variationWorth : MethodName := ⟨RX9, "variationWorth", "(I)J"⟩
abbrev cX9_lien : ByteArray := prog_11_method_86_code
def yX9_lien : MethodName := ⟨RX9, "lien", "(I)I"⟩
abbrev cX9_lienCount : ByteArray := prog_11_method_87_code
def yX9_lienCount : MethodName := ⟨RX9, "lienCount", "()I"⟩
abbrev cX9_isLien : ByteArray := prog_11_method_88_code
def yX9_isLien : MethodName := ⟨RX9, "isLien", "(I)Z"⟩
abbrev cX9_claimOf : ByteArray := prog_11_method_89_code
def yX9_claimOf : MethodName := ⟨RX9, "claimOf", "(I)J"⟩
abbrev cX9_claim : ByteArray := prog_11_method_90_code
def yX9_claim : MethodName := ⟨RX9, "claim", "(I)J"⟩
abbrev cX9_rankOf : ByteArray := prog_11_method_91_code
def yX9_rankOf : MethodName := ⟨RX9, "rankOf", "(I)J"⟩
abbrev cX9_isAhead : ByteArray := prog_11_method_92_code
def yX9_isAhead : MethodName := ⟨RX9, "isAhead", "(II)Z"⟩
abbrev cX9_placeOf : ByteArray := prog_11_method_93_code
def yX9_placeOf : MethodName := ⟨RX9, "placeOf", "(I)I"⟩
abbrev cX9_priority : ByteArray := prog_11_method_94_code
def yX9_priority : MethodName := ⟨RX9, "priority", "(I)I"⟩
abbrev cX9_claimsOf : ByteArray := prog_11_method_95_code
def yX9_claimsOf : MethodName := ⟨RX9, "claimsOf", "(J)J"⟩
abbrev cX9_aheadWith : ByteArray := prog_11_method_96_code
def yX9_aheadWith : MethodName := ⟨RX9, "aheadWith", "(IJJ)J"⟩
abbrev cX9_partsOf : ByteArray := prog_11_method_97_code
def yX9_partsOf : MethodName := ⟨RX9, "partsOf", "(JJJ)J"⟩
abbrev cX9_share : ByteArray := prog_11_method_98_code
def yX9_share : MethodName := ⟨RX9, "share", "(II)J"⟩
abbrev cX9_measure : ByteArray := prog_11_method_99_code
def yX9_measure : MethodName := ⟨RX9, "measure", "(III)I"⟩
abbrev cX9_propose : ByteArray := prog_11_method_100_code
def yX9_propose : MethodName := ⟨RX9, "propose", "(III)I"⟩
abbrev cX9_approve : ByteArray := prog_11_method_101_code
def yX9_approve : MethodName := ⟨RX9, "approve", "(I)I"⟩
abbrev cX9_certify : ByteArray := prog_11_method_102_code
def yX9_certify : MethodName := ⟨RX9, "certify", "(I)I"⟩
abbrev cX9_isDone : ByteArray := prog_11_method_103_code
def yX9_isDone : MethodName := ⟨RX9, "isDone", "(I)Z"⟩
abbrev cX9_nextStage : ByteArray := prog_11_method_104_code
def yX9_nextStage : MethodName := ⟨RX9, "nextStage", "(I)I"⟩
abbrev cX9_pay : ByteArray := prog_11_method_105_code
def yX9_pay : MethodName := ⟨RX9, "pay", "(II)J"⟩
abbrev cX9_deposit : ByteArray := prog_11_method_106_code
def yX9_deposit : MethodName := ⟨RX9, "deposit", "(I)J"⟩
abbrev cX9_pass : ByteArray := prog_11_method_107_code
def yX9_pass : MethodName := ⟨RX9, "pass", "(I)I"⟩
abbrev cX9_settle : ByteArray := prog_11_method_108_code
def yX9_settle : MethodName := ⟨RX9, "settle", "(I)J"⟩
abbrev cX9_hasClaim : ByteArray := prog_11_method_109_code
def yX9_hasClaim : MethodName := ⟨RX9, "hasClaim", "(I)Z"⟩
abbrev cX9_fileLien : ByteArray := prog_11_method_110_code
def yX9_fileLien : MethodName := ⟨RX9, "fileLien", "(I)I"⟩
abbrev cX9_withdrawLien : ByteArray := prog_11_method_111_code
def yX9_withdrawLien : MethodName := ⟨RX9, "withdrawLien", "(I)J"⟩
abbrev cX9_undo : ByteArray := prog_11_method_112_code
def yX9_undo : MethodName := ⟨RX9, "undo", "()I"⟩
abbrev cX9_checksum : ByteArray := prog_11_method_113_code
def yX9_checksum : MethodName := ⟨RX9, "checksum", "()J"⟩
def RJ9 : String := "java/lang/Math"
def TJ9 : u_T := fun k => match k with
  | _ => ("", "", "", false)
def tyJ9 : Nat → FieldType := fun k => match k with
  | _ => .int
abbrev wsJ90 : List Cond := u_ws RJ9 TJ9 0
theorem nmJ9 : ∀ a, a < 0 → ∀ b, b < 0 → a ≠ b → (TJ9 a).2.1 ≠ (TJ9 b).2.1 := by decide +kernel
theorem tyJ9_ok : ∀ k, k < 0 → parseFieldDescriptor (TJ9 k).2.2.1 = some (tyJ9 k) := by decide +kernel
abbrev cJ9_max_7cf53 : ByteArray := prog_16_method_65_code
def yJ9_max_7cf53 : MethodName := ⟨RJ9, "max", "(II)I"⟩
abbrev cJ9_max_f86c9 : ByteArray := prog_16_method_66_code
def yJ9_max_f86c9 : MethodName := ⟨RJ9, "max", "(JJ)J"⟩
abbrev cJ9_min_7cf53 : ByteArray := prog_16_method_69_code
def yJ9_min_7cf53 : MethodName := ⟨RJ9, "min", "(II)I"⟩
abbrev cJ9_min_f86c9 : ByteArray := prog_16_method_70_code
def yJ9_min_f86c9 : MethodName := ⟨RJ9, "min", "(JJ)J"⟩
def RJ0 : String := "java/lang/String"
def TJ0 : u_T := fun k => match k with
  | _ => ("", "", "", false)
def tyJ0 : Nat → FieldType := fun k => match k with
  | _ => .int
abbrev wsJ00 : List Cond := u_ws RJ0 TJ0 0
theorem nmJ0 : ∀ a, a < 0 → ∀ b, b < 0 → a ≠ b → (TJ0 a).2.1 ≠ (TJ0 b).2.1 := by decide +kernel
theorem tyJ0_ok : ∀ k, k < 0 → parseFieldDescriptor (TJ0 k).2.2.1 = some (tyJ0 k) := by decide +kernel
abbrev cJ0_length_8abf5 : ByteArray := prog_18_method_54_code
def yJ0_length_8abf5 : MethodName := ⟨RJ0, "length", "()I"⟩
abbrev cJ0_charAt_5068e : ByteArray := prog_18_method_56_code
def yJ0_charAt_5068e : MethodName := ⟨RJ0, "charAt", "(I)C"⟩
abbrev cJ0_coder_7d493 : ByteArray := prog_18_method_152_code
def yJ0_coder_7d493 : MethodName := ⟨RJ0, "coder", "()B"⟩
abbrev cJ0_isLatin1_aae02 : ByteArray := prog_18_method_154_code
def yJ0_isLatin1_aae02 : MethodName := ⟨RJ0, "isLatin1", "()Z"⟩
abbrev cJ0_checkIndex_df160 : ByteArray := prog_18_method_155_code
def yJ0_checkIndex_df160 : MethodName := ⟨RJ0, "checkIndex", "(II)V"⟩
def RJ1 : String := "java/lang/StringLatin1"
def TJ1 : u_T := fun k => match k with
  | _ => ("", "", "", false)
def tyJ1 : Nat → FieldType := fun k => match k with
  | _ => .int
abbrev wsJ10 : List Cond := u_ws RJ1 TJ1 0
theorem nmJ1 : ∀ a, a < 0 → ∀ b, b < 0 → a ≠ b → (TJ1 a).2.1 ≠ (TJ1 b).2.1 := by decide +kernel
theorem tyJ1_ok : ∀ k, k < 0 → parseFieldDescriptor (TJ1 k).2.2.1 = some (tyJ1 k) := by decide +kernel
abbrev cJ1_charAt_3b067 : ByteArray := prog_19_method_2_code
def yJ1_charAt_3b067 : MethodName := ⟨RJ1, "charAt", "([BI)C"⟩
def RJ2 : String := "java/lang/StringUTF16"
def TJ2 : u_T := fun k => match k with
  | _ => ("", "", "", false)
def tyJ2 : Nat → FieldType := fun k => match k with
  | _ => .int
abbrev wsJ20 : List Cond := u_ws RJ2 TJ2 0
theorem nmJ2 : ∀ a, a < 0 → ∀ b, b < 0 → a ≠ b → (TJ2 a).2.1 ≠ (TJ2 b).2.1 := by decide +kernel
theorem tyJ2_ok : ∀ k, k < 0 → parseFieldDescriptor (TJ2 k).2.2.1 = some (tyJ2 k) := by decide +kernel
abbrev cJ2_getChar_3b067 : ByteArray := prog_20_method_5_code
def yJ2_getChar_3b067 : MethodName := ⟨RJ2, "getChar", "([BI)C"⟩
abbrev cJ2_length_9d52b : ByteArray := prog_20_method_6_code
def yJ2_length_9d52b : MethodName := ⟨RJ2, "length", "([B)I"⟩
abbrev cJ2_charAt_3b067 : ByteArray := prog_20_method_83_code
def yJ2_charAt_3b067 : MethodName := ⟨RJ2, "charAt", "([BI)C"⟩
abbrev cJ2_checkIndex_2214a : ByteArray := prog_20_method_91_code
def yJ2_checkIndex_2214a : MethodName := ⟨RJ2, "checkIndex", "(I[B)V"⟩
def RJ10 : String := "java/lang/System"
def TJ10 : u_T := fun k => match k with
  | _ => ("", "", "", false)
def tyJ10 : Nat → FieldType := fun k => match k with
  | _ => .int
abbrev wsJ100 : List Cond := u_ws RJ10 TJ10 0
theorem nmJ10 : ∀ a, a < 0 → ∀ b, b < 0 → a ≠ b → (TJ10 a).2.1 ≠ (TJ10 b).2.1 := by decide +kernel
theorem tyJ10_ok : ∀ k, k < 0 → parseFieldDescriptor (TJ10 k).2.2.1 = some (tyJ10 k) := by decide +kernel
def RJ3 : String := "jdk/internal/util/Preconditions"
def TJ3 : u_T := fun k => match k with
  | _ => ("", "", "", false)
def tyJ3 : Nat → FieldType := fun k => match k with
  | _ => .int
abbrev wsJ30 : List Cond := u_ws RJ3 TJ3 0
theorem nmJ3 : ∀ a, a < 0 → ∀ b, b < 0 → a ≠ b → (TJ3 a).2.1 ≠ (TJ3 b).2.1 := by decide +kernel
theorem tyJ3_ok : ∀ k, k < 0 → parseFieldDescriptor (TJ3 k).2.2.1 = some (tyJ3 k) := by decide +kernel
abbrev cJ3_checkIndex_8e157 : ByteArray := prog_23_method_11_code
def yJ3_checkIndex_8e157 : MethodName := ⟨RJ3, "checkIndex", "(IILjava/util/function/BiFunction;)I"⟩
def RL : String := "ConstructionLedgerLaw"
abbrev cL_load : ByteArray := method_3_code
def yL_load : MethodName := ⟨RL, "load", "(LConstructionLedger;I[J)I"⟩
abbrev cL_parent : ByteArray := method_4_code
def yL_parent : MethodName := ⟨RL, "parent", "(LConstructionLedger;I[J)I"⟩
abbrev cL_itemCount : ByteArray := method_5_code
def yL_itemCount : MethodName := ⟨RL, "itemCount", "(LConstructionLedger;I[J)I"⟩
abbrev cL_quantity : ByteArray := method_6_code
def yL_quantity : MethodName := ⟨RL, "quantity", "(LConstructionLedger;II[J)I"⟩
abbrev cL_specialRate : ByteArray := method_7_code
def yL_specialRate : MethodName := ⟨RL, "specialRate", "(LConstructionLedger;II[J)I"⟩
abbrev cL_itemValue : ByteArray := method_8_code
def yL_itemValue : MethodName := ⟨RL, "itemValue", "(LConstructionLedger;II[J)I"⟩
abbrev cL_firstSum : ByteArray := method_9_code
def yL_firstSum : MethodName := ⟨RL, "firstSum", "(LConstructionLedger;I[J)I"⟩
abbrev cL_presentSum : ByteArray := method_10_code
def yL_presentSum : MethodName := ⟨RL, "presentSum", "(LConstructionLedger;I[J)I"⟩
abbrev cL_grossValue : ByteArray := method_11_code
def yL_grossValue : MethodName := ⟨RL, "grossValue", "(LConstructionLedger;I[J)I"⟩
abbrev cL_retention : ByteArray := method_12_code
def yL_retention : MethodName := ⟨RL, "retention", "(LConstructionLedger;I[J)I"⟩
abbrev cL_certified : ByteArray := method_13_code
def yL_certified : MethodName := ⟨RL, "certified", "(LConstructionLedger;I[J)I"⟩
abbrev cL_unpaid : ByteArray := method_14_code
def yL_unpaid : MethodName := ⟨RL, "unpaid", "(LConstructionLedger;I[J)I"⟩
abbrev cL_overdue : ByteArray := method_15_code
def yL_overdue : MethodName := ⟨RL, "overdue", "(LConstructionLedger;I[J)I"⟩
abbrev cL_stage : ByteArray := method_16_code
def yL_stage : MethodName := ⟨RL, "stage", "(LConstructionLedger;I[J)I"⟩
abbrev cL_margin : ByteArray := method_17_code
def yL_margin : MethodName := ⟨RL, "margin", "(LConstructionLedger;I[J)I"⟩
abbrev cL_account : ByteArray := method_18_code
def yL_account : MethodName := ⟨RL, "account", "(LConstructionLedger;I[J)I"⟩
abbrev cL_certificateContract : ByteArray := method_19_code
def yL_certificateContract : MethodName := ⟨RL, "certificateContract", "(LConstructionLedger;I[J)I"⟩
abbrev cL_amount : ByteArray := method_20_code
def yL_amount : MethodName := ⟨RL, "amount", "(LConstructionLedger;I[J)I"⟩
abbrev cL_openAmount : ByteArray := method_21_code
def yL_openAmount : MethodName := ⟨RL, "openAmount", "(LConstructionLedger;I[J)I"⟩
abbrev cL_dueDay : ByteArray := method_22_code
def yL_dueDay : MethodName := ⟨RL, "dueDay", "(LConstructionLedger;I[J)I"⟩
abbrev cL_isBlocked : ByteArray := method_23_code
def yL_isBlocked : MethodName := ⟨RL, "isBlocked", "(LConstructionLedger;I[J)I"⟩
abbrev cL_settleDays : ByteArray := method_24_code
def yL_settleDays : MethodName := ⟨RL, "settleDays", "(LConstructionLedger;II[J)I"⟩
abbrev cL_isApproved : ByteArray := method_25_code
def yL_isApproved : MethodName := ⟨RL, "isApproved", "(LConstructionLedger;I[J)I"⟩
abbrev cL_variationWorth : ByteArray := method_26_code
def yL_variationWorth : MethodName := ⟨RL, "variationWorth", "(LConstructionLedger;I[J)I"⟩
abbrev cL_claim : ByteArray := method_27_code
def yL_claim : MethodName := ⟨RL, "claim", "(LConstructionLedger;I[J)I"⟩
abbrev cL_priority : ByteArray := method_28_code
def yL_priority : MethodName := ⟨RL, "priority", "(LConstructionLedger;I[J)I"⟩
abbrev cL_share : ByteArray := method_29_code
def yL_share : MethodName := ⟨RL, "share", "(LConstructionLedger;II[J)I"⟩
abbrev cL_measure : ByteArray := method_30_code
def yL_measure : MethodName := ⟨RL, "measure", "(LConstructionLedger;III[J)I"⟩
abbrev cL_propose : ByteArray := method_31_code
def yL_propose : MethodName := ⟨RL, "propose", "(LConstructionLedger;III[J)I"⟩
abbrev cL_approve : ByteArray := method_32_code
def yL_approve : MethodName := ⟨RL, "approve", "(LConstructionLedger;I[J)I"⟩
abbrev cL_certify : ByteArray := method_33_code
def yL_certify : MethodName := ⟨RL, "certify", "(LConstructionLedger;I[J)I"⟩
abbrev cL_nextStage : ByteArray := method_34_code
def yL_nextStage : MethodName := ⟨RL, "nextStage", "(LConstructionLedger;I[J)I"⟩
abbrev cL_pay : ByteArray := method_35_code
def yL_pay : MethodName := ⟨RL, "pay", "(LConstructionLedger;II[J)I"⟩
abbrev cL_deposit : ByteArray := method_36_code
def yL_deposit : MethodName := ⟨RL, "deposit", "(LConstructionLedger;I[J)I"⟩
abbrev cL_pass : ByteArray := method_37_code
def yL_pass : MethodName := ⟨RL, "pass", "(LConstructionLedger;I[J)I"⟩
abbrev cL_settle : ByteArray := method_38_code
def yL_settle : MethodName := ⟨RL, "settle", "(LConstructionLedger;I[J)I"⟩
abbrev cL_fileLien : ByteArray := method_39_code
def yL_fileLien : MethodName := ⟨RL, "fileLien", "(LConstructionLedger;I[J)I"⟩
abbrev cL_withdrawLien : ByteArray := method_40_code
def yL_withdrawLien : MethodName := ⟨RL, "withdrawLien", "(LConstructionLedger;I[J)I"⟩
abbrev cL_law : ByteArray := code
def yL_law : MethodName := ⟨RL, "law", "([I)Z"⟩
abbrev vwCl : List vw_C := [(RX0, TX0, 6), (RX1, TX1, 8), (RX2, TX2, 5), (RX3, TX3, 5), (RX4, TX4, 4), (RX5, TX5, 9), (RX6, TX6, 12), (RX7, TX7, 4), (RX8, TX8, 5), (RX9, TX9, 17)]
def zG : List Cond := lw_tbl.filter goodWord
theorem zG_in {w : Cond} (i : Nat) (h : lw_tbl[i]? = some w) (hg : goodWord w = true) : w ∈ zG := List.mem_filter.mpr ⟨List.mem_of_getElem? h, hg⟩
