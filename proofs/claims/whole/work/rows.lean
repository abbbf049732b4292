section
-- ===== PART A: goes FIRST, ahead of the names: the tables' words, and 'selects' of the private methods out of them =====
/-- a private method of a class that the tables say can be made, by its rows of tables_1 -/
def lw_okq (q : MethodName × Nat) : Prop := (q.1.cls ≠ "java/lang/invoke/MethodHandle" ∧ q.1.cls ≠ "java/lang/invoke/VarHandle") ∧ Cond.instantiable q.1.cls q.2 ∈ tables_1 ∧ Cond.privateMethod q.1 ∈ tables_1 ∧ Cond.instanceMethod q.1 ∈ tables_1
theorem lw_p0 : lw_okq (⟨"BeggarBridge$Shelves", "refusalOfRow", "(I)I"⟩, 3) := ⟨⟨by decide +kernel, by decide +kernel⟩, List.mem_of_getElem? (i := 322) (by decide +kernel), List.mem_of_getElem? (i := 418) (by decide +kernel), List.mem_of_getElem? (i := 419) (by decide +kernel)⟩
theorem lw_p1 : lw_okq (⟨"BeggarBridge$Shelves", "isRow", "(I)Z"⟩, 3) := ⟨⟨by decide +kernel, by decide +kernel⟩, List.mem_of_getElem? (i := 322) (by decide +kernel), List.mem_of_getElem? (i := 427) (by decide +kernel), List.mem_of_getElem? (i := 428) (by decide +kernel)⟩
theorem lw_p2 : lw_okq (⟨"BeggarBridge", "comes", "(II)Z"⟩, 11) := ⟨⟨by decide +kernel, by decide +kernel⟩, List.mem_of_getElem? (i := 19) (by decide +kernel), List.mem_of_getElem? (i := 436) (by decide +kernel), List.mem_of_getElem? (i := 437) (by decide +kernel)⟩
theorem lw_p3 : lw_okq (⟨"BeggarBridge$County", "numbersOf", "(I)[I"⟩, 15) := ⟨⟨by decide +kernel, by decide +kernel⟩, List.mem_of_getElem? (i := 27) (by decide +kernel), List.mem_of_getElem? (i := 462) (by decide +kernel), List.mem_of_getElem? (i := 463) (by decide +kernel)⟩
theorem lw_p4 : lw_okq (⟨"BeggarBridge$Changes", "dropOldest", "()V"⟩, 6) := ⟨⟨by decide +kernel, by decide +kernel⟩, List.mem_of_getElem? (i := 253) (by decide +kernel), List.mem_of_getElem? (i := 471) (by decide +kernel), List.mem_of_getElem? (i := 472) (by decide +kernel)⟩
theorem lw_p5 : lw_okq (⟨"BeggarBridge$Tape", "line", "()V"⟩, 7) := ⟨⟨by decide +kernel, by decide +kernel⟩, List.mem_of_getElem? (i := 96) (by decide +kernel), List.mem_of_getElem? (i := 502) (by decide +kernel), List.mem_of_getElem? (i := 503) (by decide +kernel)⟩
theorem lw_p6 : lw_okq (⟨"BeggarBridge$Tape", "climb", "(II)V"⟩, 7) := ⟨⟨by decide +kernel, by decide +kernel⟩, List.mem_of_getElem? (i := 96) (by decide +kernel), List.mem_of_getElem? (i := 506) (by decide +kernel), List.mem_of_getElem? (i := 507) (by decide +kernel)⟩
theorem lw_p7 : lw_okq (⟨"BeggarBridge$Tape", "operand", "(I)V"⟩, 7) := ⟨⟨by decide +kernel, by decide +kernel⟩, List.mem_of_getElem? (i := 96) (by decide +kernel), List.mem_of_getElem? (i := 510) (by decide +kernel), List.mem_of_getElem? (i := 511) (by decide +kernel)⟩
theorem lw_p8 : lw_okq (⟨"BeggarBridge$Tape", "peek", "()I"⟩, 7) := ⟨⟨by decide +kernel, by decide +kernel⟩, List.mem_of_getElem? (i := 96) (by decide +kernel), List.mem_of_getElem? (i := 514) (by decide +kernel), List.mem_of_getElem? (i := 515) (by decide +kernel)⟩
theorem lw_p9 : lw_okq (⟨"BeggarBridge$Tape", "number", "()V"⟩, 7) := ⟨⟨by decide +kernel, by decide +kernel⟩, List.mem_of_getElem? (i := 96) (by decide +kernel), List.mem_of_getElem? (i := 521) (by decide +kernel), List.mem_of_getElem? (i := 522) (by decide +kernel)⟩
theorem lw_p10 : lw_okq (⟨"BeggarBridge$Tape", "emit", "(II)V"⟩, 7) := ⟨⟨by decide +kernel, by decide +kernel⟩, List.mem_of_getElem? (i := 96) (by decide +kernel), List.mem_of_getElem? (i := 525) (by decide +kernel), List.mem_of_getElem? (i := 526) (by decide +kernel)⟩
theorem lw_p11 : lw_okq (⟨"BeggarBridge$Tape", "enclosed", "(I)V"⟩, 7) := ⟨⟨by decide +kernel, by decide +kernel⟩, List.mem_of_getElem? (i := 96) (by decide +kernel), List.mem_of_getElem? (i := 532) (by decide +kernel), List.mem_of_getElem? (i := 533) (by decide +kernel)⟩
theorem lw_p12 : lw_okq (⟨"BeggarBridge$County", "tallyOne", "(I)V"⟩, 15) := ⟨⟨by decide +kernel, by decide +kernel⟩, List.mem_of_getElem? (i := 27) (by decide +kernel), List.mem_of_getElem? (i := 560) (by decide +kernel), List.mem_of_getElem? (i := 561) (by decide +kernel)⟩
theorem lw_p13 : lw_okq (⟨"BeggarBridge$Law", "worth", "()I"⟩, 5) := ⟨⟨by decide +kernel, by decide +kernel⟩, List.mem_of_getElem? (i := 128) (by decide +kernel), List.mem_of_getElem? (i := 578) (by decide +kernel), List.mem_of_getElem? (i := 579) (by decide +kernel)⟩
theorem lw_p14 : lw_okq (⟨"BeggarBridge$Thought", "prefer", "(II)V"⟩, 10) := ⟨⟨by decide +kernel, by decide +kernel⟩, List.mem_of_getElem? (i := 150) (by decide +kernel), List.mem_of_getElem? (i := 691) (by decide +kernel), List.mem_of_getElem? (i := 692) (by decide +kernel)⟩
theorem lw_p15 : lw_okq (⟨"BeggarBridge$Seats", "finds", "(II)Z"⟩, 4) := ⟨⟨by decide +kernel, by decide +kernel⟩, List.mem_of_getElem? (i := 221) (by decide +kernel), List.mem_of_getElem? (i := 712) (by decide +kernel), List.mem_of_getElem? (i := 713) (by decide +kernel)⟩
def lw_privs_1 : List (MethodName × Nat) := [(⟨"BeggarBridge$Shelves", "refusalOfRow", "(I)I"⟩, 3), (⟨"BeggarBridge$Shelves", "isRow", "(I)Z"⟩, 3), (⟨"BeggarBridge", "comes", "(II)Z"⟩, 11), (⟨"BeggarBridge$County", "numbersOf", "(I)[I"⟩, 15), (⟨"BeggarBridge$Changes", "dropOldest", "()V"⟩, 6), (⟨"BeggarBridge$Tape", "line", "()V"⟩, 7), (⟨"BeggarBridge$Tape", "climb", "(II)V"⟩, 7), (⟨"BeggarBridge$Tape", "operand", "(I)V"⟩, 7), (⟨"BeggarBridge$Tape", "peek", "()I"⟩, 7), (⟨"BeggarBridge$Tape", "number", "()V"⟩, 7), (⟨"BeggarBridge$Tape", "emit", "(II)V"⟩, 7), (⟨"BeggarBridge$Tape", "enclosed", "(I)V"⟩, 7), (⟨"BeggarBridge$County", "tallyOne", "(I)V"⟩, 15), (⟨"BeggarBridge$Law", "worth", "()I"⟩, 5), (⟨"BeggarBridge$Thought", "prefer", "(II)V"⟩, 10), (⟨"BeggarBridge$Seats", "finds", "(II)Z"⟩, 4)]
theorem lw_r1 : ∀ q ∈ lw_privs_1, lw_okq q := List.forall_mem_cons.mpr ⟨lw_p0, List.forall_mem_cons.mpr ⟨lw_p1, List.forall_mem_cons.mpr ⟨lw_p2, List.forall_mem_cons.mpr ⟨lw_p3, List.forall_mem_cons.mpr ⟨lw_p4, List.forall_mem_cons.mpr ⟨lw_p5, List.forall_mem_cons.mpr ⟨lw_p6, List.forall_mem_cons.mpr ⟨lw_p7, List.forall_mem_cons.mpr ⟨lw_p8, List.forall_mem_cons.mpr ⟨lw_p9, List.forall_mem_cons.mpr ⟨lw_p10, List.forall_mem_cons.mpr ⟨lw_p11, List.forall_mem_cons.mpr ⟨lw_p12, List.forall_mem_cons.mpr ⟨lw_p13, List.forall_mem_cons.mpr ⟨lw_p14, List.forall_mem_cons.mpr ⟨lw_p15, fun _ h => absurd h List.not_mem_nil⟩⟩⟩⟩⟩⟩⟩⟩⟩⟩⟩⟩⟩⟩⟩⟩
theorem lw_p16 : lw_okq (⟨"BeggarBridge$Seats", "firstFor", "(III)I"⟩, 4) := ⟨⟨by decide +kernel, by decide +kernel⟩, List.mem_of_getElem? (i := 221) (by decide +kernel), List.mem_of_getElem? (i := 721) (by decide +kernel), List.mem_of_getElem? (i := 722) (by decide +kernel)⟩
theorem lw_p17 : lw_okq (⟨"BeggarBridge$Ways", "shorten", "(I)V"⟩, 2) := ⟨⟨by decide +kernel, by decide +kernel⟩, List.mem_of_getElem? (i := 240) (by decide +kernel), List.mem_of_getElem? (i := 737) (by decide +kernel), List.mem_of_getElem? (i := 738) (by decide +kernel)⟩
theorem lw_p18 : lw_okq (⟨"BeggarBridge$Ways", "isWay", "(III)Z"⟩, 2) := ⟨⟨by decide +kernel, by decide +kernel⟩, List.mem_of_getElem? (i := 240) (by decide +kernel), List.mem_of_getElem? (i := 753) (by decide +kernel), List.mem_of_getElem? (i := 754) (by decide +kernel)⟩
theorem lw_p19 : lw_okq (⟨"BeggarBridge$Turns", "engineer", "(III)I"⟩, 6) := ⟨⟨by decide +kernel, by decide +kernel⟩, List.mem_of_getElem? (i := 193) (by decide +kernel), List.mem_of_getElem? (i := 813) (by decide +kernel), List.mem_of_getElem? (i := 814) (by decide +kernel)⟩
theorem lw_p20 : lw_okq (⟨"BeggarBridge$Turns", "banker", "(III)I"⟩, 6) := ⟨⟨by decide +kernel, by decide +kernel⟩, List.mem_of_getElem? (i := 193) (by decide +kernel), List.mem_of_getElem? (i := 821) (by decide +kernel), List.mem_of_getElem? (i := 822) (by decide +kernel)⟩
theorem lw_p21 : lw_okq (⟨"BeggarBridge$Arches", "own", "(IIII)I"⟩, 4) := ⟨⟨by decide +kernel, by decide +kernel⟩, List.mem_of_getElem? (i := 301) (by decide +kernel), List.mem_of_getElem? (i := 931) (by decide +kernel), List.mem_of_getElem? (i := 932) (by decide +kernel)⟩
theorem lw_p22 : lw_okq (⟨"BeggarBridge$Arches", "run", "(IIIII)I"⟩, 4) := ⟨⟨by decide +kernel, by decide +kernel⟩, List.mem_of_getElem? (i := 301) (by decide +kernel), List.mem_of_getElem? (i := 939) (by decide +kernel), List.mem_of_getElem? (i := 940) (by decide +kernel)⟩
theorem lw_p23 : lw_okq (⟨"BeggarBridge$Arches", "note", "(I)V"⟩, 4) := ⟨⟨by decide +kernel, by decide +kernel⟩, List.mem_of_getElem? (i := 301) (by decide +kernel), List.mem_of_getElem? (i := 953) (by decide +kernel), List.mem_of_getElem? (i := 954) (by decide +kernel)⟩
theorem lw_p24 : lw_okq (⟨"BeggarBridgeModel", "mayCome", "(JJJJ)Z"⟩, 50) := ⟨⟨by decide +kernel, by decide +kernel⟩, List.mem_of_getElem? (i := 1045) (by decide +kernel), List.mem_of_getElem? (i := 1230) (by decide +kernel), List.mem_of_getElem? (i := 1231) (by decide +kernel)⟩
theorem lw_p25 : lw_okq (⟨"BeggarBridgeModel", "maySit", "(J)Z"⟩, 50) := ⟨⟨by decide +kernel, by decide +kernel⟩, List.mem_of_getElem? (i := 1045) (by decide +kernel), List.mem_of_getElem? (i := 1235) (by decide +kernel), List.mem_of_getElem? (i := 1236) (by decide +kernel)⟩
theorem lw_p26 : lw_okq (⟨"BeggarBridgeModel", "isBridge", "(J)Z"⟩, 50) := ⟨⟨by decide +kernel, by decide +kernel⟩, List.mem_of_getElem? (i := 1045) (by decide +kernel), List.mem_of_getElem? (i := 1239) (by decide +kernel), List.mem_of_getElem? (i := 1240) (by decide +kernel)⟩
theorem lw_p27 : lw_okq (⟨"BeggarBridgeModel", "adds", "(IIII)V"⟩, 50) := ⟨⟨by decide +kernel, by decide +kernel⟩, List.mem_of_getElem? (i := 1045) (by decide +kernel), List.mem_of_getElem? (i := 1243) (by decide +kernel), List.mem_of_getElem? (i := 1244) (by decide +kernel)⟩
theorem lw_p28 : lw_okq (⟨"BeggarBridgeModel", "placeOf", "(II)I"⟩, 50) := ⟨⟨by decide +kernel, by decide +kernel⟩, List.mem_of_getElem? (i := 1045) (by decide +kernel), List.mem_of_getElem? (i := 1259) (by decide +kernel), List.mem_of_getElem? (i := 1260) (by decide +kernel)⟩
theorem lw_p29 : lw_okq (⟨"BeggarBridgeModel", "isBeggar", "(J)Z"⟩, 50) := ⟨⟨by decide +kernel, by decide +kernel⟩, List.mem_of_getElem? (i := 1045) (by decide +kernel), List.mem_of_getElem? (i := 1266) (by decide +kernel), List.mem_of_getElem? (i := 1267) (by decide +kernel)⟩
theorem lw_p30 : lw_okq (⟨"BeggarBridgeModel", "mayBecome", "(II)Z"⟩, 50) := ⟨⟨by decide +kernel, by decide +kernel⟩, List.mem_of_getElem? (i := 1045) (by decide +kernel), List.mem_of_getElem? (i := 1271) (by decide +kernel), List.mem_of_getElem? (i := 1272) (by decide +kernel)⟩
theorem lw_p31 : lw_okq (⟨"BeggarBridgeModel", "becomes", "(II)I"⟩, 50) := ⟨⟨by decide +kernel, by decide +kernel⟩, List.mem_of_getElem? (i := 1045) (by decide +kernel), List.mem_of_getElem? (i := 1275) (by decide +kernel), List.mem_of_getElem? (i := 1276) (by decide +kernel)⟩
def lw_privs_2 : List (MethodName × Nat) := [(⟨"BeggarBridge$Seats", "firstFor", "(III)I"⟩, 4), (⟨"BeggarBridge$Ways", "shorten", "(I)V"⟩, 2), (⟨"BeggarBridge$Ways", "isWay", "(III)Z"⟩, 2), (⟨"BeggarBridge$Turns", "engineer", "(III)I"⟩, 6), (⟨"BeggarBridge$Turns", "banker", "(III)I"⟩, 6), (⟨"BeggarBridge$Arches", "own", "(IIII)I"⟩, 4), (⟨"BeggarBridge$Arches", "run", "(IIIII)I"⟩, 4), (⟨"BeggarBridge$Arches", "note", "(I)V"⟩, 4), (⟨"BeggarBridgeModel", "mayCome", "(JJJJ)Z"⟩, 50), (⟨"BeggarBridgeModel", "maySit", "(J)Z"⟩, 50), (⟨"BeggarBridgeModel", "isBridge", "(J)Z"⟩, 50), (⟨"BeggarBridgeModel", "adds", "(IIII)V"⟩, 50), (⟨"BeggarBridgeModel", "placeOf", "(II)I"⟩, 50), (⟨"BeggarBridgeModel", "isBeggar", "(J)Z"⟩, 50), (⟨"BeggarBridgeModel", "mayBecome", "(II)Z"⟩, 50), (⟨"BeggarBridgeModel", "becomes", "(II)I"⟩, 50)]
theorem lw_r2 : ∀ q ∈ lw_privs_2, lw_okq q := List.forall_mem_cons.mpr ⟨lw_p16, List.forall_mem_cons.mpr ⟨lw_p17, List.forall_mem_cons.mpr ⟨lw_p18, List.forall_mem_cons.mpr ⟨lw_p19, List.forall_mem_cons.mpr ⟨lw_p20, List.forall_mem_cons.mpr ⟨lw_p21, List.forall_mem_cons.mpr ⟨lw_p22, List.forall_mem_cons.mpr ⟨lw_p23, List.forall_mem_cons.mpr ⟨lw_p24, List.forall_mem_cons.mpr ⟨lw_p25, List.forall_mem_cons.mpr ⟨lw_p26, List.forall_mem_cons.mpr ⟨lw_p27, List.forall_mem_cons.mpr ⟨lw_p28, List.forall_mem_cons.mpr ⟨lw_p29, List.forall_mem_cons.mpr ⟨lw_p30, List.forall_mem_cons.mpr ⟨lw_p31, fun _ h => absurd h List.not_mem_nil⟩⟩⟩⟩⟩⟩⟩⟩⟩⟩⟩⟩⟩⟩⟩⟩
theorem lw_p32 : lw_okq (⟨"BeggarBridgeModel", "reads", "()V"⟩, 50) := ⟨⟨by decide +kernel, by decide +kernel⟩, List.mem_of_getElem? (i := 1045) (by decide +kernel), List.mem_of_getElem? (i := 1293) (by decide +kernel), List.mem_of_getElem? (i := 1294) (by decide +kernel)⟩
theorem lw_p33 : lw_okq (⟨"BeggarBridgeModel", "either", "()V"⟩, 50) := ⟨⟨by decide +kernel, by decide +kernel⟩, List.mem_of_getElem? (i := 1045) (by decide +kernel), List.mem_of_getElem? (i := 1297) (by decide +kernel), List.mem_of_getElem? (i := 1298) (by decide +kernel)⟩
theorem lw_p34 : lw_okq (⟨"BeggarBridgeModel", "both", "()V"⟩, 50) := ⟨⟨by decide +kernel, by decide +kernel⟩, List.mem_of_getElem? (i := 1045) (by decide +kernel), List.mem_of_getElem? (i := 1301) (by decide +kernel), List.mem_of_getElem? (i := 1302) (by decide +kernel)⟩
theorem lw_p35 : lw_okq (⟨"BeggarBridgeModel", "compared", "()V"⟩, 50) := ⟨⟨by decide +kernel, by decide +kernel⟩, List.mem_of_getElem? (i := 1045) (by decide +kernel), List.mem_of_getElem? (i := 1305) (by decide +kernel), List.mem_of_getElem? (i := 1306) (by decide +kernel)⟩
theorem lw_p36 : lw_okq (⟨"BeggarBridgeModel", "sums", "()V"⟩, 50) := ⟨⟨by decide +kernel, by decide +kernel⟩, List.mem_of_getElem? (i := 1045) (by decide +kernel), List.mem_of_getElem? (i := 1309) (by decide +kernel), List.mem_of_getElem? (i := 1310) (by decide +kernel)⟩
theorem lw_p37 : lw_okq (⟨"BeggarBridgeModel", "product", "()V"⟩, 50) := ⟨⟨by decide +kernel, by decide +kernel⟩, List.mem_of_getElem? (i := 1045) (by decide +kernel), List.mem_of_getElem? (i := 1313) (by decide +kernel), List.mem_of_getElem? (i := 1314) (by decide +kernel)⟩
theorem lw_p38 : lw_okq (⟨"BeggarBridgeModel", "one", "()V"⟩, 50) := ⟨⟨by decide +kernel, by decide +kernel⟩, List.mem_of_getElem? (i := 1045) (by decide +kernel), List.mem_of_getElem? (i := 1317) (by decide +kernel), List.mem_of_getElem? (i := 1318) (by decide +kernel)⟩
theorem lw_p39 : lw_okq (⟨"BeggarBridgeModel", "byteAt", "()I"⟩, 50) := ⟨⟨by decide +kernel, by decide +kernel⟩, List.mem_of_getElem? (i := 1045) (by decide +kernel), List.mem_of_getElem? (i := 1321) (by decide +kernel), List.mem_of_getElem? (i := 1322) (by decide +kernel)⟩
theorem lw_p40 : lw_okq (⟨"BeggarBridgeModel", "openOne", "(I)V"⟩, 50) := ⟨⟨by decide +kernel, by decide +kernel⟩, List.mem_of_getElem? (i := 1045) (by decide +kernel), List.mem_of_getElem? (i := 1325) (by decide +kernel), List.mem_of_getElem? (i := 1326) (by decide +kernel)⟩
theorem lw_p41 : lw_okq (⟨"BeggarBridgeModel", "wrong", "()V"⟩, 50) := ⟨⟨by decide +kernel, by decide +kernel⟩, List.mem_of_getElem? (i := 1045) (by decide +kernel), List.mem_of_getElem? (i := 1329) (by decide +kernel), List.mem_of_getElem? (i := 1330) (by decide +kernel)⟩
theorem lw_p42 : lw_okq (⟨"BeggarBridgeModel", "takes", "(I)Z"⟩, 50) := ⟨⟨by decide +kernel, by decide +kernel⟩, List.mem_of_getElem? (i := 1045) (by decide +kernel), List.mem_of_getElem? (i := 1333) (by decide +kernel), List.mem_of_getElem? (i := 1334) (by decide +kernel)⟩
theorem lw_p43 : lw_okq (⟨"BeggarBridgeModel", "lays", "(I)V"⟩, 50) := ⟨⟨by decide +kernel, by decide +kernel⟩, List.mem_of_getElem? (i := 1045) (by decide +kernel), List.mem_of_getElem? (i := 1337) (by decide +kernel), List.mem_of_getElem? (i := 1338) (by decide +kernel)⟩
theorem lw_p44 : lw_okq (⟨"BeggarBridgeModel", "begins", "()V"⟩, 50) := ⟨⟨by decide +kernel, by decide +kernel⟩, List.mem_of_getElem? (i := 1045) (by decide +kernel), List.mem_of_getElem? (i := 1348) (by decide +kernel), List.mem_of_getElem? (i := 1349) (by decide +kernel)⟩
theorem lw_p45 : lw_okq (⟨"BeggarBridgeModel", "cracksNow", "(I)I"⟩, 50) := ⟨⟨by decide +kernel, by decide +kernel⟩, List.mem_of_getElem? (i := 1045) (by decide +kernel), List.mem_of_getElem? (i := 1352) (by decide +kernel), List.mem_of_getElem? (i := 1353) (by decide +kernel)⟩
theorem lw_p46 : lw_okq (⟨"BeggarBridgeModel", "sittingOn", "(IZ)I"⟩, 50) := ⟨⟨by decide +kernel, by decide +kernel⟩, List.mem_of_getElem? (i := 1045) (by decide +kernel), List.mem_of_getElem? (i := 1356) (by decide +kernel), List.mem_of_getElem? (i := 1357) (by decide +kernel)⟩
theorem lw_p47 : lw_okq (⟨"BeggarBridgeModel", "isPoor", "(I)Z"⟩, 50) := ⟨⟨by decide +kernel, by decide +kernel⟩, List.mem_of_getElem? (i := 1045) (by decide +kernel), List.mem_of_getElem? (i := 1360) (by decide +kernel), List.mem_of_getElem? (i := 1361) (by decide +kernel)⟩
def lw_privs_3 : List (MethodName × Nat) := [(⟨"BeggarBridgeModel", "reads", "()V"⟩, 50), (⟨"BeggarBridgeModel", "either", "()V"⟩, 50), (⟨"BeggarBridgeModel", "both", "()V"⟩, 50), (⟨"BeggarBridgeModel", "compared", "()V"⟩, 50), (⟨"BeggarBridgeModel", "sums", "()V"⟩, 50), (⟨"BeggarBridgeModel", "product", "()V"⟩, 50), (⟨"BeggarBridgeModel", "one", "()V"⟩, 50), (⟨"BeggarBridgeModel", "byteAt", "()I"⟩, 50), (⟨"BeggarBridgeModel", "openOne", "(I)V"⟩, 50), (⟨"BeggarBridgeModel", "wrong", "()V"⟩, 50), (⟨"BeggarBridgeModel", "takes", "(I)Z"⟩, 50), (⟨"BeggarBridgeModel", "lays", "(I)V"⟩, 50), (⟨"BeggarBridgeModel", "begins", "()V"⟩, 50), (⟨"BeggarBridgeModel", "cracksNow", "(I)I"⟩, 50), (⟨"BeggarBridgeModel", "sittingOn", "(IZ)I"⟩, 50), (⟨"BeggarBridgeModel", "isPoor", "(I)Z"⟩, 50)]
theorem lw_r3 : ∀ q ∈ lw_privs_3, lw_okq q := List.forall_mem_cons.mpr ⟨lw_p32, List.forall_mem_cons.mpr ⟨lw_p33, List.forall_mem_cons.mpr ⟨lw_p34, List.forall_mem_cons.mpr ⟨lw_p35, List.forall_mem_cons.mpr ⟨lw_p36, List.forall_mem_cons.mpr ⟨lw_p37, List.forall_mem_cons.mpr ⟨lw_p38, List.forall_mem_cons.mpr ⟨lw_p39, List.forall_mem_cons.mpr ⟨lw_p40, List.forall_mem_cons.mpr ⟨lw_p41, List.forall_mem_cons.mpr ⟨lw_p42, List.forall_mem_cons.mpr ⟨lw_p43, List.forall_mem_cons.mpr ⟨lw_p44, List.forall_mem_cons.mpr ⟨lw_p45, List.forall_mem_cons.mpr ⟨lw_p46, List.forall_mem_cons.mpr ⟨lw_p47, fun _ h => absurd h List.not_mem_nil⟩⟩⟩⟩⟩⟩⟩⟩⟩⟩⟩⟩⟩⟩⟩⟩
theorem lw_p48 : lw_okq (⟨"BeggarBridgeModel", "gives", "()I"⟩, 50) := ⟨⟨by decide +kernel, by decide +kernel⟩, List.mem_of_getElem? (i := 1045) (by decide +kernel), List.mem_of_getElem? (i := 1364) (by decide +kernel), List.mem_of_getElem? (i := 1365) (by decide +kernel)⟩
theorem lw_p49 : lw_okq (⟨"BeggarBridgeModel", "says", "(II)I"⟩, 50) := ⟨⟨by decide +kernel, by decide +kernel⟩, List.mem_of_getElem? (i := 1045) (by decide +kernel), List.mem_of_getElem? (i := 1368) (by decide +kernel), List.mem_of_getElem? (i := 1369) (by decide +kernel)⟩
theorem lw_p50 : lw_okq (⟨"BeggarBridgeModel", "goesDays", "(I)V"⟩, 50) := ⟨⟨by decide +kernel, by decide +kernel⟩, List.mem_of_getElem? (i := 1045) (by decide +kernel), List.mem_of_getElem? (i := 1383) (by decide +kernel), List.mem_of_getElem? (i := 1384) (by decide +kernel)⟩
theorem lw_p51 : lw_okq (⟨"BeggarBridgeModel", "goesDay", "()V"⟩, 50) := ⟨⟨by decide +kernel, by decide +kernel⟩, List.mem_of_getElem? (i := 1045) (by decide +kernel), List.mem_of_getElem? (i := 1387) (by decide +kernel), List.mem_of_getElem? (i := 1388) (by decide +kernel)⟩
theorem lw_p52 : lw_okq (⟨"BeggarBridgeModel", "standing", "()I"⟩, 50) := ⟨⟨by decide +kernel, by decide +kernel⟩, List.mem_of_getElem? (i := 1045) (by decide +kernel), List.mem_of_getElem? (i := 1401) (by decide +kernel), List.mem_of_getElem? (i := 1402) (by decide +kernel)⟩
theorem lw_p53 : lw_okq (⟨"BeggarBridgeModel", "soundAll", "()I"⟩, 50) := ⟨⟨by decide +kernel, by decide +kernel⟩, List.mem_of_getElem? (i := 1045) (by decide +kernel), List.mem_of_getElem? (i := 1405) (by decide +kernel), List.mem_of_getElem? (i := 1406) (by decide +kernel)⟩
theorem lw_p54 : lw_okq (⟨"BeggarBridgeModel", "poorSet", "()I"⟩, 50) := ⟨⟨by decide +kernel, by decide +kernel⟩, List.mem_of_getElem? (i := 1045) (by decide +kernel), List.mem_of_getElem? (i := 1409) (by decide +kernel), List.mem_of_getElem? (i := 1410) (by decide +kernel)⟩
theorem lw_p55 : lw_okq (⟨"BeggarBridgeModel", "fallsThen", "(I)I"⟩, 50) := ⟨⟨by decide +kernel, by decide +kernel⟩, List.mem_of_getElem? (i := 1045) (by decide +kernel), List.mem_of_getElem? (i := 1417) (by decide +kernel), List.mem_of_getElem? (i := 1418) (by decide +kernel)⟩
theorem lw_p56 : lw_okq (⟨"BeggarBridgeModel", "lastAt", "(II)I"⟩, 50) := ⟨⟨by decide +kernel, by decide +kernel⟩, List.mem_of_getElem? (i := 1045) (by decide +kernel), List.mem_of_getElem? (i := 1441) (by decide +kernel), List.mem_of_getElem? (i := 1442) (by decide +kernel)⟩
theorem lw_p57 : lw_okq (⟨"BeggarBridgeModel", "maySitForEver", "(II)Z"⟩, 50) := ⟨⟨by decide +kernel, by decide +kernel⟩, List.mem_of_getElem? (i := 1045) (by decide +kernel), List.mem_of_getElem? (i := 1448) (by decide +kernel), List.mem_of_getElem? (i := 1449) (by decide +kernel)⟩
theorem lw_p58 : lw_okq (⟨"BeggarBridgeModel", "spansBy", "(III)I"⟩, 50) := ⟨⟨by decide +kernel, by decide +kernel⟩, List.mem_of_getElem? (i := 1045) (by decide +kernel), List.mem_of_getElem? (i := 1456) (by decide +kernel), List.mem_of_getElem? (i := 1457) (by decide +kernel)⟩
theorem lw_p59 : lw_okq (⟨"BeggarBridgeModel", "bytesIs", "(I)I"⟩, 50) := ⟨⟨by decide +kernel, by decide +kernel⟩, List.mem_of_getElem? (i := 1045) (by decide +kernel), List.mem_of_getElem? (i := 1469) (by decide +kernel), List.mem_of_getElem? (i := 1470) (by decide +kernel)⟩
theorem lw_p60 : lw_okq (⟨"BeggarBridgeModel", "firstFalse", "(II)I"⟩, 50) := ⟨⟨by decide +kernel, by decide +kernel⟩, List.mem_of_getElem? (i := 1045) (by decide +kernel), List.mem_of_getElem? (i := 1473) (by decide +kernel), List.mem_of_getElem? (i := 1474) (by decide +kernel)⟩
theorem lw_p61 : lw_okq (⟨"BeggarBridgeModel", "aboveOf", "(I)I"⟩, 50) := ⟨⟨by decide +kernel, by decide +kernel⟩, List.mem_of_getElem? (i := 1045) (by decide +kernel), List.mem_of_getElem? (i := 1486) (by decide +kernel), List.mem_of_getElem? (i := 1487) (by decide +kernel)⟩
theorem lw_p62 : lw_okq (⟨"BeggarBridgeModel", "playsFrom", "(IIII)I"⟩, 50) := ⟨⟨by decide +kernel, by decide +kernel⟩, List.mem_of_getElem? (i := 1045) (by decide +kernel), List.mem_of_getElem? (i := 1498) (by decide +kernel), List.mem_of_getElem? (i := 1499) (by decide +kernel)⟩
theorem lw_p63 : lw_okq (⟨"BeggarBridgeModel", "isBody", "(I)Z"⟩, 50) := ⟨⟨by decide +kernel, by decide +kernel⟩, List.mem_of_getElem? (i := 1045) (by decide +kernel), List.mem_of_getElem? (i := 1546) (by decide +kernel), List.mem_of_getElem? (i := 1547) (by decide +kernel)⟩
def lw_privs_4 : List (MethodName × Nat) := [(⟨"BeggarBridgeModel", "gives", "()I"⟩, 50), (⟨"BeggarBridgeModel", "says", "(II)I"⟩, 50), (⟨"BeggarBridgeModel", "goesDays", "(I)V"⟩, 50), (⟨"BeggarBridgeModel", "goesDay", "()V"⟩, 50), (⟨"BeggarBridgeModel", "standing", "()I"⟩, 50), (⟨"BeggarBridgeModel", "soundAll", "()I"⟩, 50), (⟨"BeggarBridgeModel", "poorSet", "()I"⟩, 50), (⟨"BeggarBridgeModel", "fallsThen", "(I)I"⟩, 50), (⟨"BeggarBridgeModel", "lastAt", "(II)I"⟩, 50), (⟨"BeggarBridgeModel", "maySitForEver", "(II)Z"⟩, 50), (⟨"BeggarBridgeModel", "spansBy", "(III)I"⟩, 50), (⟨"BeggarBridgeModel", "bytesIs", "(I)I"⟩, 50), (⟨"BeggarBridgeModel", "firstFalse", "(II)I"⟩, 50), (⟨"BeggarBridgeModel", "aboveOf", "(I)I"⟩, 50), (⟨"BeggarBridgeModel", "playsFrom", "(IIII)I"⟩, 50), (⟨"BeggarBridgeModel", "isBody", "(I)Z"⟩, 50)]
theorem lw_r4 : ∀ q ∈ lw_privs_4, lw_okq q := List.forall_mem_cons.mpr ⟨lw_p48, List.forall_mem_cons.mpr ⟨lw_p49, List.forall_mem_cons.mpr ⟨lw_p50, List.forall_mem_cons.mpr ⟨lw_p51, List.forall_mem_cons.mpr ⟨lw_p52, List.forall_mem_cons.mpr ⟨lw_p53, List.forall_mem_cons.mpr ⟨lw_p54, List.forall_mem_cons.mpr ⟨lw_p55, List.forall_mem_cons.mpr ⟨lw_p56, List.forall_mem_cons.mpr ⟨lw_p57, List.forall_mem_cons.mpr ⟨lw_p58, List.forall_mem_cons.mpr ⟨lw_p59, List.forall_mem_cons.mpr ⟨lw_p60, List.forall_mem_cons.mpr ⟨lw_p61, List.forall_mem_cons.mpr ⟨lw_p62, List.forall_mem_cons.mpr ⟨lw_p63, fun _ h => absurd h List.not_mem_nil⟩⟩⟩⟩⟩⟩⟩⟩⟩⟩⟩⟩⟩⟩⟩⟩
theorem lw_p64 : lw_okq (⟨"BeggarBridgeModel", "standsAs", "(II)I"⟩, 50) := ⟨⟨by decide +kernel, by decide +kernel⟩, List.mem_of_getElem? (i := 1045) (by decide +kernel), List.mem_of_getElem? (i := 1550) (by decide +kernel), List.mem_of_getElem? (i := 1551) (by decide +kernel)⟩
theorem lw_p65 : lw_okq (⟨"BeggarBridgeModel", "runs", "(I)V"⟩, 50) := ⟨⟨by decide +kernel, by decide +kernel⟩, List.mem_of_getElem? (i := 1045) (by decide +kernel), List.mem_of_getElem? (i := 1554) (by decide +kernel), List.mem_of_getElem? (i := 1555) (by decide +kernel)⟩
theorem lw_p66 : lw_okq (⟨"BeggarBridgeModel", "asksAs", "(II)I"⟩, 50) := ⟨⟨by decide +kernel, by decide +kernel⟩, List.mem_of_getElem? (i := 1045) (by decide +kernel), List.mem_of_getElem? (i := 1558) (by decide +kernel), List.mem_of_getElem? (i := 1559) (by decide +kernel)⟩
theorem lw_p67 : lw_okq (⟨"BeggarBridgeModel", "cracksAs", "(II)I"⟩, 50) := ⟨⟨by decide +kernel, by decide +kernel⟩, List.mem_of_getElem? (i := 1045) (by decide +kernel), List.mem_of_getElem? (i := 1562) (by decide +kernel), List.mem_of_getElem? (i := 1563) (by decide +kernel)⟩
theorem lw_p68 : lw_okq (⟨"BeggarBridgeModel", "tellsAs", "(II)I"⟩, 50) := ⟨⟨by decide +kernel, by decide +kernel⟩, List.mem_of_getElem? (i := 1045) (by decide +kernel), List.mem_of_getElem? (i := 1566) (by decide +kernel), List.mem_of_getElem? (i := 1567) (by decide +kernel)⟩
theorem lw_p69 : lw_okq (⟨"BeggarBridgeModel", "refusal", "(II)I"⟩, 50) := ⟨⟨by decide +kernel, by decide +kernel⟩, List.mem_of_getElem? (i := 1045) (by decide +kernel), List.mem_of_getElem? (i := 1586) (by decide +kernel), List.mem_of_getElem? (i := 1587) (by decide +kernel)⟩
theorem lw_p70 : lw_okq (⟨"BeggarBridgeModel", "kindOf", "(I)I"⟩, 50) := ⟨⟨by decide +kernel, by decide +kernel⟩, List.mem_of_getElem? (i := 1045) (by decide +kernel), List.mem_of_getElem? (i := 1606) (by decide +kernel), List.mem_of_getElem? (i := 1607) (by decide +kernel)⟩
def lw_privs_5 : List (MethodName × Nat) := [(⟨"BeggarBridgeModel", "standsAs", "(II)I"⟩, 50), (⟨"BeggarBridgeModel", "runs", "(I)V"⟩, 50), (⟨"BeggarBridgeModel", "asksAs", "(II)I"⟩, 50), (⟨"BeggarBridgeModel", "cracksAs", "(II)I"⟩, 50), (⟨"BeggarBridgeModel", "tellsAs", "(II)I"⟩, 50), (⟨"BeggarBridgeModel", "refusal", "(II)I"⟩, 50), (⟨"BeggarBridgeModel", "kindOf", "(I)I"⟩, 50)]
theorem lw_r5 : ∀ q ∈ lw_privs_5, lw_okq q := List.forall_mem_cons.mpr ⟨lw_p64, List.forall_mem_cons.mpr ⟨lw_p65, List.forall_mem_cons.mpr ⟨lw_p66, List.forall_mem_cons.mpr ⟨lw_p67, List.forall_mem_cons.mpr ⟨lw_p68, List.forall_mem_cons.mpr ⟨lw_p69, List.forall_mem_cons.mpr ⟨lw_p70, fun _ h => absurd h List.not_mem_nil⟩⟩⟩⟩⟩⟩⟩
def lw_privs : List (MethodName × Nat) := lw_privs_1 ++ (lw_privs_2 ++ (lw_privs_3 ++ (lw_privs_4 ++ (lw_privs_5))))
def lw_tbl : List Cond := k2_sels lw_privs ++ tables_1
theorem lw_privs_ok : ∀ q ∈ lw_privs, lw_okq q := by
  show ∀ q ∈ lw_privs_1 ++ (lw_privs_2 ++ (lw_privs_3 ++ (lw_privs_4 ++ (lw_privs_5)))), lw_okq q
  exact List.forall_mem_append.mpr ⟨lw_r1, List.forall_mem_append.mpr ⟨lw_r2, List.forall_mem_append.mpr ⟨lw_r3, List.forall_mem_append.mpr ⟨lw_r4, lw_r5⟩⟩⟩⟩
-- ===== end of PART A; then your names; then what follows =====
end
section
/-! generated by wip/whole/gen.py: names, fields, links, as data -/
def lk {α : Type} : List (Nat × α) → Nat → Option α
  | [], _ => none
  | q :: t, i => bif Nat.beq q.1 i then some q.2 else lk t i
theorem lk_mem {α : Type} : ∀ {l : List (Nat × α)} {i : Nat} {x : α}, lk l i = some x → (i, x) ∈ l
  | [], _, _, h => by cases h
  | q :: t, i, x, h => by
    unfold lk at h
    cases hq : Nat.beq q.1 i with
    | true => rw [hq] at h; have e := Nat.eq_of_beq_eq_true hq; cases h; exact e ▸ List.mem_cons_self
    | false => rw [hq] at h; exact List.mem_cons_of_mem _ (lk_mem h)
def cnL : List String := ["BeggarBridge$Arches", "BeggarBridge$Changes", "BeggarBridge$County", "BeggarBridge$Law", "BeggarBridge$Ledger", "BeggarBridge$Seats", "BeggarBridge$Shelves", "BeggarBridge$Tape", "BeggarBridge$Thought", "BeggarBridge$Turns", "BeggarBridge$Ways", "BeggarBridge", "BeggarBridgeModel", "java/lang/Integer", "java/lang/Math", "java/util/Arrays", "BeggarBridgeLaw"]
def cn (i : Nat) : String := cnL.getD i ""
def ft0 : u_T := fun k => match k with
  | 0 => ("BeggarBridge$Arches", "kinds", "[I", true)
  | 1 => ("BeggarBridge$Arches", "ran", "[I", true)
  | 2 => ("BeggarBridge$Arches", "kept", "I", false)
  | _ => ("BeggarBridge$Arches", "begun", "I", false)
def fy0 : Nat → FieldType := fun k => match k with
  | 0 => .array .int
  | 1 => .array .int
  | 2 => .int
  | _ => .int
theorem fn0 : ∀ a, a < 4 → ∀ b, b < 4 → a ≠ b → (ft0 a).2.1 ≠ (ft0 b).2.1 := by decide +kernel
theorem fy0_ok : ∀ k, k < 4 → parseFieldDescriptor (ft0 k).2.2.1 = some (fy0 k) := by decide +kernel
theorem fw0 : ∀ w ∈ u_ws "BeggarBridge$Arches" ft0 4, w ∈ lw_tbl := fun w hw => by
  have h : u_ws "BeggarBridge$Arches" ft0 4 = ([383, 385, 387, 389] : List Nat).filterMap (fun i => lw_tbl[i]?) := by decide +kernel
  rw [h] at hw
  obtain ⟨i, -, hi⟩ := List.mem_filterMap.mp hw
  exact List.mem_of_getElem? hi
def ft1 : u_T := fun k => match k with
  | 0 => ("BeggarBridge$Changes", "number", "[I", true)
  | 1 => ("BeggarBridge$Changes", "sort", "[I", true)
  | 2 => ("BeggarBridge$Changes", "before", "[I", true)
  | 3 => ("BeggarBridge$Changes", "behind", "[I", true)
  | 4 => ("BeggarBridge$Changes", "done", "I", false)
  | _ => ("BeggarBridge$Changes", "all", "I", false)
def fy1 : Nat → FieldType := fun k => match k with
  | 0 => .array .int
  | 1 => .array .int
  | 2 => .array .int
  | 3 => .array .int
  | 4 => .int
  | _ => .int
theorem fn1 : ∀ a, a < 6 → ∀ b, b < 6 → a ≠ b → (ft1 a).2.1 ≠ (ft1 b).2.1 := by decide +kernel
theorem fy1_ok : ∀ k, k < 6 → parseFieldDescriptor (ft1 k).2.2.1 = some (fy1 k) := by decide +kernel
theorem fw1 : ∀ w ∈ u_ws "BeggarBridge$Changes" ft1 6, w ∈ lw_tbl := fun w hw => by
  have h : u_ws "BeggarBridge$Changes" ft1 6 = ([336, 338, 340, 342, 344, 346] : List Nat).filterMap (fun i => lw_tbl[i]?) := by decide +kernel
  rw [h] at hw
  obtain ⟨i, -, hi⟩ := List.mem_filterMap.mp hw
  exact List.mem_of_getElem? hi
def ft2 : u_T := fun k => match k with
  | 0 => ("BeggarBridge$County", "from", "[I", true)
  | 1 => ("BeggarBridge$County", "to", "[I", true)
  | 2 => ("BeggarBridge$County", "span", "[I", true)
  | 3 => ("BeggarBridge$County", "sound", "[I", true)
  | 4 => ("BeggarBridge$County", "alms", "[I", true)
  | 5 => ("BeggarBridge$County", "means", "[I", true)
  | 6 => ("BeggarBridge$County", "asks", "[I", true)
  | 7 => ("BeggarBridge$County", "spends", "[I", true)
  | 8 => ("BeggarBridge$County", "seat", "[I", true)
  | 9 => ("BeggarBridge$County", "poorOn", "[I", true)
  | 10 => ("BeggarBridge$County", "richOn", "[I", true)
  | 11 => ("BeggarBridge$County", "bridges", "I", false)
  | 12 => ("BeggarBridge$County", "beggars", "I", false)
  | 13 => ("BeggarBridge$County", "poor", "I", false)
  | _ => ("BeggarBridge$County", "today", "I", false)
def fy2 : Nat → FieldType := fun k => match k with
  | 0 => .array .int
  | 1 => .array .int
  | 2 => .array .int
  | 3 => .array .int
  | 4 => .array .int
  | 5 => .array .int
  | 6 => .array .int
  | 7 => .array .int
  | 8 => .array .int
  | 9 => .array .int
  | 10 => .array .int
  | 11 => .int
  | 12 => .int
  | 13 => .int
  | _ => .int
theorem fn2 : ∀ a, a < 15 → ∀ b, b < 15 → a ≠ b → (ft2 a).2.1 ≠ (ft2 b).2.1 := by decide +kernel
theorem fy2_ok : ∀ k, k < 15 → parseFieldDescriptor (ft2 k).2.2.1 = some (fy2 k) := by decide +kernel
theorem fw2 : ∀ w ∈ u_ws "BeggarBridge$County" ft2 15, w ∈ lw_tbl := fun w hw => by
  have h : u_ws "BeggarBridge$County" ft2 15 = ([134, 136, 138, 140, 142, 144, 146, 148, 150, 152, 154, 156, 158, 160, 162] : List Nat).filterMap (fun i => lw_tbl[i]?) := by decide +kernel
  rw [h] at hw
  obtain ⟨i, -, hi⟩ := List.mem_filterMap.mp hw
  exact List.mem_of_getElem? hi
def ft3 : u_T := fun k => match k with
  | 0 => ("BeggarBridge$Law", "steps", "[I", true)
  | 1 => ("BeggarBridge$Law", "values", "[I", true)
  | 2 => ("BeggarBridge$Law", "pile", "[I", true)
  | 3 => ("BeggarBridge$Law", "named", "[I", true)
  | _ => ("BeggarBridge$Law", "size", "I", false)
def fy3 : Nat → FieldType := fun k => match k with
  | 0 => .array .int
  | 1 => .array .int
  | 2 => .array .int
  | 3 => .array .int
  | _ => .int
theorem fn3 : ∀ a, a < 5 → ∀ b, b < 5 → a ≠ b → (ft3 a).2.1 ≠ (ft3 b).2.1 := by decide +kernel
theorem fy3_ok : ∀ k, k < 5 → parseFieldDescriptor (ft3 k).2.2.1 = some (fy3 k) := by decide +kernel
theorem fw3 : ∀ w ∈ u_ws "BeggarBridge$Law" ft3 5, w ∈ lw_tbl := fun w hw => by
  have h : u_ws "BeggarBridge$Law" ft3 5 = ([209, 211, 213, 215, 217] : List Nat).filterMap (fun i => lw_tbl[i]?) := by decide +kernel
  rw [h] at hw
  obtain ⟨i, -, hi⟩ := List.mem_filterMap.mp hw
  exact List.mem_of_getElem? hi
def ft4 : u_T := fun k => match k with
  | 0 => ("BeggarBridge$Ledger", "sums", "[I", true)
  | 1 => ("BeggarBridge$Ledger", "keptSums", "[I", true)
  | 2 => ("BeggarBridge$Ledger", "keptCounty", "LBeggarBridge$County;", true)
  | _ => ("BeggarBridge$Ledger", "hasImage", "Z", false)
def fy4 : Nat → FieldType := fun k => match k with
  | 0 => .array .int
  | 1 => .array .int
  | 2 => .object "BeggarBridge$County"
  | _ => .boolean
theorem fn4 : ∀ a, a < 4 → ∀ b, b < 4 → a ≠ b → (ft4 a).2.1 ≠ (ft4 b).2.1 := by decide +kernel
theorem fy4_ok : ∀ k, k < 4 → parseFieldDescriptor (ft4 k).2.2.1 = some (fy4 k) := by decide +kernel
theorem fw4 : ∀ w ∈ u_ws "BeggarBridge$Ledger" ft4 4, w ∈ lw_tbl := fun w hw => by
  have h : u_ws "BeggarBridge$Ledger" ft4 4 = ([362, 364, 366, 368] : List Nat).filterMap (fun i => lw_tbl[i]?) := by decide +kernel
  rw [h] at hw
  obtain ⟨i, -, hi⟩ := List.mem_filterMap.mp hw
  exact List.mem_of_getElem? hi
def ft5 : u_T := fun k => match k with
  | 0 => ("BeggarBridge$Seats", "now", "LBeggarBridge$County;", true)
  | 1 => ("BeggarBridge$Seats", "willing", "[I", true)
  | 2 => ("BeggarBridge$Seats", "has", "[I", true)
  | _ => ("BeggarBridge$Seats", "asked", "I", false)
def fy5 : Nat → FieldType := fun k => match k with
  | 0 => .object "BeggarBridge$County"
  | 1 => .array .int
  | 2 => .array .int
  | _ => .int
theorem fn5 : ∀ a, a < 4 → ∀ b, b < 4 → a ≠ b → (ft5 a).2.1 ≠ (ft5 b).2.1 := by decide +kernel
theorem fy5_ok : ∀ k, k < 4 → parseFieldDescriptor (ft5 k).2.2.1 = some (fy5 k) := by decide +kernel
theorem fw5 : ∀ w ∈ u_ws "BeggarBridge$Seats" ft5 4, w ∈ lw_tbl := fun w hw => by
  have h : u_ws "BeggarBridge$Seats" ft5 4 = ([301, 303, 305, 307] : List Nat).filterMap (fun i => lw_tbl[i]?) := by decide +kernel
  rw [h] at hw
  obtain ⟨i, -, hi⟩ := List.mem_filterMap.mp hw
  exact List.mem_of_getElem? hi
def ft6 : u_T := fun k => match k with
  | 0 => ("BeggarBridge$Shelves", "holds", "[I", true)
  | 1 => ("BeggarBridge$Shelves", "size", "[I", true)
  | _ => ("BeggarBridge$Shelves", "rows", "[[J", true)
def fy6 : Nat → FieldType := fun k => match k with
  | 0 => .array .int
  | 1 => .array .int
  | _ => .array (.array .long)
theorem fn6 : ∀ a, a < 3 → ∀ b, b < 3 → a ≠ b → (ft6 a).2.1 ≠ (ft6 b).2.1 := by decide +kernel
theorem fy6_ok : ∀ k, k < 3 → parseFieldDescriptor (ft6 k).2.2.1 = some (fy6 k) := by decide +kernel
theorem fw6 : ∀ w ∈ u_ws "BeggarBridge$Shelves" ft6 3, w ∈ lw_tbl := fun w hw => by
  have h : u_ws "BeggarBridge$Shelves" ft6 3 = ([403, 405, 407] : List Nat).filterMap (fun i => lw_tbl[i]?) := by decide +kernel
  rw [h] at hw
  obtain ⟨i, -, hi⟩ := List.mem_filterMap.mp hw
  exact List.mem_of_getElem? hi
def ft7 : u_T := fun k => match k with
  | 0 => ("BeggarBridge$Tape", "bytes", "[I", true)
  | 1 => ("BeggarBridge$Tape", "steps", "[I", true)
  | 2 => ("BeggarBridge$Tape", "values", "[I", true)
  | 3 => ("BeggarBridge$Tape", "length", "I", false)
  | 4 => ("BeggarBridge$Tape", "size", "I", false)
  | 5 => ("BeggarBridge$Tape", "at", "I", false)
  | _ => ("BeggarBridge$Tape", "fault", "I", false)
def fy7 : Nat → FieldType := fun k => match k with
  | 0 => .array .int
  | 1 => .array .int
  | 2 => .array .int
  | 3 => .int
  | 4 => .int
  | 5 => .int
  | _ => .int
theorem fn7 : ∀ a, a < 7 → ∀ b, b < 7 → a ≠ b → (ft7 a).2.1 ≠ (ft7 b).2.1 := by decide +kernel
theorem fy7_ok : ∀ k, k < 7 → parseFieldDescriptor (ft7 k).2.2.1 = some (fy7 k) := by decide +kernel
theorem fw7 : ∀ w ∈ u_ws "BeggarBridge$Tape" ft7 7, w ∈ lw_tbl := fun w hw => by
  have h : u_ws "BeggarBridge$Tape" ft7 7 = ([183, 185, 187, 189, 191, 193, 195] : List Nat).filterMap (fun i => lw_tbl[i]?) := by decide +kernel
  rw [h] at hw
  obtain ⟨i, -, hi⟩ := List.mem_filterMap.mp hw
  exact List.mem_of_getElem? hi
def ft8 : u_T := fun k => match k with
  | 0 => ("BeggarBridge$Thought", "now", "LBeggarBridge$County;", true)
  | 1 => ("BeggarBridge$Thought", "law", "LBeggarBridge$Law;", true)
  | 2 => ("BeggarBridge$Thought", "trial", "LBeggarBridge$County;", true)
  | 3 => ("BeggarBridge$Thought", "asked", "LBeggarBridge$County;", true)
  | 4 => ("BeggarBridge$Thought", "ends", "[I", true)
  | 5 => ("BeggarBridge$Thought", "unmoved", "I", false)
  | 6 => ("BeggarBridge$Thought", "bestScore", "I", false)
  | 7 => ("BeggarBridge$Thought", "bestMove", "I", false)
  | 8 => ("BeggarBridge$Thought", "fitting", "I", false)
  | _ => ("BeggarBridge$Thought", "leastFitting", "I", false)
def fy8 : Nat → FieldType := fun k => match k with
  | 0 => .object "BeggarBridge$County"
  | 1 => .object "BeggarBridge$Law"
  | 2 => .object "BeggarBridge$County"
  | 3 => .object "BeggarBridge$County"
  | 4 => .array .int
  | 5 => .int
  | 6 => .int
  | 7 => .int
  | 8 => .int
  | _ => .int
theorem fn8 : ∀ a, a < 10 → ∀ b, b < 10 → a ≠ b → (ft8 a).2.1 ≠ (ft8 b).2.1 := by decide +kernel
theorem fy8_ok : ∀ k, k < 10 → parseFieldDescriptor (ft8 k).2.2.1 = some (fy8 k) := by decide +kernel
theorem fw8 : ∀ w ∈ u_ws "BeggarBridge$Thought" ft8 10, w ∈ lw_tbl := fun w hw => by
  have h : u_ws "BeggarBridge$Thought" ft8 10 = ([242, 244, 246, 248, 250, 252, 254, 256, 258, 260] : List Nat).filterMap (fun i => lw_tbl[i]?) := by decide +kernel
  rw [h] at hw
  obtain ⟨i, -, hi⟩ := List.mem_filterMap.mp hw
  exact List.mem_of_getElem? hi
def ft9 : u_T := fun k => match k with
  | 0 => ("BeggarBridge$Turns", "thought", "LBeggarBridge$Thought;", true)
  | 1 => ("BeggarBridge$Turns", "table", "LBeggarBridge$County;", true)
  | 2 => ("BeggarBridge$Turns", "bridge", "I", false)
  | 3 => ("BeggarBridge$Turns", "days", "I", false)
  | 4 => ("BeggarBridge$Turns", "all", "I", false)
  | _ => ("BeggarBridge$Turns", "first", "I", false)
def fy9 : Nat → FieldType := fun k => match k with
  | 0 => .object "BeggarBridge$Thought"
  | 1 => .object "BeggarBridge$County"
  | 2 => .int
  | 3 => .int
  | 4 => .int
  | _ => .int
theorem fn9 : ∀ a, a < 6 → ∀ b, b < 6 → a ≠ b → (ft9 a).2.1 ≠ (ft9 b).2.1 := by decide +kernel
theorem fy9_ok : ∀ k, k < 6 → parseFieldDescriptor (ft9 k).2.2.1 = some (fy9 k) := by decide +kernel
theorem fw9 : ∀ w ∈ u_ws "BeggarBridge$Turns" ft9 6, w ∈ lw_tbl := fun w hw => by
  have h : u_ws "BeggarBridge$Turns" ft9 6 = ([278, 280, 282, 284, 286, 288] : List Nat).filterMap (fun i => lw_tbl[i]?) := by decide +kernel
  rw [h] at hw
  obtain ⟨i, -, hi⟩ := List.mem_filterMap.mp hw
  exact List.mem_of_getElem? hi
def ft10 : u_T := fun k => match k with
  | 0 => ("BeggarBridge$Ways", "now", "LBeggarBridge$County;", true)
  | _ => ("BeggarBridge$Ways", "cost", "[I", true)
def fy10 : Nat → FieldType := fun k => match k with
  | 0 => .object "BeggarBridge$County"
  | _ => .array .int
theorem fn10 : ∀ a, a < 2 → ∀ b, b < 2 → a ≠ b → (ft10 a).2.1 ≠ (ft10 b).2.1 := by decide +kernel
theorem fy10_ok : ∀ k, k < 2 → parseFieldDescriptor (ft10 k).2.2.1 = some (fy10 k) := by decide +kernel
theorem fw10 : ∀ w ∈ u_ws "BeggarBridge$Ways" ft10 2, w ∈ lw_tbl := fun w hw => by
  have h : u_ws "BeggarBridge$Ways" ft10 2 = ([318, 320] : List Nat).filterMap (fun i => lw_tbl[i]?) := by decide +kernel
  rw [h] at hw
  obtain ⟨i, -, hi⟩ := List.mem_filterMap.mp hw
  exact List.mem_of_getElem? hi
def ft11 : u_T := fun k => match k with
  | 0 => ("BeggarBridge", "county", "LBeggarBridge$County;", true)
  | 1 => ("BeggarBridge", "tape", "LBeggarBridge$Tape;", true)
  | 2 => ("BeggarBridge", "law", "LBeggarBridge$Law;", true)
  | 3 => ("BeggarBridge", "thought", "LBeggarBridge$Thought;", true)
  | 4 => ("BeggarBridge", "turns", "LBeggarBridge$Turns;", true)
  | 5 => ("BeggarBridge", "seats", "LBeggarBridge$Seats;", true)
  | 6 => ("BeggarBridge", "ways", "LBeggarBridge$Ways;", true)
  | 7 => ("BeggarBridge", "changes", "LBeggarBridge$Changes;", true)
  | 8 => ("BeggarBridge", "ledger", "LBeggarBridge$Ledger;", true)
  | 9 => ("BeggarBridge", "arches", "LBeggarBridge$Arches;", true)
  | _ => ("BeggarBridge", "shelves", "LBeggarBridge$Shelves;", true)
def fy11 : Nat → FieldType := fun k => match k with
  | 0 => .object "BeggarBridge$County"
  | 1 => .object "BeggarBridge$Tape"
  | 2 => .object "BeggarBridge$Law"
  | 3 => .object "BeggarBridge$Thought"
  | 4 => .object "BeggarBridge$Turns"
  | 5 => .object "BeggarBridge$Seats"
  | 6 => .object "BeggarBridge$Ways"
  | 7 => .object "BeggarBridge$Changes"
  | 8 => .object "BeggarBridge$Ledger"
  | 9 => .object "BeggarBridge$Arches"
  | _ => .object "BeggarBridge$Shelves"
theorem fn11 : ∀ a, a < 11 → ∀ b, b < 11 → a ≠ b → (ft11 a).2.1 ≠ (ft11 b).2.1 := by decide +kernel
theorem fy11_ok : ∀ k, k < 11 → parseFieldDescriptor (ft11 k).2.2.1 = some (fy11 k) := by decide +kernel
theorem fw11 : ∀ w ∈ u_ws "BeggarBridge" ft11 11, w ∈ lw_tbl := fun w hw => by
  have h : u_ws "BeggarBridge" ft11 11 = ([422, 424, 426, 428, 430, 432, 434, 436, 438, 440, 442] : List Nat).filterMap (fun i => lw_tbl[i]?) := by decide +kernel
  rw [h] at hw
  obtain ⟨i, -, hi⟩ := List.mem_filterMap.mp hw
  exact List.mem_of_getElem? hi
def ft12 : u_T := fun k => match k with
  | 0 => ("BeggarBridgeModel", "may", "[I", true)
  | 1 => ("BeggarBridgeModel", "changeAt", "[I", true)
  | 2 => ("BeggarBridgeModel", "changeWas", "[I", true)
  | 3 => ("BeggarBridgeModel", "changeIs", "[I", true)
  | 4 => ("BeggarBridgeModel", "keptMany", "I", false)
  | 5 => ("BeggarBridgeModel", "done", "I", false)
  | 6 => ("BeggarBridgeModel", "bridges", "I", false)
  | 7 => ("BeggarBridgeModel", "beggars", "I", false)
  | 8 => ("BeggarBridgeModel", "from", "[I", true)
  | 9 => ("BeggarBridgeModel", "to", "[I", true)
  | 10 => ("BeggarBridgeModel", "tape", "[I", true)
  | 11 => ("BeggarBridgeModel", "tapeMany", "I", false)
  | 12 => ("BeggarBridgeModel", "at", "I", false)
  | 13 => ("BeggarBridgeModel", "fault", "I", false)
  | 14 => ("BeggarBridgeModel", "opened", "I", false)
  | 15 => ("BeggarBridgeModel", "names", "[I", true)
  | 16 => ("BeggarBridgeModel", "readSigns", "[I", true)
  | 17 => ("BeggarBridgeModel", "readStarts", "[I", true)
  | 18 => ("BeggarBridgeModel", "readSplits", "[I", true)
  | 19 => ("BeggarBridgeModel", "readMany", "I", false)
  | 20 => ("BeggarBridgeModel", "readClauses", "I", false)
  | 21 => ("BeggarBridgeModel", "signs", "[I", true)
  | 22 => ("BeggarBridgeModel", "starts", "[I", true)
  | 23 => ("BeggarBridgeModel", "splits", "[I", true)
  | 24 => ("BeggarBridgeModel", "clauses", "I", false)
  | 25 => ("BeggarBridgeModel", "stack", "[I", true)
  | 26 => ("BeggarBridgeModel", "sound", "[I", true)
  | 27 => ("BeggarBridgeModel", "means", "[I", true)
  | 28 => ("BeggarBridgeModel", "seat", "[I", true)
  | 29 => ("BeggarBridgeModel", "dayThen", "I", false)
  | 30 => ("BeggarBridgeModel", "less", "[I", true)
  | 31 => ("BeggarBridgeModel", "mostFrom", "[I", true)
  | 32 => ("BeggarBridgeModel", "away", "[I", true)
  | 33 => ("BeggarBridgeModel", "did", "[I", true)
  | 34 => ("BeggarBridgeModel", "ledNow", "[I", true)
  | 35 => ("BeggarBridgeModel", "isKept", "Z", false)
  | 36 => ("BeggarBridgeModel", "imageBridges", "I", false)
  | 37 => ("BeggarBridgeModel", "imageBeggars", "I", false)
  | 38 => ("BeggarBridgeModel", "imageMay", "[I", true)
  | 39 => ("BeggarBridgeModel", "imageLed", "[I", true)
  | 40 => ("BeggarBridgeModel", "bodies", "I", false)
  | 41 => ("BeggarBridgeModel", "bodyKind", "[I", true)
  | 42 => ("BeggarBridgeModel", "trace", "[I", true)
  | 43 => ("BeggarBridgeModel", "ran", "I", false)
  | 44 => ("BeggarBridgeModel", "ownKind", "I", false)
  | 45 => ("BeggarBridgeModel", "ownNumber", "I", false)
  | 46 => ("BeggarBridgeModel", "shelf", "[I", true)
  | 47 => ("BeggarBridgeModel", "many", "[I", true)
  | 48 => ("BeggarBridgeModel", "items", "[J", true)
  | _ => ("BeggarBridgeModel", "carried", "[J", true)
def fy12 : Nat → FieldType := fun k => match k with
  | 0 => .array .int
  | 1 => .array .int
  | 2 => .array .int
  | 3 => .array .int
  | 4 => .int
  | 5 => .int
  | 6 => .int
  | 7 => .int
  | 8 => .array .int
  | 9 => .array .int
  | 10 => .array .int
  | 11 => .int
  | 12 => .int
  | 13 => .int
  | 14 => .int
  | 15 => .array .int
  | 16 => .array .int
  | 17 => .array .int
  | 18 => .array .int
  | 19 => .int
  | 20 => .int
  | 21 => .array .int
  | 22 => .array .int
  | 23 => .array .int
  | 24 => .int
  | 25 => .array .int
  | 26 => .array .int
  | 27 => .array .int
  | 28 => .array .int
  | 29 => .int
  | 30 => .array .int
  | 31 => .array .int
  | 32 => .array .int
  | 33 => .array .int
  | 34 => .array .int
  | 35 => .boolean
  | 36 => .int
  | 37 => .int
  | 38 => .array .int
  | 39 => .array .int
  | 40 => .int
  | 41 => .array .int
  | 42 => .array .int
  | 43 => .int
  | 44 => .int
  | 45 => .int
  | 46 => .array .int
  | 47 => .array .int
  | 48 => .array .long
  | _ => .array .long
theorem fn12 : ∀ a, a < 50 → ∀ b, b < 50 → a ≠ b → (ft12 a).2.1 ≠ (ft12 b).2.1 := by decide +kernel
theorem fy12_ok : ∀ k, k < 50 → parseFieldDescriptor (ft12 k).2.2.1 = some (fy12 k) := by decide +kernel
theorem fw12 : ∀ w ∈ u_ws "BeggarBridgeModel" ft12 50, w ∈ lw_tbl := fun w hw => by
  have h : u_ws "BeggarBridgeModel" ft12 50 = ([1171, 1173, 1175, 1177, 1179, 1181, 1183, 1185, 1187, 1189, 1191, 1193, 1195, 1197, 1199, 1201, 1203, 1205, 1207, 1209, 1211, 1213, 1215, 1217, 1219, 1221, 1223, 1225, 1227, 1229, 1231, 1233, 1235, 1237, 1239, 1241, 1243, 1245, 1247, 1249, 1251, 1253, 1255, 1257, 1259, 1261, 1263, 1265, 1267, 1269] : List Nat).filterMap (fun i => lw_tbl[i]?) := by decide +kernel
  rw [h] at hw
  obtain ⟨i, -, hi⟩ := List.mem_filterMap.mp hw
  exact List.mem_of_getElem? hi
def clsL : List vw_C := [("BeggarBridge$Arches", ft0, 4), ("BeggarBridge$Changes", ft1, 6), ("BeggarBridge$County", ft2, 15), ("BeggarBridge$Law", ft3, 5), ("BeggarBridge$Ledger", ft4, 4), ("BeggarBridge$Seats", ft5, 4), ("BeggarBridge$Shelves", ft6, 3), ("BeggarBridge$Tape", ft7, 7), ("BeggarBridge$Thought", ft8, 10), ("BeggarBridge$Turns", ft9, 6), ("BeggarBridge$Ways", ft10, 2), ("BeggarBridge", ft11, 11), ("BeggarBridgeModel", ft12, 50)]
/-- kinds of fields: 0 int, 1 boolean, 2 ints, 3 longs, 4 an object, 5 rows of longs -/
def fkL : List (List (Nat × Nat)) := [[(2, 50), (2, 24), (0, 0), (0, 0)],
  [(2, 40), (2, 40), (2, 40), (2, 40), (0, 0), (0, 0)],
  [(2, 8), (2, 8), (2, 8), (2, 8), (2, 8), (2, 9), (2, 9), (2, 9), (2, 9), (2, 8), (2, 8), (0, 0), (0, 0), (0, 0), (0, 0)],
  [(2, 128), (2, 128), (2, 128), (2, 6), (0, 0)],
  [(2, 5), (2, 5), (4, 2), (1, 0)],
  [(4, 2), (2, 8), (2, 9), (0, 0)],
  [(2, 6), (2, 6), (5, 6)],
  [(2, 120), (2, 128), (2, 128), (0, 0), (0, 0), (0, 0), (0, 0)],
  [(4, 2), (4, 3), (4, 2), (4, 2), (2, 8), (0, 0), (0, 0), (0, 0), (0, 0), (0, 0)],
  [(4, 8), (4, 2), (0, 0), (0, 0), (0, 0), (0, 0)],
  [(4, 2), (2, 8)],
  [(4, 2), (4, 7), (4, 3), (4, 8), (4, 9), (4, 5), (4, 10), (4, 1), (4, 4), (4, 0), (4, 6)],
  [(2, 62), (2, 40), (2, 40), (2, 40), (0, 0), (0, 0), (0, 0), (0, 0), (2, 8), (2, 8), (2, 120), (0, 0), (0, 0), (0, 0), (0, 0), (2, 6), (2, 120), (2, 121), (2, 121), (0, 0), (0, 0), (2, 120), (2, 121), (2, 121), (0, 0), (2, 121), (2, 8), (2, 9), (2, 9), (0, 0), (2, 8), (2, 4608), (2, 8), (2, 3), (2, 5), (1, 0), (0, 0), (0, 0), (2, 62), (2, 5), (0, 0), (2, 50), (2, 24), (0, 0), (0, 0), (0, 0), (2, 6), (2, 6), (3, 360), (3, 60)]]
def fk (ci k : Nat) : Nat × Nat := (fkL.getD ci []).getD k (9, 0)
def fR (c : Nat) : List (Nat × Nat × Nat × Bool × Nat) := match c with
  | 0 => [(11, 0, 0, false, 377), (15, 0, 1, false, 378), (18, 0, 2, false, 379), (39, 0, 3, false, 381)]
  | 1 => [(11, 1, 0, false, 329), (15, 1, 1, false, 330), (18, 1, 2, false, 331), (21, 1, 3, false, 332), (24, 1, 4, false, 333), (31, 1, 5, false, 335)]
  | 2 => [(9, 2, 0, false, 103), (15, 2, 1, false, 104), (18, 2, 2, false, 105), (21, 2, 3, false, 107), (24, 2, 4, false, 109), (27, 2, 5, false, 111), (30, 2, 6, false, 112), (33, 2, 7, false, 113), (36, 2, 8, false, 114), (39, 2, 9, false, 115), (42, 2, 10, false, 117), (45, 2, 13, false, 131), (49, 2, 11, false, 119), (52, 2, 12, false, 126), (66, 2, 14, false, 133)]
  | 3 => [(9, 3, 0, false, 204), (15, 3, 1, false, 205), (18, 3, 2, false, 206), (21, 3, 3, false, 207), (24, 7, 1, true, 174), (31, 7, 2, true, 176), (32, 7, 4, true, 179), (36, 3, 4, false, 208), (43, 2, 2, true, 106), (46, 2, 10, true, 118), (49, 2, 9, true, 116), (58, 2, 4, true, 110), (61, 2, 14, true, 132), (64, 2, 3, true, 108)]
  | 4 => [(11, 4, 0, false, 357), (15, 4, 1, false, 358), (21, 4, 2, false, 359), (35, 4, 3, false, 360), (39, 2, 11, true, 122), (51, 2, 12, true, 128)]
  | 5 => [(9, 5, 1, false, 298), (15, 5, 2, false, 299), (18, 5, 0, false, 297), (22, 2, 11, true, 120), (28, 2, 12, true, 125), (53, 5, 3, false, 300)]
  | 6 => [(11, 6, 0, false, 400), (15, 6, 1, false, 401), (20, 6, 2, false, 402)]
  | 7 => [(11, 7, 0, false, 172), (15, 7, 1, false, 173), (18, 7, 2, false, 175), (21, 7, 3, false, 177), (25, 7, 5, false, 181), (28, 7, 4, false, 180), (31, 7, 6, false, 182)]
  | 8 => [(12, 8, 2, false, 230), (18, 8, 3, false, 231), (21, 8, 4, false, 232), (25, 8, 0, false, 228), (28, 8, 1, false, 229), (52, 2, 11, true, 123), (60, 2, 12, true, 129), (71, 8, 5, false, 233), (81, 8, 6, false, 234), (84, 8, 7, false, 236), (104, 8, 8, false, 238), (107, 8, 9, false, 240)]
  | 9 => [(12, 9, 1, false, 272), (18, 9, 0, false, 271), (26, 9, 2, false, 273), (30, 9, 3, false, 274), (33, 9, 4, false, 275), (36, 9, 5, false, 276), (55, 2, 12, true, 127)]
  | 10 => [(9, 10, 1, false, 317), (15, 10, 0, false, 316), (36, 2, 11, true, 121)]
  | 11 => [(10, 11, 0, false, 411), (19, 11, 1, false, 412), (26, 11, 2, false, 413), (35, 11, 3, false, 414), (44, 11, 4, false, 415), (53, 11, 5, false, 416), (60, 11, 6, false, 417), (67, 11, 7, false, 418), (74, 11, 8, false, 419), (81, 11, 9, false, 420), (88, 11, 10, false, 421), (210, 2, 12, true, 130), (218, 8, 7, true, 237), (221, 8, 6, true, 235), (255, 8, 8, true, 239), (258, 8, 9, true, 241), (274, 9, 5, true, 277), (296, 4, 3, true, 361), (361, 2, 11, true, 124), (364, 7, 3, true, 178), (367, 1, 4, true, 334), (370, 0, 2, true, 380), (373, 0, 3, true, 382)]
  | 12 => [(9, 12, 0, false, 1121), (13, 12, 1, false, 1122), (16, 12, 2, false, 1123), (19, 12, 3, false, 1124), (22, 12, 8, false, 1129), (25, 12, 9, false, 1130), (28, 12, 10, false, 1131), (31, 12, 15, false, 1136), (34, 12, 16, false, 1137), (37, 12, 17, false, 1138), (40, 12, 18, false, 1139), (43, 12, 21, false, 1142), (46, 12, 22, false, 1143), (49, 12, 23, false, 1144), (52, 12, 25, false, 1146), (55, 12, 26, false, 1147), (58, 12, 27, false, 1148), (61, 12, 28, false, 1149), (64, 12, 30, false, 1151), (67, 12, 31, false, 1152), (70, 12, 32, false, 1153), (73, 12, 33, false, 1154), (76, 12, 34, false, 1155), (79, 12, 38, false, 1159), (82, 12, 39, false, 1160), (85, 12, 41, false, 1162), (88, 12, 42, false, 1163), (91, 12, 46, false, 1167), (94, 12, 47, false, 1168), (97, 12, 48, false, 1169), (101, 12, 49, false, 1170), (104, 12, 5, false, 1126), (108, 12, 4, false, 1125), (111, 12, 6, false, 1127), (118, 12, 7, false, 1128), (179, 12, 11, false, 1132), (182, 12, 12, false, 1133), (185, 12, 13, false, 1134), (192, 12, 19, false, 1140), (217, 12, 14, false, 1135), (233, 12, 20, false, 1141), (239, 12, 24, false, 1145), (249, 12, 29, false, 1150), (337, 12, 35, false, 1156), (341, 12, 36, false, 1157), (344, 12, 37, false, 1158), (347, 12, 40, false, 1161), (350, 12, 43, false, 1164), (359, 12, 45, false, 1166), (365, 12, 44, false, 1165)]
  | _ => []
-- statics: {0: [(29, 'BODIES', 1016), (26, 'ABOVE', 1021)]}
/-- calls: index in the pool, (method, kind 0 virtual 1 static 2 static of the nest 3 arraycopy, parameters, places of the words) -/
def mR (c : Nat) : List (Nat × Nat × Nat × Nat × Nat × Nat × Nat) := match c with
  | 0 => [(22, 0, 0, 1, 997, 998, 999), (32, 2, 0, 1, 1005, 1006, 1007), (36, 3, 1, 1, 1018, 1019, 0), (42, 9, 0, 4, 1001, 1003, 21), (46, 10, 0, 5, 1009, 1011, 22), (50, 4, 1, 2, 1013, 1014, 0), (54, 8, 0, 1, 1023, 1025, 23)]
  | 1 => [(28, 12, 0, 0, 541, 543, 4), (34, 999, 3, 5, 545, 0, 0), (40, 23, 0, 3, 972, 549, 550)]
  | 2 => [(55, 16, 0, 1, 523, 524, 525), (59, 15, 0, 1, 459, 460, 461), (62, 145, 2, 3, 456, 457, 0), (69, 21, 0, 1, 532, 534, 3), (74, 22, 0, 2, 899, 529, 530), (78, 147, 2, 2, 678, 640, 0), (81, 23, 0, 3, 900, 549, 550), (85, 999, 3, 5, 667, 0, 0), (91, 254, 1, 2, 627, 628, 0), (97, 27, 0, 1, 630, 632, 12), (101, 29, 0, 3, 697, 673, 674), (105, 251, 1, 2, 676, 646, 0), (110, 252, 1, 2, 677, 643, 0), (113, 36, 0, 2, 679, 635, 636), (119, 26, 0, 0, 868, 624, 625)]
  | 3 => [(25, 999, 3, 5, 613, 0, 0), (37, 15, 0, 1, 638, 460, 461), (52, 147, 2, 2, 639, 640, 0), (67, 37, 0, 0, 648, 650, 13), (71, 38, 1, 3, 652, 653, 0)]
  | 4 => [(25, 25, 0, 1, 952, 664, 665), (29, 999, 3, 5, 953, 0, 0), (43, 22, 0, 2, 962, 529, 530), (47, 23, 0, 3, 963, 549, 550)]
  | 5 => [(31, 22, 0, 2, 773, 529, 530), (35, 252, 1, 2, 774, 643, 0), (40, 33, 0, 1, 775, 731, 732), (44, 254, 1, 2, 780, 628, 0), (50, 251, 1, 2, 781, 646, 0), (56, 45, 0, 2, 782, 784, 15), (60, 44, 0, 2, 790, 777, 778), (63, 47, 0, 3, 791, 793, 16)]
  | 6 => [(23, 48, 0, 1, 492, 480, 481), (27, 50, 0, 1, 497, 499, 1), (30, 253, 1, 2, 1056, 1057, 0), (36, 49, 0, 1, 493, 494, 495), (39, 56, 0, 1, 488, 490, 0), (43, 51, 0, 1, 514, 503, 504), (46, 63, 1, 2, 1071, 1072, 0), (50, 60, 0, 3, 1095, 1088, 1089), (54, 999, 3, 5, 1096, 0, 0)]
  | 7 => [(34, 70, 0, 0, 572, 574, 5), (37, 68, 0, 0, 584, 586, 8), (41, 71, 0, 2, 576, 578, 6), (45, 69, 0, 2, 595, 597, 10), (48, 72, 0, 1, 580, 582, 7), (52, 77, 1, 1, 606, 607, 0), (56, 75, 1, 1, 588, 589, 0), (60, 74, 0, 0, 591, 593, 9), (63, 76, 1, 1, 599, 600, 0), (66, 73, 0, 1, 602, 604, 11)]
  | 8 => [(32, 25, 0, 1, 663, 664, 665), (36, 28, 0, 1, 693, 694, 695), (40, 81, 1, 2, 668, 669, 0), (44, 29, 0, 3, 672, 673, 674), (48, 22, 0, 2, 671, 529, 530), (56, 33, 0, 1, 730, 731, 732), (63, 23, 0, 3, 742, 549, 550), (67, 80, 0, 2, 743, 719, 720), (74, 79, 0, 3, 752, 660, 661), (78, 89, 1, 1, 753, 754, 0), (87, 15, 0, 1, 760, 460, 461), (91, 88, 0, 2, 761, 763, 14), (95, 51, 0, 1, 844, 503, 504), (100, 61, 0, 2, 845, 511, 512), (110, 90, 0, 4, 854, 841, 842), (115, 24, 0, 3, 911, 896, 897), (119, 30, 0, 0, 912, 699, 700), (123, 250, 1, 1, 913, 818, 0)]
  | 9 => [(22, 25, 0, 1, 877, 664, 665), (39, 79, 0, 3, 882, 660, 661), (45, 95, 0, 3, 883, 885, 19), (49, 96, 0, 3, 891, 893, 20), (52, 94, 0, 3, 887, 879, 880), (58, 22, 0, 2, 888, 529, 530), (62, 23, 0, 3, 889, 549, 550), (66, 251, 1, 2, 890, 646, 0), (71, 24, 0, 3, 895, 896, 897), (74, 252, 1, 2, 901, 643, 0)]
  | 10 => [(19, 145, 2, 3, 803, 457, 0), (24, 254, 1, 2, 805, 628, 0), (30, 30, 0, 0, 806, 699, 700), (40, 98, 0, 1, 807, 809, 17), (44, 22, 0, 2, 811, 529, 530), (48, 252, 1, 2, 812, 643, 0), (53, 250, 1, 1, 817, 818, 0), (59, 99, 0, 3, 823, 825, 18)]
  | 11 => [(92, 146, 1, 1, 449, 450, 0), (96, 20, 0, 2, 452, 453, 454), (100, 17, 0, 3, 463, 464, 465), (104, 18, 0, 4, 471, 472, 473), (108, 48, 0, 1, 479, 480, 481), (111, 145, 1, 3, 483, 457, 0), (115, 57, 0, 1, 484, 485, 486), (121, 51, 0, 1, 502, 503, 504), (124, 105, 0, 2, 506, 508, 2), (127, 61, 0, 2, 510, 511, 512), (131, 19, 0, 2, 519, 520, 521), (135, 22, 0, 2, 528, 529, 530), (139, 11, 0, 4, 537, 538, 539), (143, 23, 0, 3, 548, 549, 550), (147, 65, 0, 1, 560, 561, 562), (150, 67, 0, 0, 568, 569, 570), (154, 35, 0, 1, 609, 610, 611), (158, 66, 0, 0, 614, 615, 616), (161, 15, 0, 1, 622, 460, 461), (164, 26, 0, 0, 623, 624, 625), (167, 36, 0, 2, 634, 635, 636), (171, 79, 0, 3, 659, 660, 661), (175, 16, 0, 1, 680, 524, 525), (178, 83, 0, 2, 681, 682, 683), (181, 78, 0, 1, 689, 690, 691), (185, 30, 0, 0, 698, 699, 700), (188, 31, 0, 0, 702, 703, 704), (191, 32, 0, 0, 706, 707, 708), (194, 82, 0, 0, 714, 715, 716), (197, 80, 0, 2, 718, 719, 720), (200, 84, 0, 1, 726, 727, 728), (203, 85, 0, 1, 738, 739, 740), (206, 86, 0, 1, 748, 749, 750), (214, 87, 0, 2, 756, 757, 758), (224, 43, 0, 0, 769, 770, 771), (227, 44, 0, 2, 776, 777, 778), (230, 46, 0, 1, 786, 787, 788), (233, 97, 0, 2, 799, 800, 801), (236, 100, 0, 2, 813, 814, 815), (239, 250, 1, 1, 827, 818, 0), (244, 101, 0, 0, 832, 833, 834), (247, 90, 0, 4, 840, 841, 842), (251, 91, 0, 5, 850, 851, 852), (261, 33, 0, 1, 859, 731, 732), (264, 34, 0, 1, 864, 865, 866), (267, 93, 0, 4, 873, 874, 875), (271, 94, 0, 3, 878, 879, 880), (277, 92, 0, 5, 906, 907, 908), (281, 28, 0, 1, 918, 694, 695), (285, 40, 0, 2, 919, 920, 921), (287, 24, 0, 3, 931, 896, 897), (290, 39, 0, 1, 940, 941, 942), (293, 41, 0, 1, 948, 949, 950), (300, 42, 0, 1, 958, 959, 960), (303, 13, 0, 1, 968, 969, 970), (307, 14, 0, 1, 977, 978, 979), (310, 1, 0, 1, 985, 986, 987), (312, 7, 0, 3, 993, 994, 995), (315, 6, 0, 1, 1031, 1032, 1033), (318, 0, 0, 1, 1039, 998, 999), (319, 53, 0, 1, 1040, 1041, 1042), (322, 54, 0, 2, 1044, 1045, 1046), (325, 55, 0, 3, 1052, 1053, 1054), (328, 58, 0, 2, 1063, 1064, 1065), (331, 62, 0, 3, 1067, 1068, 1069), (339, 59, 0, 2, 1083, 1084, 1085), (342, 60, 0, 3, 1087, 1088, 1089), (345, 64, 0, 5, 1091, 1092, 1093), (349, 49, 0, 1, 1101, 494, 495), (352, 52, 0, 1, 1102, 1103, 1104), (355, 5, 0, 2, 1106, 1107, 1108), (358, 2, 0, 1, 1110, 1006, 1007), (376, 252, 1, 2, 642, 643, 0), (381, 251, 1, 2, 645, 646, 0)]
  | 12 => [(114, 148, 1, 3, 1291, 1292, 0), (123, 158, 1, 1, 1287, 1288, 0), (129, 156, 0, 1, 1309, 1311, 26), (132, 159, 1, 1, 1284, 1285, 0), (140, 160, 0, 1, 1305, 1307, 25), (143, 162, 0, 4, 1300, 1302, 24), (147, 163, 0, 4, 1313, 1315, 27), (151, 240, 1, 1, 1321, 1322, 0), (160, 157, 0, 1, 1336, 1338, 29), (165, 166, 0, 2, 1329, 1331, 28), (169, 167, 0, 2, 1341, 1343, 30), (173, 153, 0, 2, 1345, 1347, 31), (188, 171, 0, 0, 1391, 1393, 39), (195, 176, 0, 0, 1371, 1373, 34), (198, 173, 0, 1, 1403, 1405, 42), (201, 174, 0, 1, 1407, 1409, 43), (205, 177, 0, 0, 1375, 1377, 35), (208, 178, 0, 0, 1379, 1381, 36), (211, 179, 0, 0, 1383, 1385, 37), (214, 182, 0, 0, 1387, 1389, 38), (220, 172, 0, 0, 1399, 1401, 41), (223, 175, 0, 0, 1367, 1369, 33), (226, 181, 0, 1, 1395, 1397, 40), (229, 180, 1, 1, 1411, 1412, 0), (236, 183, 0, 0, 1363, 1365, 32), (242, 185, 1, 3, 1442, 1443, 0), (246, 186, 0, 2, 1438, 1440, 49), (252, 189, 0, 1, 1430, 1432, 47), (255, 190, 0, 2, 1426, 1428, 46), (259, 187, 0, 0, 1434, 1436, 48), (262, 191, 0, 1, 1422, 1424, 45), (265, 151, 1, 2, 1461, 1462, 0), (268, 152, 1, 1, 1464, 1465, 0), (271, 192, 0, 0, 1457, 1459, 51), (274, 188, 0, 0, 1418, 1420, 44), (279, 198, 1, 1, 1449, 1450, 0), (282, 193, 0, 1, 1453, 1455, 50), (285, 194, 0, 0, 1471, 1473, 52), (288, 195, 0, 0, 1475, 1477, 53), (291, 196, 0, 0, 1479, 1481, 54), (294, 201, 0, 1, 1487, 1489, 55), (299, 150, 1, 1, 1504, 1505, 0), (302, 206, 0, 2, 1511, 1513, 56), (305, 149, 1, 2, 1515, 1516, 0), (308, 207, 0, 2, 1518, 1520, 57), (312, 209, 0, 3, 1526, 1528, 58), (315, 212, 0, 1, 1539, 1541, 59), (318, 213, 0, 2, 1543, 1545, 60), (323, 216, 0, 1, 1556, 1558, 61), (326, 219, 0, 4, 1568, 1570, 62), (353, 233, 0, 1, 1624, 1626, 65), (356, 234, 0, 2, 1620, 1622, 64), (362, 235, 0, 2, 1628, 1630, 66), (368, 236, 0, 2, 1632, 1634, 67), (371, 237, 0, 2, 1636, 1638, 68), (374, 229, 0, 1, 1616, 1618, 63), (379, 243, 0, 2, 1656, 1658, 69), (382, 244, 1, 2, 1660, 1661, 0), (390, 230, 0, 1, 1676, 1678, 70), (393, 232, 1, 1, 1680, 1681, 0)]
  | 16 => [(13, 102, 0, 2, 445, 446, 447), (17, 161, 0, 2, 1280, 1281, 1282), (18, 103, 0, 2, 467, 468, 469), (21, 164, 0, 2, 1295, 1296, 1297), (22, 104, 0, 3, 475, 476, 477), (26, 165, 0, 3, 1317, 1318, 1319), (27, 106, 0, 3, 515, 516, 517), (30, 168, 0, 3, 1325, 1326, 1327), (31, 107, 0, 2, 552, 553, 554), (34, 169, 0, 2, 1350, 1351, 1352), (35, 108, 0, 1, 556, 557, 558), (39, 170, 0, 1, 1354, 1355, 1356), (40, 109, 0, 0, 564, 565, 566), (44, 184, 0, 0, 1359, 1360, 1361), (45, 110, 0, 1, 618, 619, 620), (48, 197, 0, 1, 1414, 1415, 1416), (49, 111, 0, 3, 655, 656, 657), (52, 199, 0, 3, 1445, 1446, 1447), (53, 112, 0, 2, 685, 686, 687), (56, 200, 0, 2, 1467, 1468, 1469), (57, 113, 0, 1, 710, 711, 712), (60, 202, 0, 1, 1483, 1484, 1485), (61, 114, 0, 1, 722, 723, 724), (64, 203, 0, 1, 1491, 1492, 1493), (65, 115, 0, 1, 734, 735, 736), (68, 204, 0, 1, 1495, 1496, 1497), (69, 116, 0, 2, 744, 745, 746), (72, 205, 0, 2, 1499, 1500, 1501), (73, 117, 0, 1, 765, 766, 767), (76, 208, 0, 1, 1507, 1508, 1509), (77, 118, 0, 2, 795, 796, 797), (80, 210, 0, 2, 1522, 1523, 1524), (81, 119, 0, 0, 828, 829, 830), (84, 211, 0, 0, 1531, 1532, 1533), (85, 120, 0, 2, 836, 837, 838), (88, 214, 0, 2, 1535, 1536, 1537), (89, 121, 0, 4, 846, 847, 848), (93, 215, 0, 4, 1547, 1548, 1549), (94, 122, 0, 2, 855, 856, 857), (97, 217, 0, 2, 1551, 1552, 1553), (98, 123, 0, 1, 860, 861, 862), (101, 218, 0, 1, 1560, 1561, 1562), (102, 124, 0, 3, 869, 870, 871), (105, 220, 0, 3, 1564, 1565, 1566), (106, 125, 0, 3, 902, 903, 904), (109, 221, 0, 3, 1572, 1573, 1574), (110, 126, 0, 0, 914, 915, 916), (113, 222, 0, 0, 1579, 1580, 1581), (114, 127, 0, 2, 923, 924, 925), (117, 223, 0, 2, 1583, 1584, 1585), (118, 128, 0, 2, 927, 928, 929), (121, 224, 0, 2, 1587, 1588, 1589), (122, 129, 0, 2, 932, 933, 934), (125, 225, 0, 2, 1591, 1592, 1593), (126, 130, 0, 1, 936, 937, 938), (129, 226, 0, 1, 1595, 1596, 1597), (130, 131, 0, 0, 944, 945, 946), (133, 227, 0, 0, 1600, 1601, 1602), (134, 132, 0, 0, 954, 955, 956), (137, 228, 0, 0, 1604, 1605, 1606), (138, 133, 0, 0, 964, 965, 966), (141, 154, 0, 0, 1272, 1273, 1274), (142, 134, 0, 0, 973, 974, 975), (145, 155, 0, 0, 1276, 1277, 1278), (146, 135, 0, 1, 981, 982, 983), (149, 231, 0, 1, 1608, 1609, 1610), (150, 136, 0, 3, 989, 990, 991), (153, 238, 0, 3, 1612, 1613, 1614), (154, 137, 0, 1, 1027, 1028, 1029), (157, 239, 0, 1, 1640, 1641, 1642), (158, 138, 0, 2, 1035, 1036, 1037), (161, 241, 0, 2, 1644, 1645, 1646), (162, 139, 0, 3, 1048, 1049, 1050), (165, 242, 0, 3, 1648, 1649, 1650), (168, 140, 0, 3, 1059, 1060, 1061), (172, 245, 0, 3, 1652, 1653, 1654), (173, 141, 0, 2, 1074, 1075, 1076), (177, 246, 0, 2, 1663, 1664, 1665), (178, 142, 0, 5, 1079, 1080, 1081), (182, 247, 0, 5, 1668, 1669, 1670), (183, 143, 0, 2, 1097, 1098, 1099), (186, 248, 0, 2, 1672, 1673, 1674), (187, 144, 0, 1, 1111, 1112, 1113), (190, 249, 0, 1, 1683, 1684, 1685)]
  | _ => []
def kR (c : Nat) : List (Nat × Int32 × Nat) := match c with
  | 2 => [(73, -2000000000, 536)]
  | 8 => [(114, 1103515245, 910)]
  | 10 => [(23, 1000000, 804)]
  | 11 => [(134, -2000000000, 527)]
  | 12 => [(176, -2000000000, 1349), (311, 1000000, 1530), (334, 1103515245, 1578)]
  | 13 => [(265, 1431655765, 820), (266, 858993459, 821), (267, 252645135, 822)]
  | _ => []
def lR (c : Nat) : List (Nat × Int64 × Nat) := match c with
  | 11 => [(119, 4, 501), (337, -9223372036854775808, 1078)]
  | 12 => [(121, 7, 1290), (127, -1, 1299), (136, 9, 1294), (138, 99, 1304), (154, 2, 1333), (156, 3, 1334), (158, 6, 1335), (163, 8, 1340), (177, 255, 1358), (277, 60, 1452), (297, 20, 1503), (321, 9999, 1555), (330, 30, 1576), (332, 12, 1577), (335, 4, 1599), (377, 5, 1324), (388, -9223372036854775808, 1667)]
  | 16 => [(166, 4294967295, 1687)]
  | _ => []
end
section
/-! generated by wip/whole/gen.py: the code of methods 0 .. 29 as data -/
/-- BeggarBridge$Arches.has(I)Z -/
def k0 : List (Nat × Instr × Nat) := [(0, .iload_n 1, 1), (1, .ifCond .lt 21, 3), (4, .iload_n 1, 1), (5, .aload_n 0, 1), (6, .getfield 18, 3), (9, .if_icmp .ge 13, 3), (12, .iload_n 1, 1), (13, .bipush 50, 2), (15, .if_icmp .ge 7, 3), (18, .iconst 1, 1), (19, .goto 4, 3), (22, .iconst 0, 1), (23, .ireturn, 1)]
theorem dk0 : ∀ r ∈ k0, decode prog_2_method_2_code r.1 = .ok r.2 := by decide +kernel
def me0 : MethodName × ByteArray × Nat × Option FieldType × Nat × List (Nat × Instr × Nat) := (⟨"BeggarBridge$Arches", "has", "(I)Z"⟩, prog_2_method_2_code, 2, (some .boolean), 0, k0)
/-- BeggarBridge$Arches.add(I)I -/
def k1 : List (Nat × Instr × Nat) := [(0, .aload_n 0, 1), (1, .getfield 18, 3), (4, .bipush 50, 2), (6, .if_icmp .lt 6, 3), (9, .bipush (-3), 2), (11, .ireturn, 1), (12, .aload_n 0, 1), (13, .getfield 11, 3), (16, .aload_n 0, 1), (17, .getfield 18, 3), (20, .iload_n 1, 1), (21, .iastore, 1), (22, .aload_n 0, 1), (23, .dup, 1), (24, .getfield 18, 3), (27, .dup_x1, 1), (28, .iconst 1, 1), (29, .iadd, 1), (30, .putfield 18, 3), (33, .ireturn, 1)]
theorem dk1 : ∀ r ∈ k1, decode prog_2_method_3_code r.1 = .ok r.2 := by decide +kernel
def me1 : MethodName × ByteArray × Nat × Option FieldType × Nat × List (Nat × Instr × Nat) := (⟨"BeggarBridge$Arches", "add", "(I)I"⟩, prog_2_method_3_code, 2, (some .int), 0, k1)
/-- BeggarBridge$Arches.kindOf(I)I -/
def k2 : List (Nat × Instr × Nat) := [(0, .aload_n 0, 1), (1, .iload_n 1, 1), (2, .invokevirtual 22, 3), (5, .ifCond .eq 12, 3), (8, .aload_n 0, 1), (9, .getfield 11, 3), (12, .iload_n 1, 1), (13, .iaload, 1), (14, .goto 4, 3), (17, .iconst (-1), 1), (18, .ireturn, 1)]
theorem dk2 : ∀ r ∈ k2, decode prog_2_method_4_code r.1 = .ok r.2 := by decide +kernel
def me2 : MethodName × ByteArray × Nat × Option FieldType × Nat × List (Nat × Instr × Nat) := (⟨"BeggarBridge$Arches", "kindOf", "(I)I"⟩, prog_2_method_4_code, 2, (some .int), 0, k2)
/-- BeggarBridge$Arches.above(I)I -/
def k3 : List (Nat × Instr × Nat) := [(0, .iload_n 0, 1), (1, .ifCond .lt 17, 3), (4, .iload_n 0, 1), (5, .bipush 8, 2), (7, .if_icmp .ge 11, 3), (10, .getstatic 26, 3), (13, .iload_n 0, 1), (14, .iaload, 1), (15, .goto 4, 3), (18, .iconst (-1), 1), (19, .ireturn, 1)]
theorem dk3 : ∀ r ∈ k3, decode prog_2_method_5_code r.1 = .ok r.2 := by decide +kernel
def me3 : MethodName × ByteArray × Nat × Option FieldType × Nat × List (Nat × Instr × Nat) := (⟨"BeggarBridge$Arches", "above", "(I)I"⟩, prog_2_method_5_code, 1, (some .int), 0, k3)
/-- BeggarBridge$Arches.ownBody(II)I -/
def k4 : List (Nat × Instr × Nat) := [(0, .iload_n 0, 1), (1, .ifCond .lt 30, 3), (4, .iload_n 0, 1), (5, .bipush 8, 2), (7, .if_icmp .ge 24, 3), (10, .iload_n 1, 1), (11, .ifCond .lt 20, 3), (14, .iload_n 1, 1), (15, .iconst 4, 1), (16, .if_icmp .ge 15, 3), (19, .getstatic 29, 3), (22, .iload_n 0, 1), (23, .iconst 4, 1), (24, .imul, 1), (25, .iload_n 1, 1), (26, .iadd, 1), (27, .iaload, 1), (28, .goto 4, 3), (31, .iconst 0, 1), (32, .ireturn, 1)]
theorem dk4 : ∀ r ∈ k4, decode prog_2_method_6_code r.1 = .ok r.2 := by decide +kernel
def me4 : MethodName × ByteArray × Nat × Option FieldType × Nat × List (Nat × Instr × Nat) := (⟨"BeggarBridge$Arches", "ownBody", "(II)I"⟩, prog_2_method_6_code, 2, (some .int), 0, k4)
/-- BeggarBridge$Arches.isUnder(II)Z -/
def k5 : List (Nat × Instr × Nat) := [(0, .aload_n 0, 1), (1, .iload_n 1, 1), (2, .invokevirtual 32, 3), (5, .istore_n 3, 1), (6, .iconst 0, 1), (7, .istore 4, 2), (9, .iload 4, 2), (11, .bipush 8, 2), (13, .if_icmp .ge 25, 3), (16, .iload_n 3, 1), (17, .ifCond .lt 21, 3), (20, .iload_n 3, 1), (21, .iload_n 2, 1), (22, .if_icmp .ne 5, 3), (25, .iconst 1, 1), (26, .ireturn, 1), (27, .iload_n 3, 1), (28, .invokestatic 36, 3), (31, .istore_n 3, 1), (32, .iinc 4 1, 3), (35, .goto (-26), 3), (38, .iconst 0, 1), (39, .ireturn, 1)]
theorem dk5 : ∀ r ∈ k5, decode prog_2_method_7_code r.1 = .ok r.2 := by decide +kernel
def me5 : MethodName × ByteArray × Nat × Option FieldType × Nat × List (Nat × Instr × Nat) := (⟨"BeggarBridge$Arches", "isUnder", "(II)Z"⟩, prog_2_method_7_code, 5, (some .boolean), 0, k5)
/-- BeggarBridge$Arches.begunAt(I)I -/
def k6 : List (Nat × Instr × Nat) := [(0, .iload_n 1, 1), (1, .ifCond .lt 26, 3), (4, .iload_n 1, 1), (5, .aload_n 0, 1), (6, .getfield 39, 3), (9, .if_icmp .ge 18, 3), (12, .iload_n 1, 1), (13, .bipush 24, 2), (15, .if_icmp .ge 12, 3), (18, .aload_n 0, 1), (19, .getfield 15, 3), (22, .iload_n 1, 1), (23, .iaload, 1), (24, .goto 4, 3), (27, .iconst (-1), 1), (28, .ireturn, 1)]
theorem dk6 : ∀ r ∈ k6, decode prog_2_method_8_code r.1 = .ok r.2 := by decide +kernel
def me6 : MethodName × ByteArray × Nat × Option FieldType × Nat × List (Nat × Instr × Nat) := (⟨"BeggarBridge$Arches", "begunAt", "(I)I"⟩, prog_2_method_8_code, 2, (some .int), 0, k6)
/-- BeggarBridge$Arches.perform(III)I -/
def k7 : List (Nat × Instr × Nat) := [(0, .aload_n 0, 1), (1, .iconst 0, 1), (2, .putfield 39, 3), (5, .aload_n 0, 1), (6, .iload_n 1, 1), (7, .invokevirtual 22, 3), (10, .ifCond .eq 23, 3), (13, .iload_n 2, 1), (14, .ifCond .lt 19, 3), (17, .iload_n 2, 1), (18, .iconst 3, 1), (19, .if_icmp .gt 14, 3), (22, .aload_n 0, 1), (23, .iload_n 1, 1), (24, .iload_n 2, 1), (25, .iload_n 3, 1), (26, .iconst 0, 1), (27, .invokevirtual 42, 3), (30, .goto 4, 3), (33, .iconst 0, 1), (34, .ireturn, 1)]
theorem dk7 : ∀ r ∈ k7, decode prog_2_method_9_code r.1 = .ok r.2 := by decide +kernel
def me7 : MethodName × ByteArray × Nat × Option FieldType × Nat × List (Nat × Instr × Nat) := (⟨"BeggarBridge$Arches", "perform", "(III)I"⟩, prog_2_method_9_code, 4, (some .int), 0, k7)
/-- BeggarBridge$Arches.note(I)V -/
def k8 : List (Nat × Instr × Nat) := [(0, .aload_n 0, 1), (1, .getfield 39, 3), (4, .ifCond .lt 22, 3), (7, .aload_n 0, 1), (8, .getfield 39, 3), (11, .bipush 24, 2), (13, .if_icmp .ge 13, 3), (16, .aload_n 0, 1), (17, .getfield 15, 3), (20, .aload_n 0, 1), (21, .getfield 39, 3), (24, .iload_n 1, 1), (25, .iastore, 1), (26, .aload_n 0, 1), (27, .dup, 1), (28, .getfield 39, 3), (31, .iconst 1, 1), (32, .iadd, 1), (33, .putfield 39, 3), (36, .return_, 1)]
theorem dk8 : ∀ r ∈ k8, decode prog_2_method_10_code r.1 = .ok r.2 := by decide +kernel
def me8 : MethodName × ByteArray × Nat × Option FieldType × Nat × List (Nat × Instr × Nat) := (⟨"BeggarBridge$Arches", "note", "(I)V"⟩, prog_2_method_10_code, 2, none, 0, k8)
/-- BeggarBridge$Arches.own(IIII)I -/
def k9 : List (Nat × Instr × Nat) := [(0, .aload_n 0, 1), (1, .iload_n 1, 1), (2, .aload_n 0, 1), (3, .iload_n 1, 1), (4, .invokevirtual 32, 3), (7, .iload_n 2, 1), (8, .iload_n 3, 1), (9, .iload 4, 2), (11, .invokevirtual 46, 3), (14, .ireturn, 1)]
theorem dk9 : ∀ r ∈ k9, decode prog_2_method_11_code r.1 = .ok r.2 := by decide +kernel
def me9 : MethodName × ByteArray × Nat × Option FieldType × Nat × List (Nat × Instr × Nat) := (⟨"BeggarBridge$Arches", "own", "(IIII)I"⟩, prog_2_method_11_code, 5, (some .int), 0, k9)
/-- BeggarBridge$Arches.run(IIIII)I -/
def k10_0 : List (Nat × Instr × Nat) := [(0, .iload_n 2, 1), (1, .istore 6, 2), (3, .iconst 0, 1), (4, .istore 7, 2), (6, .iload 7, 2), (8, .bipush 8, 2), (10, .if_icmp .ge 30, 3), (13, .iload 6, 2), (15, .ifCond .lt 25, 3), (18, .iload 6, 2), (20, .iload_n 3, 1), (21, .invokestatic 50, 3), (24, .ifCond .ne 16, 3), (27, .iload 6, 2), (29, .invokestatic 36, 3), (32, .istore 6, 2), (34, .iinc 7 1, 3), (37, .goto (-31), 3), (40, .iload 6, 2), (42, .iload_n 3, 1), (43, .invokestatic 50, 3), (46, .istore 7, 2), (48, .iload 7, 2), (50, .ifCond .eq 10, 3), (53, .iload 5, 2), (55, .bipush 40, 2), (57, .if_icmp .le 5, 3), (60, .iconst 0, 1), (61, .ireturn, 1), (62, .aload_n 0, 1), (63, .iload 7, 2), (65, .invokevirtual 54, 3), (68, .iload 5, 2), (70, .iconst 1, 1), (71, .iadd, 1), (72, .istore 8, 2), (74, .iload 6, 2), (76, .invokestatic 36, 3), (79, .istore 9, 2), (81, .iload 7, 2), (83, .lookupswitch 307 #[(1, 113), (2, 118), (10, 139), (11, 152), (20, 157), (30, 172), (40, 186), (41, 201), (50, 216), (60, 239), (70, 254), (80, 269), (81, 292)], 113), (196, .iload 4, 2), (198, .iload_n 1, 1), (199, .iadd, 1), (200, .ireturn, 1), (201, .aload_n 0, 1), (202, .iload_n 1, 1), (203, .iconst 1, 1), (204, .iload 4, 2), (206, .iload 8, 2), (208, .invokevirtual 42, 3), (211, .aload_n 0, 1), (212, .iload_n 1, 1), (213, .iconst 2, 1), (214, .iconst 1, 1), (215, .iload 8, 2), (217, .invokevirtual 42, 3), (220, .isub, 1), (221, .ireturn, 1), (222, .aload_n 0, 1)]
theorem dk10_0 : ∀ r ∈ k10_0, decode prog_2_method_12_code r.1 = .ok r.2 := by decide +kernel
def k10_1 : List (Nat × Instr × Nat) := [(223, .iload_n 1, 1), (224, .iconst 0, 1), (225, .iload 4, 2), (227, .iload 8, 2), (229, .invokevirtual 42, 3), (232, .iconst 2, 1), (233, .imul, 1), (234, .ireturn, 1), (235, .iload 4, 2), (237, .iload_n 1, 1), (238, .ixor, 1), (239, .ireturn, 1), (240, .aload_n 0, 1), (241, .iload_n 1, 1), (242, .iload 9, 2), (244, .iload_n 3, 1), (245, .iload 4, 2), (247, .iload 8, 2), (249, .invokevirtual 46, 3), (252, .iconst 3, 1), (253, .iadd, 1), (254, .ireturn, 1), (255, .aload_n 0, 1), (256, .iload_n 1, 1), (257, .iload 9, 2), (259, .iload_n 3, 1), (260, .iload 4, 2), (262, .iload 8, 2), (264, .invokevirtual 46, 3), (267, .ineg, 1), (268, .ireturn, 1), (269, .aload_n 0, 1), (270, .iload_n 1, 1), (271, .iload 9, 2), (273, .iload_n 3, 1), (274, .iload 4, 2), (276, .iload 8, 2), (278, .invokevirtual 46, 3), (281, .iconst 3, 1), (282, .imul, 1), (283, .ireturn, 1), (284, .aload_n 0, 1), (285, .iload_n 1, 1), (286, .iload 9, 2), (288, .iload_n 3, 1), (289, .iload 4, 2), (291, .iconst 1, 1), (292, .iadd, 1), (293, .iload 8, 2), (295, .invokevirtual 46, 3), (298, .ireturn, 1), (299, .aload_n 0, 1), (300, .iload_n 1, 1), (301, .iload 9, 2), (303, .iload_n 3, 1), (304, .iload 4, 2), (306, .iload 8, 2), (308, .invokevirtual 46, 3), (311, .aload_n 0, 1), (312, .iload_n 1, 1)]
theorem dk10_1 : ∀ r ∈ k10_1, decode prog_2_method_12_code r.1 = .ok r.2 := by decide +kernel
def k10_2 : List (Nat × Instr × Nat) := [(313, .iconst 0, 1), (314, .iconst 2, 1), (315, .iload 8, 2), (317, .invokevirtual 42, 3), (320, .isub, 1), (321, .ireturn, 1), (322, .aload_n 0, 1), (323, .iload_n 1, 1), (324, .iload 9, 2), (326, .iload_n 3, 1), (327, .iload 4, 2), (329, .iload 8, 2), (331, .invokevirtual 46, 3), (334, .iconst 5, 1), (335, .ixor, 1), (336, .ireturn, 1), (337, .aload_n 0, 1), (338, .iload_n 1, 1), (339, .iload 9, 2), (341, .iload_n 3, 1), (342, .iload 4, 2), (344, .iload 8, 2), (346, .invokevirtual 46, 3), (349, .iconst 2, 1), (350, .imul, 1), (351, .ireturn, 1), (352, .aload_n 0, 1), (353, .iload_n 1, 1), (354, .iload 9, 2), (356, .iload_n 3, 1), (357, .iload 4, 2), (359, .iload 8, 2), (361, .invokevirtual 46, 3), (364, .aload_n 0, 1), (365, .iload_n 1, 1), (366, .iconst 2, 1), (367, .iconst 2, 1), (368, .iload 8, 2), (370, .invokevirtual 42, 3), (373, .iadd, 1), (374, .ireturn, 1), (375, .aload_n 0, 1), (376, .iload_n 1, 1), (377, .iload 9, 2), (379, .iload_n 3, 1), (380, .iload 4, 2), (382, .iload 8, 2), (384, .invokevirtual 46, 3), (387, .iconst 1, 1), (388, .isub, 1), (389, .ireturn, 1), (390, .iconst 0, 1), (391, .ireturn, 1)]
theorem dk10_2 : ∀ r ∈ k10_2, decode prog_2_method_12_code r.1 = .ok r.2 := by decide +kernel
def k10 : List (Nat × Instr × Nat) := k10_0 ++ (k10_1 ++ (k10_2))
theorem dk10 : ∀ r ∈ k10, decode prog_2_method_12_code r.1 = .ok r.2 := List.forall_mem_append.mpr ⟨dk10_0, List.forall_mem_append.mpr ⟨dk10_1, dk10_2⟩⟩
def me10 : MethodName × ByteArray × Nat × Option FieldType × Nat × List (Nat × Instr × Nat) := (⟨"BeggarBridge$Arches", "run", "(IIIII)I"⟩, prog_2_method_12_code, 10, (some .int), 0, k10)
/-- BeggarBridge$Changes.add(IIII)V -/
def k11 : List (Nat × Instr × Nat) := [(0, .aload_n 0, 1), (1, .getfield 24, 3), (4, .bipush 40, 2), (6, .if_icmp .lt 7, 3), (9, .aload_n 0, 1), (10, .invokevirtual 28, 3), (13, .aload_n 0, 1), (14, .getfield 11, 3), (17, .aload_n 0, 1), (18, .getfield 24, 3), (21, .iload_n 1, 1), (22, .iastore, 1), (23, .aload_n 0, 1), (24, .getfield 15, 3), (27, .aload_n 0, 1), (28, .getfield 24, 3), (31, .iload_n 2, 1), (32, .iastore, 1), (33, .aload_n 0, 1), (34, .getfield 18, 3), (37, .aload_n 0, 1), (38, .getfield 24, 3), (41, .iload_n 3, 1), (42, .iastore, 1), (43, .aload_n 0, 1), (44, .getfield 21, 3), (47, .aload_n 0, 1), (48, .getfield 24, 3), (51, .iload 4, 2), (53, .iastore, 1), (54, .aload_n 0, 1), (55, .dup, 1), (56, .getfield 24, 3), (59, .iconst 1, 1), (60, .iadd, 1), (61, .putfield 24, 3), (64, .aload_n 0, 1), (65, .aload_n 0, 1), (66, .getfield 24, 3), (69, .putfield 31, 3), (72, .return_, 1)]
theorem dk11 : ∀ r ∈ k11, decode prog_3_method_2_code r.1 = .ok r.2 := by decide +kernel
def me11 : MethodName × ByteArray × Nat × Option FieldType × Nat × List (Nat × Instr × Nat) := (⟨"BeggarBridge$Changes", "add", "(IIII)V"⟩, prog_3_method_2_code, 5, none, 1, k11)
/-- BeggarBridge$Changes.dropOldest()V -/
def k12 : List (Nat × Instr × Nat) := [(0, .aload_n 0, 1), (1, .getfield 11, 3), (4, .iconst 1, 1), (5, .aload_n 0, 1), (6, .getfield 11, 3), (9, .iconst 0, 1), (10, .bipush 39, 2), (12, .invokestatic 34, 3), (15, .aload_n 0, 1), (16, .getfield 15, 3), (19, .iconst 1, 1), (20, .aload_n 0, 1), (21, .getfield 15, 3), (24, .iconst 0, 1), (25, .bipush 39, 2), (27, .invokestatic 34, 3), (30, .aload_n 0, 1), (31, .getfield 18, 3), (34, .iconst 1, 1), (35, .aload_n 0, 1), (36, .getfield 18, 3), (39, .iconst 0, 1), (40, .bipush 39, 2), (42, .invokestatic 34, 3), (45, .aload_n 0, 1), (46, .getfield 21, 3), (49, .iconst 1, 1), (50, .aload_n 0, 1), (51, .getfield 21, 3), (54, .iconst 0, 1), (55, .bipush 39, 2), (57, .invokestatic 34, 3), (60, .aload_n 0, 1), (61, .bipush 39, 2), (63, .putfield 24, 3), (66, .return_, 1)]
theorem dk12 : ∀ r ∈ k12, decode prog_3_method_3_code r.1 = .ok r.2 := by decide +kernel
def me12 : MethodName × ByteArray × Nat × Option FieldType × Nat × List (Nat × Instr × Nat) := (⟨"BeggarBridge$Changes", "dropOldest", "()V"⟩, prog_3_method_3_code, 1, none, 1, k12)
/-- BeggarBridge$Changes.takeBack(LBeggarBridge$County;)I -/
def k13 : List (Nat × Instr × Nat) := [(0, .aload_n 0, 1), (1, .getfield 24, 3), (4, .ifCond .le 12, 3), (7, .aload_n 0, 1), (8, .getfield 24, 3), (11, .bipush 40, 2), (13, .if_icmp .le 6, 3), (16, .bipush (-5), 2), (18, .ireturn, 1), (19, .aload_n 0, 1), (20, .dup, 1), (21, .getfield 24, 3), (24, .iconst 1, 1), (25, .isub, 1), (26, .putfield 24, 3), (29, .aload_n 1, 1), (30, .aload_n 0, 1), (31, .getfield 11, 3), (34, .aload_n 0, 1), (35, .getfield 24, 3), (38, .iaload, 1), (39, .aload_n 0, 1), (40, .getfield 15, 3), (43, .aload_n 0, 1), (44, .getfield 24, 3), (47, .iaload, 1), (48, .aload_n 0, 1), (49, .getfield 18, 3), (52, .aload_n 0, 1), (53, .getfield 24, 3), (56, .iaload, 1), (57, .invokevirtual 40, 3), (60, .aload_n 0, 1), (61, .getfield 24, 3), (64, .ireturn, 1)]
theorem dk13 : ∀ r ∈ k13, decode prog_3_method_4_code r.1 = .ok r.2 := by decide +kernel
def me13 : MethodName × ByteArray × Nat × Option FieldType × Nat × List (Nat × Instr × Nat) := (⟨"BeggarBridge$Changes", "takeBack", "(LBeggarBridge$County;)I"⟩, prog_3_method_4_code, 2, (some .int), 1, k13)
/-- BeggarBridge$Changes.doAgain(LBeggarBridge$County;)I -/
def k14 : List (Nat × Instr × Nat) := [(0, .aload_n 0, 1), (1, .getfield 24, 3), (4, .aload_n 0, 1), (5, .getfield 31, 3), (8, .if_icmp .ge 19, 3), (11, .aload_n 0, 1), (12, .getfield 24, 3), (15, .ifCond .lt 12, 3), (18, .aload_n 0, 1), (19, .getfield 24, 3), (22, .bipush 40, 2), (24, .if_icmp .lt 6, 3), (27, .bipush (-5), 2), (29, .ireturn, 1), (30, .aload_n 1, 1), (31, .aload_n 0, 1), (32, .getfield 11, 3), (35, .aload_n 0, 1), (36, .getfield 24, 3), (39, .iaload, 1), (40, .aload_n 0, 1), (41, .getfield 15, 3), (44, .aload_n 0, 1), (45, .getfield 24, 3), (48, .iaload, 1), (49, .aload_n 0, 1), (50, .getfield 21, 3), (53, .aload_n 0, 1), (54, .getfield 24, 3), (57, .iaload, 1), (58, .invokevirtual 40, 3), (61, .aload_n 0, 1), (62, .dup, 1), (63, .getfield 24, 3), (66, .iconst 1, 1), (67, .iadd, 1), (68, .putfield 24, 3), (71, .aload_n 0, 1), (72, .getfield 31, 3), (75, .aload_n 0, 1), (76, .getfield 24, 3), (79, .isub, 1), (80, .ireturn, 1)]
theorem dk14 : ∀ r ∈ k14, decode prog_3_method_5_code r.1 = .ok r.2 := by decide +kernel
def me14 : MethodName × ByteArray × Nat × Option FieldType × Nat × List (Nat × Instr × Nat) := (⟨"BeggarBridge$Changes", "doAgain", "(LBeggarBridge$County;)I"⟩, prog_3_method_5_code, 2, (some .int), 1, k14)
/-- BeggarBridge$County.hasBridge(I)Z -/
def k15 : List (Nat × Instr × Nat) := [(0, .iload_n 1, 1), (1, .ifCond .lt 21, 3), (4, .iload_n 1, 1), (5, .aload_n 0, 1), (6, .getfield 49, 3), (9, .if_icmp .ge 13, 3), (12, .iload_n 1, 1), (13, .bipush 8, 2), (15, .if_icmp .ge 7, 3), (18, .iconst 1, 1), (19, .goto 4, 3), (22, .iconst 0, 1), (23, .ireturn, 1)]
theorem dk15 : ∀ r ∈ k15, decode prog_4_method_2_code r.1 = .ok r.2 := by decide +kernel
def me15 : MethodName × ByteArray × Nat × Option FieldType × Nat × List (Nat × Instr × Nat) := (⟨"BeggarBridge$County", "hasBridge", "(I)Z"⟩, prog_4_method_2_code, 2, (some .boolean), 2, k15)
/-- BeggarBridge$County.hasBeggar(I)Z -/
def k16 : List (Nat × Instr × Nat) := [(0, .iload_n 1, 1), (1, .ifCond .lt 21, 3), (4, .iload_n 1, 1), (5, .aload_n 0, 1), (6, .getfield 52, 3), (9, .if_icmp .ge 13, 3), (12, .iload_n 1, 1), (13, .bipush 9, 2), (15, .if_icmp .ge 7, 3), (18, .iconst 1, 1), (19, .goto 4, 3), (22, .iconst 0, 1), (23, .ireturn, 1)]
theorem dk16 : ∀ r ∈ k16, decode prog_4_method_3_code r.1 = .ok r.2 := by decide +kernel
def me16 : MethodName × ByteArray × Nat × Option FieldType × Nat × List (Nat × Instr × Nat) := (⟨"BeggarBridge$County", "hasBeggar", "(I)Z"⟩, prog_4_method_3_code, 2, (some .boolean), 2, k16)
/-- BeggarBridge$County.addBridge(III)I -/
def k17 : List (Nat × Instr × Nat) := [(0, .aload_n 0, 1), (1, .getfield 49, 3), (4, .bipush 8, 2), (6, .if_icmp .lt 6, 3), (9, .bipush (-3), 2), (11, .ireturn, 1), (12, .aload_n 0, 1), (13, .dup, 1), (14, .getfield 49, 3), (17, .dup_x1, 1), (18, .iconst 1, 1), (19, .iadd, 1), (20, .putfield 49, 3), (23, .istore 4, 2), (25, .aload_n 0, 1), (26, .getfield 9, 3), (29, .iload 4, 2), (31, .iload_n 1, 1), (32, .iastore, 1), (33, .aload_n 0, 1), (34, .getfield 15, 3), (37, .iload 4, 2), (39, .iload_n 2, 1), (40, .iastore, 1), (41, .aload_n 0, 1), (42, .getfield 18, 3), (45, .iload 4, 2), (47, .iload_n 3, 1), (48, .iastore, 1), (49, .aload_n 0, 1), (50, .getfield 21, 3), (53, .iload 4, 2), (55, .bipush 99, 2), (57, .iastore, 1), (58, .aload_n 0, 1), (59, .getfield 24, 3), (62, .iload 4, 2), (64, .iconst 3, 1), (65, .iastore, 1), (66, .iload 4, 2), (68, .ireturn, 1)]
theorem dk17 : ∀ r ∈ k17, decode prog_4_method_4_code r.1 = .ok r.2 := by decide +kernel
def me17 : MethodName × ByteArray × Nat × Option FieldType × Nat × List (Nat × Instr × Nat) := (⟨"BeggarBridge$County", "addBridge", "(III)I"⟩, prog_4_method_4_code, 5, (some .int), 2, k17)
/-- BeggarBridge$County.addBeggar(IIII)I -/
def k18 : List (Nat × Instr × Nat) := [(0, .aload_n 0, 1), (1, .getfield 52, 3), (4, .bipush 9, 2), (6, .if_icmp .lt 6, 3), (9, .bipush (-3), 2), (11, .ireturn, 1), (12, .aload_n 0, 1), (13, .dup, 1), (14, .getfield 52, 3), (17, .dup_x1, 1), (18, .iconst 1, 1), (19, .iadd, 1), (20, .putfield 52, 3), (23, .istore 5, 2), (25, .aload_n 0, 1), (26, .getfield 27, 3), (29, .iload 5, 2), (31, .iload_n 1, 1), (32, .iastore, 1), (33, .aload_n 0, 1), (34, .getfield 30, 3), (37, .iload 5, 2), (39, .iload_n 2, 1), (40, .iastore, 1), (41, .aload_n 0, 1), (42, .getfield 33, 3), (45, .iload 5, 2), (47, .iload_n 3, 1), (48, .iastore, 1), (49, .aload_n 0, 1), (50, .getfield 36, 3), (53, .iload 5, 2), (55, .iload 4, 2), (57, .iastore, 1), (58, .iload 5, 2), (60, .ireturn, 1)]
theorem dk18 : ∀ r ∈ k18, decode prog_4_method_5_code r.1 = .ok r.2 := by decide +kernel
def me18 : MethodName × ByteArray × Nat × Option FieldType × Nat × List (Nat × Instr × Nat) := (⟨"BeggarBridge$County", "addBeggar", "(IIII)I"⟩, prog_4_method_5_code, 6, (some .int), 2, k18)
/-- BeggarBridge$County.holds(II)Z -/
def k19 : List (Nat × Instr × Nat) := [(0, .iload_n 2, 1), (1, .bipush 7, 2), (3, .if_icmp .eq 9, 3), (6, .iload_n 2, 1), (7, .bipush 8, 2), (9, .if_icmp .ne 13, 3), (12, .iload_n 1, 1), (13, .ifCond .ne 7, 3), (16, .iconst 1, 1), (17, .goto 4, 3), (20, .iconst 0, 1), (21, .ireturn, 1), (22, .iload_n 2, 1), (23, .iconst 3, 1), (24, .if_icmp .lt 15, 3), (27, .iload_n 2, 1), (28, .bipush 6, 2), (30, .if_icmp .gt 9, 3), (33, .aload_n 0, 1), (34, .iload_n 1, 1), (35, .invokevirtual 55, 3), (38, .ireturn, 1), (39, .iload_n 2, 1), (40, .ifCond .lt 21, 3), (43, .iload_n 2, 1), (44, .bipush 10, 2), (46, .if_icmp .gt 15, 3), (49, .aload_n 0, 1), (50, .iload_n 1, 1), (51, .invokevirtual 59, 3), (54, .ifCond .eq 7, 3), (57, .iconst 1, 1), (58, .goto 4, 3), (61, .iconst 0, 1), (62, .ireturn, 1)]
theorem dk19 : ∀ r ∈ k19, decode prog_4_method_6_code r.1 = .ok r.2 := by decide +kernel
def me19 : MethodName × ByteArray × Nat × Option FieldType × Nat × List (Nat × Instr × Nat) := (⟨"BeggarBridge$County", "holds", "(II)Z"⟩, prog_4_method_6_code, 3, (some .boolean), 2, k19)
/-- BeggarBridge$County.allows(II)Z -/
def k20 : List (Nat × Instr × Nat) := [(0, .iload_n 1, 1), (1, .tableswitch 102 0 8 #[51, 59, 67, 59, 67, 67, 75, 59, 94], 51), (52, .iload_n 2, 1), (53, .iconst 1, 1), (54, .bipush 9, 2), (56, .invokestatic 62, 3), (59, .ireturn, 1), (60, .iload_n 2, 1), (61, .iconst 0, 1), (62, .bipush 99, 2), (64, .invokestatic 62, 3), (67, .ireturn, 1), (68, .iload_n 2, 1), (69, .iconst 0, 1), (70, .bipush 9, 2), (72, .invokestatic 62, 3), (75, .ireturn, 1), (76, .iload_n 2, 1), (77, .iconst (-1), 1), (78, .if_icmp .eq 11, 3), (81, .aload_n 0, 1), (82, .iload_n 2, 1), (83, .invokevirtual 59, 3), (86, .ifCond .eq 7, 3), (89, .iconst 1, 1), (90, .goto 4, 3), (93, .iconst 0, 1), (94, .ireturn, 1), (95, .iload_n 2, 1), (96, .iconst 0, 1), (97, .bipush 6, 2), (99, .invokestatic 62, 3), (102, .ireturn, 1), (103, .iconst 0, 1), (104, .ireturn, 1)]
theorem dk20 : ∀ r ∈ k20, decode prog_4_method_7_code r.1 = .ok r.2 := by decide +kernel
def me20 : MethodName × ByteArray × Nat × Option FieldType × Nat × List (Nat × Instr × Nat) := (⟨"BeggarBridge$County", "allows", "(II)Z"⟩, prog_4_method_7_code, 3, (some .boolean), 2, k20)
/-- BeggarBridge$County.numbersOf(I)[I -/
def k21 : List (Nat × Instr × Nat) := [(0, .iload_n 1, 1), (1, .tableswitch 104 0 10 #[59, 64, 69, 74, 79, 84, 89, 104, 104, 94, 99], 59), (60, .aload_n 0, 1), (61, .getfield 18, 3), (64, .areturn, 1), (65, .aload_n 0, 1), (66, .getfield 21, 3), (69, .areturn, 1), (70, .aload_n 0, 1), (71, .getfield 24, 3), (74, .areturn, 1), (75, .aload_n 0, 1), (76, .getfield 27, 3), (79, .areturn, 1), (80, .aload_n 0, 1), (81, .getfield 30, 3), (84, .areturn, 1), (85, .aload_n 0, 1), (86, .getfield 33, 3), (89, .areturn, 1), (90, .aload_n 0, 1), (91, .getfield 36, 3), (94, .areturn, 1), (95, .aload_n 0, 1), (96, .getfield 9, 3), (99, .areturn, 1), (100, .aload_n 0, 1), (101, .getfield 15, 3), (104, .areturn, 1), (105, .aconst_null, 1), (106, .areturn, 1)]
theorem dk21 : ∀ r ∈ k21, decode prog_4_method_8_code r.1 = .ok r.2 := by decide +kernel
def me21 : MethodName × ByteArray × Nat × Option FieldType × Nat × List (Nat × Instr × Nat) := (⟨"BeggarBridge$County", "numbersOf", "(I)[I"⟩, prog_4_method_8_code, 2, (some (.array .int)), 2, k21)
/-- BeggarBridge$County.read(II)I -/
def k22 : List (Nat × Instr × Nat) := [(0, .iload_n 2, 1), (1, .bipush 7, 2), (3, .if_icmp .ne 8, 3), (6, .aload_n 0, 1), (7, .getfield 45, 3), (10, .ireturn, 1), (11, .iload_n 2, 1), (12, .bipush 8, 2), (14, .if_icmp .ne 8, 3), (17, .aload_n 0, 1), (18, .getfield 66, 3), (21, .ireturn, 1), (22, .aload_n 0, 1), (23, .iload_n 2, 1), (24, .invokevirtual 69, 3), (27, .astore_n 3, 1), (28, .aload_n 3, 1), (29, .ifnull 13, 3), (32, .iload_n 1, 1), (33, .ifCond .lt 9, 3), (36, .iload_n 1, 1), (37, .aload_n 3, 1), (38, .arraylength, 1), (39, .if_icmp .lt 8, 3), (42, .ldc 73, 2), (44, .goto 6, 3), (47, .aload_n 3, 1), (48, .iload_n 1, 1), (49, .iaload, 1), (50, .ireturn, 1)]
theorem dk22 : ∀ r ∈ k22, decode prog_4_method_9_code r.1 = .ok r.2 := by decide +kernel
def me22 : MethodName × ByteArray × Nat × Option FieldType × Nat × List (Nat × Instr × Nat) := (⟨"BeggarBridge$County", "read", "(II)I"⟩, prog_4_method_9_code, 4, (some .int), 2, k22)
/-- BeggarBridge$County.write(III)V -/
def k23 : List (Nat × Instr × Nat) := [(0, .iload_n 2, 1), (1, .bipush 7, 2), (3, .if_icmp .ne 11, 3), (6, .aload_n 0, 1), (7, .iload_n 3, 1), (8, .putfield 45, 3), (11, .goto 45, 3), (14, .iload_n 2, 1), (15, .bipush 8, 2), (17, .if_icmp .ne 11, 3), (20, .aload_n 0, 1), (21, .iload_n 3, 1), (22, .putfield 66, 3), (25, .goto 31, 3), (28, .aload_n 0, 1), (29, .iload_n 2, 1), (30, .invokevirtual 69, 3), (33, .astore 4, 2), (35, .aload 4, 2), (37, .ifnull 19, 3), (40, .iload_n 1, 1), (41, .ifCond .lt 15, 3), (44, .iload_n 1, 1), (45, .aload 4, 2), (47, .arraylength, 1), (48, .if_icmp .ge 8, 3), (51, .aload 4, 2), (53, .iload_n 1, 1), (54, .iload_n 3, 1), (55, .iastore, 1), (56, .return_, 1)]
theorem dk23 : ∀ r ∈ k23, decode prog_4_method_10_code r.1 = .ok r.2 := by decide +kernel
def me23 : MethodName × ByteArray × Nat × Option FieldType × Nat × List (Nat × Instr × Nat) := (⟨"BeggarBridge$County", "write", "(III)V"⟩, prog_4_method_10_code, 5, none, 2, k23)
/-- BeggarBridge$County.raise(III)I -/
def k24 : List (Nat × Instr × Nat) := [(0, .aload_n 0, 1), (1, .iload_n 1, 1), (2, .iload_n 2, 1), (3, .aload_n 0, 1), (4, .iload_n 1, 1), (5, .iload_n 2, 1), (6, .invokevirtual 74, 3), (9, .iload_n 3, 1), (10, .iadd, 1), (11, .bipush 99, 2), (13, .invokestatic 78, 3), (16, .invokevirtual 81, 3), (19, .aload_n 0, 1), (20, .iload_n 1, 1), (21, .iload_n 2, 1), (22, .invokevirtual 74, 3), (25, .ireturn, 1)]
theorem dk24 : ∀ r ∈ k24, decode prog_4_method_11_code r.1 = .ok r.2 := by decide +kernel
def me24 : MethodName × ByteArray × Nat × Option FieldType × Nat × List (Nat × Instr × Nat) := (⟨"BeggarBridge$County", "raise", "(III)I"⟩, prog_4_method_11_code, 4, (some .int), 2, k24)
/-- BeggarBridge$County.copyOf(LBeggarBridge$County;)V -/
def k25_0 : List (Nat × Instr × Nat) := [(0, .aload_n 1, 1), (1, .getfield 9, 3), (4, .iconst 0, 1), (5, .aload_n 0, 1), (6, .getfield 9, 3), (9, .iconst 0, 1), (10, .bipush 8, 2), (12, .invokestatic 85, 3), (15, .aload_n 1, 1), (16, .getfield 15, 3), (19, .iconst 0, 1), (20, .aload_n 0, 1), (21, .getfield 15, 3), (24, .iconst 0, 1), (25, .bipush 8, 2), (27, .invokestatic 85, 3), (30, .aload_n 1, 1), (31, .getfield 18, 3), (34, .iconst 0, 1), (35, .aload_n 0, 1), (36, .getfield 18, 3), (39, .iconst 0, 1), (40, .bipush 8, 2), (42, .invokestatic 85, 3), (45, .aload_n 1, 1), (46, .getfield 21, 3), (49, .iconst 0, 1), (50, .aload_n 0, 1), (51, .getfield 21, 3), (54, .iconst 0, 1), (55, .bipush 8, 2), (57, .invokestatic 85, 3), (60, .aload_n 1, 1), (61, .getfield 24, 3), (64, .iconst 0, 1), (65, .aload_n 0, 1), (66, .getfield 24, 3), (69, .iconst 0, 1), (70, .bipush 8, 2), (72, .invokestatic 85, 3), (75, .aload_n 1, 1), (76, .getfield 27, 3), (79, .iconst 0, 1), (80, .aload_n 0, 1), (81, .getfield 27, 3), (84, .iconst 0, 1), (85, .bipush 9, 2), (87, .invokestatic 85, 3), (90, .aload_n 1, 1), (91, .getfield 30, 3), (94, .iconst 0, 1), (95, .aload_n 0, 1), (96, .getfield 30, 3), (99, .iconst 0, 1), (100, .bipush 9, 2), (102, .invokestatic 85, 3), (105, .aload_n 1, 1), (106, .getfield 33, 3), (109, .iconst 0, 1), (110, .aload_n 0, 1)]
theorem dk25_0 : ∀ r ∈ k25_0, decode prog_4_method_12_code r.1 = .ok r.2 := by decide +kernel
def k25_1 : List (Nat × Instr × Nat) := [(111, .getfield 33, 3), (114, .iconst 0, 1), (115, .bipush 9, 2), (117, .invokestatic 85, 3), (120, .aload_n 1, 1), (121, .getfield 36, 3), (124, .iconst 0, 1), (125, .aload_n 0, 1), (126, .getfield 36, 3), (129, .iconst 0, 1), (130, .bipush 9, 2), (132, .invokestatic 85, 3), (135, .aload_n 0, 1), (136, .aload_n 1, 1), (137, .getfield 49, 3), (140, .putfield 49, 3), (143, .aload_n 0, 1), (144, .aload_n 1, 1), (145, .getfield 52, 3), (148, .putfield 52, 3), (151, .aload_n 0, 1), (152, .aload_n 1, 1), (153, .getfield 45, 3), (156, .putfield 45, 3), (159, .aload_n 0, 1), (160, .aload_n 1, 1), (161, .getfield 66, 3), (164, .putfield 66, 3), (167, .return_, 1)]
theorem dk25_1 : ∀ r ∈ k25_1, decode prog_4_method_12_code r.1 = .ok r.2 := by decide +kernel
def k25 : List (Nat × Instr × Nat) := k25_0 ++ (k25_1)
theorem dk25 : ∀ r ∈ k25, decode prog_4_method_12_code r.1 = .ok r.2 := List.forall_mem_append.mpr ⟨dk25_0, dk25_1⟩
def me25 : MethodName × ByteArray × Nat × Option FieldType × Nat × List (Nat × Instr × Nat) := (⟨"BeggarBridge$County", "copyOf", "(LBeggarBridge$County;)V"⟩, prog_4_method_12_code, 2, none, 2, k25)
/-- BeggarBridge$County.tally()V -/
def k26 : List (Nat × Instr × Nat) := [(0, .aload_n 0, 1), (1, .getfield 39, 3), (4, .iconst 0, 1), (5, .invokestatic 91, 3), (8, .aload_n 0, 1), (9, .getfield 42, 3), (12, .iconst 0, 1), (13, .invokestatic 91, 3), (16, .iconst 0, 1), (17, .istore_n 1, 1), (18, .iload_n 1, 1), (19, .aload_n 0, 1), (20, .getfield 52, 3), (23, .if_icmp .ge 20, 3), (26, .iload_n 1, 1), (27, .bipush 9, 2), (29, .if_icmp .ge 14, 3), (32, .aload_n 0, 1), (33, .iload_n 1, 1), (34, .invokevirtual 97, 3), (37, .iinc 1 1, 3), (40, .goto (-22), 3), (43, .return_, 1)]
theorem dk26 : ∀ r ∈ k26, decode prog_4_method_13_code r.1 = .ok r.2 := by decide +kernel
def me26 : MethodName × ByteArray × Nat × Option FieldType × Nat × List (Nat × Instr × Nat) := (⟨"BeggarBridge$County", "tally", "()V"⟩, prog_4_method_13_code, 2, none, 2, k26)
/-- BeggarBridge$County.tallyOne(I)V -/
def k27 : List (Nat × Instr × Nat) := [(0, .aload_n 0, 1), (1, .getfield 36, 3), (4, .iload_n 1, 1), (5, .iaload, 1), (6, .istore_n 2, 1), (7, .aload_n 0, 1), (8, .iload_n 2, 1), (9, .invokevirtual 59, 3), (12, .ifCond .eq 39, 3), (15, .aload_n 0, 1), (16, .getfield 27, 3), (19, .iload_n 1, 1), (20, .iaload, 1), (21, .aload_n 0, 1), (22, .getfield 45, 3), (25, .if_icmp .gt 16, 3), (28, .aload_n 0, 1), (29, .getfield 39, 3), (32, .iload_n 2, 1), (33, .dup2, 1), (34, .iaload, 1), (35, .iconst 1, 1), (36, .iadd, 1), (37, .iastore, 1), (38, .goto 13, 3), (41, .aload_n 0, 1), (42, .getfield 42, 3), (45, .iload_n 2, 1), (46, .dup2, 1), (47, .iaload, 1), (48, .iconst 1, 1), (49, .iadd, 1), (50, .iastore, 1), (51, .return_, 1)]
theorem dk27 : ∀ r ∈ k27, decode prog_4_method_14_code r.1 = .ok r.2 := by decide +kernel
def me27 : MethodName × ByteArray × Nat × Option FieldType × Nat × List (Nat × Instr × Nat) := (⟨"BeggarBridge$County", "tallyOne", "(I)V"⟩, prog_4_method_14_code, 3, none, 2, k27)
/-- BeggarBridge$County.passDay(LBeggarBridge$Law;)V -/
def k28 : List (Nat × Instr × Nat) := [(0, .aload_n 0, 1), (1, .iconst (-1), 1), (2, .aload_n 0, 1), (3, .getfield 49, 3), (6, .aload_n 1, 1), (7, .invokevirtual 101, 3), (10, .return_, 1)]
theorem dk28 : ∀ r ∈ k28, decode prog_4_method_15_code r.1 = .ok r.2 := by decide +kernel
def me28 : MethodName × ByteArray × Nat × Option FieldType × Nat × List (Nat × Instr × Nat) := (⟨"BeggarBridge$County", "passDay", "(LBeggarBridge$Law;)V"⟩, prog_4_method_15_code, 2, none, 2, k28)
/-- BeggarBridge$County.passDayAt(IILBeggarBridge$Law;)V -/
def k29_0 : List (Nat × Instr × Nat) := [(0, .iload_n 1, 1), (1, .iconst 0, 1), (2, .invokestatic 105, 3), (5, .istore 4, 2), (7, .iload 4, 2), (9, .iload_n 2, 1), (10, .if_icmp .ge 34, 3), (13, .iload 4, 2), (15, .aload_n 0, 1), (16, .getfield 49, 3), (19, .if_icmp .ge 25, 3), (22, .aload_n 0, 1), (23, .getfield 39, 3), (26, .iload 4, 2), (28, .iconst 0, 1), (29, .iastore, 1), (30, .aload_n 0, 1), (31, .getfield 42, 3), (34, .iload 4, 2), (36, .iconst 0, 1), (37, .iastore, 1), (38, .iinc 4 1, 3), (41, .goto (-34), 3), (44, .iconst 0, 1), (45, .istore 4, 2), (47, .iload 4, 2), (49, .aload_n 0, 1), (50, .getfield 52, 3), (53, .if_icmp .ge 115, 3), (56, .iload 4, 2), (58, .bipush 9, 2), (60, .if_icmp .ge 108, 3), (63, .aload_n 0, 1), (64, .getfield 36, 3), (67, .iload 4, 2), (69, .iaload, 1), (70, .istore 5, 2), (72, .iload 5, 2), (74, .iload_n 1, 1), (75, .if_icmp .lt 87, 3), (78, .iload 5, 2), (80, .iload_n 2, 1), (81, .if_icmp .ge 81, 3), (84, .aload_n 0, 1), (85, .iload 4, 2), (87, .invokevirtual 97, 3), (90, .aload_n 0, 1), (91, .iload 5, 2), (93, .invokevirtual 59, 3), (96, .ifCond .eq 33, 3), (99, .aload_n 0, 1), (100, .getfield 21, 3), (103, .iload 5, 2), (105, .iaload, 1), (106, .ifCond .le 23, 3), (109, .aload_n 0, 1), (110, .getfield 24, 3), (113, .iload 5, 2), (115, .iaload, 1), (116, .aload_n 0, 1)]
theorem dk29_0 : ∀ r ∈ k29_0, decode prog_4_method_16_code r.1 = .ok r.2 := by decide +kernel
def k29_1 : List (Nat × Instr × Nat) := [(117, .getfield 30, 3), (120, .iload 4, 2), (122, .iaload, 1), (123, .invokestatic 110, 3), (126, .goto 4, 3), (129, .iconst 0, 1), (130, .istore 6, 2), (132, .aload_n 0, 1), (133, .getfield 27, 3), (136, .iload 4, 2), (138, .aload_n 0, 1), (139, .getfield 27, 3), (142, .iload 4, 2), (144, .iaload, 1), (145, .iload 6, 2), (147, .iadd, 1), (148, .aload_n 0, 1), (149, .getfield 33, 3), (152, .iload 4, 2), (154, .iaload, 1), (155, .isub, 1), (156, .bipush 99, 2), (158, .invokestatic 78, 3), (161, .iastore, 1), (162, .iinc 4 1, 3), (165, .goto (-118), 3), (168, .iload_n 1, 1), (169, .iconst 0, 1), (170, .invokestatic 105, 3), (173, .istore 4, 2), (175, .iload 4, 2), (177, .iload_n 2, 1), (178, .if_icmp .ge 54, 3), (181, .iload 4, 2), (183, .aload_n 0, 1), (184, .getfield 49, 3), (187, .if_icmp .ge 45, 3), (190, .aload_n 0, 1), (191, .getfield 21, 3), (194, .iload 4, 2), (196, .iaload, 1), (197, .ifCond .le 29, 3), (200, .aload_n 0, 1), (201, .getfield 21, 3), (204, .iload 4, 2), (206, .iconst 0, 1), (207, .aload_n 0, 1), (208, .getfield 21, 3), (211, .iload 4, 2), (213, .iaload, 1), (214, .aload_n 3, 1), (215, .aload_n 0, 1), (216, .iload 4, 2), (218, .invokevirtual 113, 3), (221, .isub, 1), (222, .invokestatic 105, 3), (225, .iastore, 1), (226, .iinc 4 1, 3), (229, .goto (-54), 3), (232, .aload_n 0, 1)]
theorem dk29_1 : ∀ r ∈ k29_1, decode prog_4_method_16_code r.1 = .ok r.2 := by decide +kernel
def k29_2 : List (Nat × Instr × Nat) := [(233, .aload_n 0, 1), (234, .getfield 66, 3), (237, .bipush 6, 2), (239, .if_icmp .lt 7, 3), (242, .iconst 0, 1), (243, .goto 9, 3), (246, .aload_n 0, 1), (247, .getfield 66, 3), (250, .iconst 1, 1), (251, .iadd, 1), (252, .putfield 66, 3), (255, .return_, 1)]
theorem dk29_2 : ∀ r ∈ k29_2, decode prog_4_method_16_code r.1 = .ok r.2 := by decide +kernel
def k29 : List (Nat × Instr × Nat) := k29_0 ++ (k29_1 ++ (k29_2))
theorem dk29 : ∀ r ∈ k29, decode prog_4_method_16_code r.1 = .ok r.2 := List.forall_mem_append.mpr ⟨dk29_0, List.forall_mem_append.mpr ⟨dk29_1, dk29_2⟩⟩
def me29 : MethodName × ByteArray × Nat × Option FieldType × Nat × List (Nat × Instr × Nat) := (⟨"BeggarBridge$County", "passDayAt", "(IILBeggarBridge$Law;)V"⟩, prog_4_method_16_code, 7, none, 2, k29)
end
